theorem dX3_mixAll_137 : decode cX3_mixAll 137 = .ok (.aload_n 0, 1) := by decide +kernel
theorem dX3_mixAll_138 : decode cX3_mixAll 138 = .ok (.getfield 48, 3) := by decide +kernel
theorem dX3_mixAll_141 : decode cX3_mixAll 141 = .ok (.getfield 201, 3) := by decide +kernel
theorem dX3_mixAll_144 : decode cX3_mixAll 144 = .ok (.i2l, 1) := by decide +kernel
theorem dX3_mixAll_145 : decode cX3_mixAll 145 = .ok (.invokestatic 204, 3) := by decide +kernel
theorem dX3_mixAll_148 : decode cX3_mixAll 148 = .ok (.lstore_n 3, 1) := by decide +kernel
theorem dX3_mixAll_149 : decode cX3_mixAll 149 = .ok (.lload_n 3, 1) := by decide +kernel
theorem dX3_mixAll_150 : decode cX3_mixAll 150 = .ok (.aload_n 0, 1) := by decide +kernel
theorem dX3_mixAll_151 : decode cX3_mixAll 151 = .ok (.getfield 48, 3) := by decide +kernel
theorem dX3_mixAll_154 : decode cX3_mixAll 154 = .ok (.getfield 218, 3) := by decide +kernel
theorem dX3_mixAll_157 : decode cX3_mixAll 157 = .ok (.i2l, 1) := by decide +kernel
theorem dX3_mixAll_158 : decode cX3_mixAll 158 = .ok (.invokestatic 204, 3) := by decide +kernel
theorem dX3_mixAll_161 : decode cX3_mixAll 161 = .ok (.lstore_n 3, 1) := by decide +kernel
theorem dX3_mixAll_162 : decode cX3_mixAll 162 = .ok (.lload_n 3, 1) := by decide +kernel
theorem dX3_mixAll_163 : decode cX3_mixAll 163 = .ok (.aload_n 0, 1) := by decide +kernel
theorem dX3_mixAll_164 : decode cX3_mixAll 164 = .ok (.getfield 48, 3) := by decide +kernel
theorem dX3_mixAll_167 : decode cX3_mixAll 167 = .ok (.getfield 159, 3) := by decide +kernel
theorem dX3_mixAll_170 : decode cX3_mixAll 170 = .ok (.i2l, 1) := by decide +kernel
theorem dX3_mixAll_171 : decode cX3_mixAll 171 = .ok (.invokestatic 204, 3) := by decide +kernel
theorem dX3_mixAll_174 : decode cX3_mixAll 174 = .ok (.lreturn, 1) := by decide +kernel
set_option maxRecDepth 20000 in
theorem ggX4_init_X3_init : GoodIn wsX4_init wsX3_init := goodIn_r _ [12, 13, 2, 3, 14, 15, 16, 17, 18, 19, 20, 21, 22, 23, 24, 25, 26, 27, 28, 29, 30, 31, 32, 33, 34, 35, 36, 37, 38, 39, 40, 41, 42, 43, 44, 45, 46, 47, 48, 49, 50, 51, 52, 53, 54, 55, 56, 57, 58, 59, 60, 61, 62, 63, 64, 65, 66, 67, 68, 69, 70, 71, 72, 73, 74, 75, 76, 77, 78, 82, 83, 84, 85, 86, 87, 88, 89, 90, 91, 92, 93, 94, 95, 96, 97, 98, 99, 100, 101, 102] (by decide +kernel) (by decide +kernel)
set_option maxRecDepth 20000 in
theorem gX4_init_X3_init : GoodIn wsX4_init (wsX3_init) := ggX4_init_X3_init
theorem dX4_init_0 : decode cX4_init 0 = .ok (.aload_n 0, 1) := by decide +kernel
theorem dX4_init_1 : decode cX4_init 1 = .ok (.invokespecial 1, 3) := by decide +kernel
theorem dX4_init_4 : decode cX4_init 4 = .ok (.aload_n 0, 1) := by decide +kernel
theorem dX4_init_5 : decode cX4_init 5 = .ok (.new 7, 3) := by decide +kernel
theorem dX4_init_8 : decode cX4_init 8 = .ok (.dup, 1) := by decide +kernel
theorem dX4_init_9 : decode cX4_init 9 = .ok (.invokespecial 9, 3) := by decide +kernel
theorem dX4_init_12 : decode cX4_init 12 = .ok (.putfield 10, 3) := by decide +kernel
theorem dX4_init_15 : decode cX4_init 15 = .ok (.aload_n 0, 1) := by decide +kernel
theorem dX4_init_16 : decode cX4_init 16 = .ok (.iconst 3, 1) := by decide +kernel
theorem dX4_init_17 : decode cX4_init 17 = .ok (.anewarray 7, 3) := by decide +kernel
theorem dX4_init_20 : decode cX4_init 20 = .ok (.putfield 16, 3) := by decide +kernel
theorem dX4_init_23 : decode cX4_init 23 = .ok (.iconst 0, 1) := by decide +kernel
theorem dX4_init_24 : decode cX4_init 24 = .ok (.istore_n 1, 1) := by decide +kernel
theorem dX4_init_25 : decode cX4_init 25 = .ok (.iload_n 1, 1) := by decide +kernel
theorem dX4_init_26 : decode cX4_init 26 = .ok (.iconst 3, 1) := by decide +kernel
theorem dX4_init_27 : decode cX4_init 27 = .ok (.if_icmp .ge 22, 3) := by decide +kernel
theorem dX4_init_30 : decode cX4_init 30 = .ok (.aload_n 0, 1) := by decide +kernel
theorem dX4_init_31 : decode cX4_init 31 = .ok (.getfield 16, 3) := by decide +kernel
theorem dX4_init_34 : decode cX4_init 34 = .ok (.iload_n 1, 1) := by decide +kernel
theorem dX4_init_35 : decode cX4_init 35 = .ok (.new 7, 3) := by decide +kernel
theorem dX4_init_38 : decode cX4_init 38 = .ok (.dup, 1) := by decide +kernel
theorem dX4_init_39 : decode cX4_init 39 = .ok (.invokespecial 9, 3) := by decide +kernel
theorem dX4_init_42 : decode cX4_init 42 = .ok (.aastore, 1) := by decide +kernel
theorem dX4_init_43 : decode cX4_init 43 = .ok (.iinc 1 1, 3) := by decide +kernel
theorem dX4_init_46 : decode cX4_init 46 = .ok (.goto (-21), 3) := by decide +kernel
theorem dX4_init_49 : decode cX4_init 49 = .ok (.aload_n 0, 1) := by decide +kernel
theorem dX4_init_50 : decode cX4_init 50 = .ok (.iconst 0, 1) := by decide +kernel
theorem dX4_init_51 : decode cX4_init 51 = .ok (.putfield 20, 3) := by decide +kernel
theorem dX4_init_54 : decode cX4_init 54 = .ok (.return_, 1) := by decide +kernel
set_option maxRecDepth 20000 in
theorem ggX4_addServer_X4_save : GoodIn wsX4_addServer wsX4_save := goodIn_r _ [9, 10, 11, 3, 12, 13, 14, 8, 15, 16, 17, 18, 19, 20, 21, 22, 23, 24, 25, 26, 27, 28, 29, 30, 31, 32, 33, 34, 35, 36, 37, 38, 39, 40, 41, 42, 43, 44, 45, 46, 47, 48, 49, 50, 51, 52, 53, 54, 55, 56, 57, 58, 59, 60, 61, 62, 63, 64, 65, 66, 67, 68, 69, 70, 71, 72, 73, 74, 75, 76, 77, 104, 105, 106, 107, 108, 109, 110, 111, 112, 113, 114, 115, 116, 117, 118, 119, 120, 121, 122, 123, 124, 125, 126, 127, 128, 129, 130, 131, 132, 133, 134, 135, 136, 137, 138] (by decide +kernel) (by decide +kernel)
set_option maxRecDepth 20000 in
theorem gX4_addServer_X4_save : GoodIn wsX4_addServer (wsV RX4 34 RX4 yX4_save wsX4_save) := goodIn_app (goodIn_of _ (by decide +kernel)) ggX4_addServer_X4_save
set_option maxRecDepth 20000 in
theorem ggX4_addServer_X3_openServer : GoodIn wsX4_addServer wsX3_openServer := goodIn_r _ [81, 25, 71, 72, 73, 19, 74, 75, 27, 76, 77, 82, 83, 84, 85, 26, 28, 86, 87, 88, 89, 90, 23, 91, 92, 93, 94, 95, 22, 96, 97, 98, 99, 100, 101, 102, 44, 103, 48, 49, 107, 108, 109, 110, 111, 112, 113, 114, 115, 116, 117, 118, 119, 120, 121, 122, 123, 124, 125, 126, 127, 128] (by decide +kernel) (by decide +kernel)
set_option maxRecDepth 20000 in
theorem gX4_addServer_X3_openServer : GoodIn wsX4_addServer (wsV RX4 37 RX3 yX3_openServer wsX3_openServer) := goodIn_app (goodIn_of _ (by decide +kernel)) ggX4_addServer_X3_openServer
theorem dX4_addServer_0 : decode cX4_addServer 0 = .ok (.aload_n 0, 1) := by decide +kernel
theorem dX4_addServer_1 : decode cX4_addServer 1 = .ok (.getfield 10, 3) := by decide +kernel
theorem dX4_addServer_4 : decode cX4_addServer 4 = .ok (.getfield 24, 3) := by decide +kernel
theorem dX4_addServer_7 : decode cX4_addServer 7 = .ok (.bipush 8, 2) := by decide +kernel
theorem dX4_addServer_9 : decode cX4_addServer 9 = .ok (.if_icmp .lt 13, 3) := by decide +kernel
theorem dX4_addServer_12 : decode cX4_addServer 12 = .ok (.new 27, 3) := by decide +kernel
theorem dX4_addServer_15 : decode cX4_addServer 15 = .ok (.dup, 1) := by decide +kernel
theorem dX4_addServer_16 : decode cX4_addServer 16 = .ok (.ldc 29, 2) := by decide +kernel
theorem dX4_addServer_18 : decode cX4_addServer 18 = .ok (.invokespecial 31, 3) := by decide +kernel
theorem dX4_addServer_21 : decode cX4_addServer 21 = .ok (.athrow, 1) := by decide +kernel
theorem dX4_addServer_22 : decode cX4_addServer 22 = .ok (.aload_n 0, 1) := by decide +kernel
theorem dX4_addServer_23 : decode cX4_addServer 23 = .ok (.invokevirtual 34, 3) := by decide +kernel
theorem dX4_addServer_26 : decode cX4_addServer 26 = .ok (.aload_n 0, 1) := by decide +kernel
theorem dX4_addServer_27 : decode cX4_addServer 27 = .ok (.getfield 10, 3) := by decide +kernel
theorem dX4_addServer_30 : decode cX4_addServer 30 = .ok (.invokevirtual 37, 3) := by decide +kernel
theorem dX4_addServer_33 : decode cX4_addServer 33 = .ok (.ireturn, 1) := by decide +kernel
set_option maxRecDepth 20000 in
theorem ggX4_addDispatcher_X4_requireRange : GoodIn wsX4_addDispatcher wsX4_requireRange := goodIn_ca (goodIn_r _ [8, 9, 10] (by decide +kernel) (by decide +kernel)) (goodIn_sub (fun _ h => List.mem_cons_of_mem _ (List.mem_append_right _ h)) (by decide +kernel))
set_option maxRecDepth 20000 in
theorem gX4_addDispatcher_X4_requireRange : GoodIn wsX4_addDispatcher (va_wsS RX4 41 yX4_requireRange wsX4_requireRange) := goodIn_app (goodIn_of _ (by decide +kernel)) ggX4_addDispatcher_X4_requireRange
set_option maxRecDepth 20000 in
theorem ggX4_addDispatcher_X4_save : GoodIn wsX4_addDispatcher wsX4_save := goodIn_r _ [14, 15, 16, 3, 17, 18, 19, 7, 20, 21, 22, 23, 24, 25, 26, 27, 28, 29, 30, 31, 32, 33, 34, 35, 36, 37, 38, 39, 40, 41, 42, 43, 44, 45, 46, 47, 48, 49, 50, 51, 52, 53, 54, 55, 56, 57, 58, 59, 60, 61, 62, 63, 64, 65, 66, 67, 68, 69, 70, 71, 72, 73, 74, 75, 76, 77, 78, 79, 80, 81, 82, 88, 89, 90, 91, 92, 93, 94, 95, 96, 97, 98, 99, 100, 101, 102, 103, 104, 105, 106, 107, 108, 109, 110, 111, 112, 113, 114, 115, 116, 117, 118, 119, 120, 121, 122] (by decide +kernel) (by decide +kernel)
set_option maxRecDepth 20000 in
theorem gX4_addDispatcher_X4_save : GoodIn wsX4_addDispatcher (wsV RX4 34 RX4 yX4_save wsX4_save) := goodIn_app (goodIn_of _ (by decide +kernel)) ggX4_addDispatcher_X4_save
set_option maxRecDepth 20000 in
theorem ggX4_addDispatcher_X3_openDispatcher : GoodIn wsX4_addDispatcher wsX3_openDispatcher := goodIn_r _ [86, 31, 33, 87, 91, 92, 93, 94, 95, 96, 97, 98, 99, 100, 101, 108, 109, 110, 111, 112] (by decide +kernel) (by decide +kernel)
set_option maxRecDepth 20000 in
theorem gX4_addDispatcher_X3_openDispatcher : GoodIn wsX4_addDispatcher (wsV RX4 50 RX3 yX3_openDispatcher wsX3_openDispatcher) := goodIn_app (goodIn_of _ (by decide +kernel)) ggX4_addDispatcher_X3_openDispatcher
theorem dX4_addDispatcher_0 : decode cX4_addDispatcher 0 = .ok (.iload_n 1, 1) := by decide +kernel
theorem dX4_addDispatcher_1 : decode cX4_addDispatcher 1 = .ok (.iconst 0, 1) := by decide +kernel
theorem dX4_addDispatcher_2 : decode cX4_addDispatcher 2 = .ok (.iconst 4, 1) := by decide +kernel
theorem dX4_addDispatcher_3 : decode cX4_addDispatcher 3 = .ok (.invokestatic 41, 3) := by decide +kernel
theorem dX4_addDispatcher_6 : decode cX4_addDispatcher 6 = .ok (.aload_n 0, 1) := by decide +kernel
theorem dX4_addDispatcher_7 : decode cX4_addDispatcher 7 = .ok (.getfield 10, 3) := by decide +kernel
theorem dX4_addDispatcher_10 : decode cX4_addDispatcher 10 = .ok (.getfield 45, 3) := by decide +kernel
theorem dX4_addDispatcher_13 : decode cX4_addDispatcher 13 = .ok (.iconst 4, 1) := by decide +kernel
theorem dX4_addDispatcher_14 : decode cX4_addDispatcher 14 = .ok (.if_icmp .lt 13, 3) := by decide +kernel
theorem dX4_addDispatcher_17 : decode cX4_addDispatcher 17 = .ok (.new 27, 3) := by decide +kernel
theorem dX4_addDispatcher_20 : decode cX4_addDispatcher 20 = .ok (.dup, 1) := by decide +kernel
theorem dX4_addDispatcher_21 : decode cX4_addDispatcher 21 = .ok (.ldc 48, 2) := by decide +kernel
theorem dX4_addDispatcher_23 : decode cX4_addDispatcher 23 = .ok (.invokespecial 31, 3) := by decide +kernel
theorem dX4_addDispatcher_26 : decode cX4_addDispatcher 26 = .ok (.athrow, 1) := by decide +kernel
theorem dX4_addDispatcher_27 : decode cX4_addDispatcher 27 = .ok (.aload_n 0, 1) := by decide +kernel
theorem dX4_addDispatcher_28 : decode cX4_addDispatcher 28 = .ok (.invokevirtual 34, 3) := by decide +kernel
theorem dX4_addDispatcher_31 : decode cX4_addDispatcher 31 = .ok (.aload_n 0, 1) := by decide +kernel
theorem dX4_addDispatcher_32 : decode cX4_addDispatcher 32 = .ok (.getfield 10, 3) := by decide +kernel
theorem dX4_addDispatcher_35 : decode cX4_addDispatcher 35 = .ok (.iload_n 1, 1) := by decide +kernel
theorem dX4_addDispatcher_36 : decode cX4_addDispatcher 36 = .ok (.invokevirtual 50, 3) := by decide +kernel
theorem dX4_addDispatcher_39 : decode cX4_addDispatcher 39 = .ok (.ireturn, 1) := by decide +kernel
set_option maxRecDepth 20000 in
theorem ggX4_setPolicy_X4_requireDispatcher : GoodIn wsX4_setPolicy wsX4_requireDispatcher := goodIn_ca (goodIn_r _ [8, 9, 10, 1, 11, 87, 88, 89, 90, 91, 92, 93, 94, 95, 96, 97, 98, 99, 100] (by decide +kernel) (by decide +kernel)) (goodIn_sub (fun _ h => List.mem_cons_of_mem _ (List.mem_append_right _ h)) (by decide +kernel))
set_option maxRecDepth 20000 in
theorem gX4_setPolicy_X4_requireDispatcher : GoodIn wsX4_setPolicy (wsV RX4 54 RX4 yX4_requireDispatcher wsX4_requireDispatcher) := goodIn_app (goodIn_of _ (by decide +kernel)) ggX4_setPolicy_X4_requireDispatcher
set_option maxRecDepth 20000 in
theorem ggX4_setPolicy_X4_requireRange : GoodIn wsX4_setPolicy wsX4_requireRange := goodIn_ca (goodIn_r _ [14, 9, 10] (by decide +kernel) (by decide +kernel)) (goodIn_sub (fun _ h => List.mem_cons_of_mem _ (List.mem_append_right _ h)) (by decide +kernel))
set_option maxRecDepth 20000 in
theorem gX4_setPolicy_X4_requireRange : GoodIn wsX4_setPolicy (va_wsS RX4 41 yX4_requireRange wsX4_requireRange) := goodIn_app (goodIn_of _ (by decide +kernel)) ggX4_setPolicy_X4_requireRange
set_option maxRecDepth 20000 in
theorem ggX4_setPolicy_X4_save : GoodIn wsX4_setPolicy wsX4_save := goodIn_r _ [18, 19, 20, 1, 21, 22, 23, 7, 24, 25, 26, 27, 28, 29, 30, 31, 32, 33, 34, 35, 36, 37, 38, 39, 40, 41, 42, 43, 44, 45, 46, 47, 48, 49, 50, 51, 52, 53, 54, 55, 56, 57, 58, 59, 60, 61, 62, 63, 64, 65, 66, 67, 68, 69, 70, 71, 72, 73, 74, 75, 76, 77, 78, 79, 80, 81, 82, 83, 84, 85, 86, 87, 88, 89, 90, 91, 92, 93, 94, 95, 96, 97, 98, 99, 100, 106, 107, 108, 109, 110, 111, 101, 102, 103, 104, 105, 112, 113, 114, 115, 116, 117, 118, 119, 120, 121] (by decide +kernel) (by decide +kernel)
set_option maxRecDepth 20000 in
theorem gX4_setPolicy_X4_save : GoodIn wsX4_setPolicy (wsV RX4 34 RX4 yX4_save wsX4_save) := goodIn_app (goodIn_of _ (by decide +kernel)) ggX4_setPolicy_X4_save
theorem dX4_setPolicy_0 : decode cX4_setPolicy 0 = .ok (.aload_n 0, 1) := by decide +kernel
theorem dX4_setPolicy_1 : decode cX4_setPolicy 1 = .ok (.iload_n 1, 1) := by decide +kernel
theorem dX4_setPolicy_2 : decode cX4_setPolicy 2 = .ok (.invokevirtual 54, 3) := by decide +kernel
theorem dX4_setPolicy_5 : decode cX4_setPolicy 5 = .ok (.iload_n 2, 1) := by decide +kernel
theorem dX4_setPolicy_6 : decode cX4_setPolicy 6 = .ok (.iconst 0, 1) := by decide +kernel
theorem dX4_setPolicy_7 : decode cX4_setPolicy 7 = .ok (.iconst 4, 1) := by decide +kernel
theorem dX4_setPolicy_8 : decode cX4_setPolicy 8 = .ok (.invokestatic 41, 3) := by decide +kernel
theorem dX4_setPolicy_11 : decode cX4_setPolicy 11 = .ok (.aload_n 0, 1) := by decide +kernel
theorem dX4_setPolicy_12 : decode cX4_setPolicy 12 = .ok (.invokevirtual 34, 3) := by decide +kernel
theorem dX4_setPolicy_15 : decode cX4_setPolicy 15 = .ok (.aload_n 0, 1) := by decide +kernel
theorem dX4_setPolicy_16 : decode cX4_setPolicy 16 = .ok (.getfield 10, 3) := by decide +kernel
theorem dX4_setPolicy_19 : decode cX4_setPolicy 19 = .ok (.getfield 58, 3) := by decide +kernel
theorem dX4_setPolicy_22 : decode cX4_setPolicy 22 = .ok (.iload_n 1, 1) := by decide +kernel
theorem dX4_setPolicy_23 : decode cX4_setPolicy 23 = .ok (.aaload, 1) := by decide +kernel
theorem dX4_setPolicy_24 : decode cX4_setPolicy 24 = .ok (.getfield 62, 3) := by decide +kernel
theorem dX4_setPolicy_27 : decode cX4_setPolicy 27 = .ok (.istore_n 3, 1) := by decide +kernel
theorem dX4_setPolicy_28 : decode cX4_setPolicy 28 = .ok (.aload_n 0, 1) := by decide +kernel
theorem dX4_setPolicy_29 : decode cX4_setPolicy 29 = .ok (.getfield 10, 3) := by decide +kernel
theorem dX4_setPolicy_32 : decode cX4_setPolicy 32 = .ok (.getfield 58, 3) := by decide +kernel
theorem dX4_setPolicy_35 : decode cX4_setPolicy 35 = .ok (.iload_n 1, 1) := by decide +kernel
theorem dX4_setPolicy_36 : decode cX4_setPolicy 36 = .ok (.aaload, 1) := by decide +kernel
theorem dX4_setPolicy_37 : decode cX4_setPolicy 37 = .ok (.iload_n 2, 1) := by decide +kernel
theorem dX4_setPolicy_38 : decode cX4_setPolicy 38 = .ok (.putfield 62, 3) := by decide +kernel
theorem dX4_setPolicy_41 : decode cX4_setPolicy 41 = .ok (.iload_n 3, 1) := by decide +kernel
theorem dX4_setPolicy_42 : decode cX4_setPolicy 42 = .ok (.ireturn, 1) := by decide +kernel
set_option maxRecDepth 20000 in
theorem ggX4_setJoinMode_X4_requireRange : GoodIn wsX4_setJoinMode wsX4_requireRange := goodIn_ca (goodIn_r _ [6, 7, 8] (by decide +kernel) (by decide +kernel)) (goodIn_sub (fun _ h => List.mem_cons_of_mem _ (List.mem_append_right _ h)) (by decide +kernel))
set_option maxRecDepth 20000 in
theorem gX4_setJoinMode_X4_requireRange : GoodIn wsX4_setJoinMode (va_wsS RX4 41 yX4_requireRange wsX4_requireRange) := goodIn_app (goodIn_of _ (by decide +kernel)) ggX4_setJoinMode_X4_requireRange
set_option maxRecDepth 20000 in
theorem ggX4_setJoinMode_X4_save : GoodIn wsX4_setJoinMode wsX4_save := goodIn_r _ [12, 13, 14, 1, 15, 16, 17, 5, 18, 19, 20, 21, 22, 23, 24, 25, 26, 27, 28, 29, 30, 31, 32, 33, 34, 35, 36, 37, 38, 39, 40, 41, 42, 43, 44, 45, 46, 47, 48, 49, 50, 51, 52, 53, 54, 55, 56, 57, 58, 59, 60, 61, 62, 63, 64, 65, 66, 67, 68, 69, 70, 71, 72, 73, 74, 75, 76, 77, 78, 79, 80, 81, 82, 83, 84, 85, 86, 87, 88, 89, 90, 91, 92, 93, 94, 95, 96, 97, 98, 99, 100, 101, 102, 103, 104, 105, 106, 107, 108, 109, 110, 111, 112, 113, 114, 115] (by decide +kernel) (by decide +kernel)
set_option maxRecDepth 20000 in
theorem gX4_setJoinMode_X4_save : GoodIn wsX4_setJoinMode (wsV RX4 34 RX4 yX4_save wsX4_save) := goodIn_app (goodIn_of _ (by decide +kernel)) ggX4_setJoinMode_X4_save
theorem dX4_setJoinMode_0 : decode cX4_setJoinMode 0 = .ok (.iload_n 1, 1) := by decide +kernel
theorem dX4_setJoinMode_1 : decode cX4_setJoinMode 1 = .ok (.iconst 0, 1) := by decide +kernel
theorem dX4_setJoinMode_2 : decode cX4_setJoinMode 2 = .ok (.iconst 2, 1) := by decide +kernel
theorem dX4_setJoinMode_3 : decode cX4_setJoinMode 3 = .ok (.invokestatic 41, 3) := by decide +kernel
theorem dX4_setJoinMode_6 : decode cX4_setJoinMode 6 = .ok (.aload_n 0, 1) := by decide +kernel
theorem dX4_setJoinMode_7 : decode cX4_setJoinMode 7 = .ok (.invokevirtual 34, 3) := by decide +kernel
theorem dX4_setJoinMode_10 : decode cX4_setJoinMode 10 = .ok (.aload_n 0, 1) := by decide +kernel
theorem dX4_setJoinMode_11 : decode cX4_setJoinMode 11 = .ok (.getfield 10, 3) := by decide +kernel
theorem dX4_setJoinMode_14 : decode cX4_setJoinMode 14 = .ok (.getfield 67, 3) := by decide +kernel
theorem dX4_setJoinMode_17 : decode cX4_setJoinMode 17 = .ok (.istore_n 2, 1) := by decide +kernel
theorem dX4_setJoinMode_18 : decode cX4_setJoinMode 18 = .ok (.aload_n 0, 1) := by decide +kernel
theorem dX4_setJoinMode_19 : decode cX4_setJoinMode 19 = .ok (.getfield 10, 3) := by decide +kernel
theorem dX4_setJoinMode_22 : decode cX4_setJoinMode 22 = .ok (.iload_n 1, 1) := by decide +kernel
theorem dX4_setJoinMode_23 : decode cX4_setJoinMode 23 = .ok (.putfield 67, 3) := by decide +kernel
theorem dX4_setJoinMode_26 : decode cX4_setJoinMode 26 = .ok (.iload_n 2, 1) := by decide +kernel
theorem dX4_setJoinMode_27 : decode cX4_setJoinMode 27 = .ok (.ireturn, 1) := by decide +kernel
set_option maxRecDepth 20000 in
theorem ggX4_setReportPeriod_X4_requireRange : GoodIn wsX4_setReportPeriod wsX4_requireRange := goodIn_ca (goodIn_r _ [6, 7, 8] (by decide +kernel) (by decide +kernel)) (goodIn_sub (fun _ h => List.mem_cons_of_mem _ (List.mem_append_right _ h)) (by decide +kernel))
set_option maxRecDepth 20000 in
theorem gX4_setReportPeriod_X4_requireRange : GoodIn wsX4_setReportPeriod (va_wsS RX4 41 yX4_requireRange wsX4_requireRange) := goodIn_app (goodIn_of _ (by decide +kernel)) ggX4_setReportPeriod_X4_requireRange
set_option maxRecDepth 20000 in
theorem ggX4_setReportPeriod_X4_save : GoodIn wsX4_setReportPeriod wsX4_save := goodIn_r _ [12, 13, 14, 1, 15, 16, 17, 5, 18, 19, 20, 21, 22, 23, 24, 25, 26, 27, 28, 29, 30, 31, 32, 33, 34, 35, 36, 37, 38, 39, 40, 41, 42, 43, 44, 45, 46, 47, 48, 49, 50, 51, 52, 53, 54, 55, 56, 57, 58, 59, 60, 61, 62, 63, 64, 65, 66, 67, 68, 69, 70, 71, 72, 73, 74, 75, 76, 77, 78, 79, 80, 81, 82, 83, 84, 85, 86, 87, 88, 89, 90, 91, 92, 93, 94, 95, 96, 97, 98, 99, 100, 101, 102, 103, 104, 105, 106, 107, 108, 109, 110, 111, 112, 113, 114, 115] (by decide +kernel) (by decide +kernel)
set_option maxRecDepth 20000 in
theorem gX4_setReportPeriod_X4_save : GoodIn wsX4_setReportPeriod (wsV RX4 34 RX4 yX4_save wsX4_save) := goodIn_app (goodIn_of _ (by decide +kernel)) ggX4_setReportPeriod_X4_save
theorem dX4_setReportPeriod_0 : decode cX4_setReportPeriod 0 = .ok (.iload_n 1, 1) := by decide +kernel
theorem dX4_setReportPeriod_1 : decode cX4_setReportPeriod 1 = .ok (.iconst 1, 1) := by decide +kernel
theorem dX4_setReportPeriod_2 : decode cX4_setReportPeriod 2 = .ok (.bipush 100, 2) := by decide +kernel
theorem dX4_setReportPeriod_4 : decode cX4_setReportPeriod 4 = .ok (.invokestatic 41, 3) := by decide +kernel
theorem dX4_setReportPeriod_7 : decode cX4_setReportPeriod 7 = .ok (.aload_n 0, 1) := by decide +kernel
theorem dX4_setReportPeriod_8 : decode cX4_setReportPeriod 8 = .ok (.invokevirtual 34, 3) := by decide +kernel
theorem dX4_setReportPeriod_11 : decode cX4_setReportPeriod 11 = .ok (.aload_n 0, 1) := by decide +kernel
theorem dX4_setReportPeriod_12 : decode cX4_setReportPeriod 12 = .ok (.getfield 10, 3) := by decide +kernel
theorem dX4_setReportPeriod_15 : decode cX4_setReportPeriod 15 = .ok (.getfield 70, 3) := by decide +kernel
theorem dX4_setReportPeriod_18 : decode cX4_setReportPeriod 18 = .ok (.istore_n 2, 1) := by decide +kernel
theorem dX4_setReportPeriod_19 : decode cX4_setReportPeriod 19 = .ok (.aload_n 0, 1) := by decide +kernel
theorem dX4_setReportPeriod_20 : decode cX4_setReportPeriod 20 = .ok (.getfield 10, 3) := by decide +kernel
theorem dX4_setReportPeriod_23 : decode cX4_setReportPeriod 23 = .ok (.iload_n 1, 1) := by decide +kernel
theorem dX4_setReportPeriod_24 : decode cX4_setReportPeriod 24 = .ok (.putfield 70, 3) := by decide +kernel
theorem dX4_setReportPeriod_27 : decode cX4_setReportPeriod 27 = .ok (.iload_n 2, 1) := by decide +kernel
theorem dX4_setReportPeriod_28 : decode cX4_setReportPeriod 28 = .ok (.ireturn, 1) := by decide +kernel
set_option maxRecDepth 20000 in
theorem ggX4_setRandom_X4_requireRange : GoodIn wsX4_setRandom wsX4_requireRange := goodIn_ca (goodIn_r _ [7, 8, 9] (by decide +kernel) (by decide +kernel)) (goodIn_sub (fun _ h => List.mem_cons_of_mem _ (List.mem_append_right _ h)) (by decide +kernel))
set_option maxRecDepth 20000 in
theorem gX4_setRandom_X4_requireRange : GoodIn wsX4_setRandom (va_wsS RX4 41 yX4_requireRange wsX4_requireRange) := goodIn_app (goodIn_of _ (by decide +kernel)) ggX4_setRandom_X4_requireRange
set_option maxRecDepth 20000 in
theorem ggX4_setRandom_X4_save : GoodIn wsX4_setRandom wsX4_save := goodIn_r _ [13, 14, 15, 2, 16, 17, 18, 6, 19, 20, 21, 22, 23, 24, 25, 26, 27, 28, 29, 30, 31, 32, 33, 34, 35, 36, 37, 38, 39, 40, 41, 42, 43, 44, 45, 46, 47, 48, 49, 50, 51, 52, 53, 54, 55, 56, 57, 58, 59, 60, 61, 62, 63, 64, 65, 66, 67, 68, 69, 70, 71, 72, 73, 74, 75, 76, 77, 78, 79, 80, 81, 82, 83, 84, 85, 86, 87, 88, 89, 90, 91, 92, 93, 94, 95, 96, 97, 98, 99, 100, 101, 102, 103, 104, 105, 106, 107, 108, 109, 110, 111, 112, 113, 114, 115, 116] (by decide +kernel) (by decide +kernel)
set_option maxRecDepth 20000 in
theorem gX4_setRandom_X4_save : GoodIn wsX4_setRandom (wsV RX4 34 RX4 yX4_save wsX4_save) := goodIn_app (goodIn_of _ (by decide +kernel)) ggX4_setRandom_X4_save
theorem dX4_setRandom_0 : decode cX4_setRandom 0 = .ok (.iload_n 1, 1) := by decide +kernel
theorem dX4_setRandom_1 : decode cX4_setRandom 1 = .ok (.iconst 0, 1) := by decide +kernel
theorem dX4_setRandom_2 : decode cX4_setRandom 2 = .ok (.ldc 73, 2) := by decide +kernel
theorem dX4_setRandom_4 : decode cX4_setRandom 4 = .ok (.invokestatic 41, 3) := by decide +kernel
theorem dX4_setRandom_7 : decode cX4_setRandom 7 = .ok (.aload_n 0, 1) := by decide +kernel
theorem dX4_setRandom_8 : decode cX4_setRandom 8 = .ok (.invokevirtual 34, 3) := by decide +kernel
theorem dX4_setRandom_11 : decode cX4_setRandom 11 = .ok (.aload_n 0, 1) := by decide +kernel
theorem dX4_setRandom_12 : decode cX4_setRandom 12 = .ok (.getfield 10, 3) := by decide +kernel
theorem dX4_setRandom_15 : decode cX4_setRandom 15 = .ok (.iload_n 1, 1) := by decide +kernel
theorem dX4_setRandom_16 : decode cX4_setRandom 16 = .ok (.i2l, 1) := by decide +kernel
theorem dX4_setRandom_17 : decode cX4_setRandom 17 = .ok (.putfield 74, 3) := by decide +kernel
theorem dX4_setRandom_20 : decode cX4_setRandom 20 = .ok (.iconst 1, 1) := by decide +kernel
theorem dX4_setRandom_21 : decode cX4_setRandom 21 = .ok (.ireturn, 1) := by decide +kernel
set_option maxRecDepth 20000 in
theorem ggX4_setUp_X4_requireServer : GoodIn wsX4_setUp wsX4_requireServer := goodIn_ca (goodIn_r _ [6, 7, 8, 1, 9, 117, 118, 119, 120, 121, 122, 123, 124, 125, 126, 127, 128, 129, 130] (by decide +kernel) (by decide +kernel)) (goodIn_sub (fun _ h => List.mem_cons_of_mem _ (List.mem_append_right _ h)) (by decide +kernel))
set_option maxRecDepth 20000 in
theorem gX4_setUp_X4_requireServer : GoodIn wsX4_setUp (wsV RX4 78 RX4 yX4_requireServer wsX4_requireServer) := goodIn_app (goodIn_of _ (by decide +kernel)) ggX4_setUp_X4_requireServer
set_option maxRecDepth 20000 in
theorem ggX4_setUp_X4_save : GoodIn wsX4_setUp wsX4_save := goodIn_r _ [13, 14, 15, 1, 16, 17, 18, 5, 19, 20, 21, 22, 23, 24, 25, 26, 27, 28, 29, 30, 31, 32, 33, 34, 35, 36, 37, 38, 39, 40, 41, 42, 43, 44, 45, 46, 47, 48, 49, 50, 51, 52, 53, 54, 55, 56, 57, 58, 59, 60, 61, 62, 63, 64, 65, 66, 67, 68, 69, 70, 71, 72, 73, 74, 75, 76, 77, 78, 79, 80, 81, 117, 118, 119, 120, 121, 122, 123, 124, 125, 126, 127, 128, 129, 130, 131, 132, 133, 134, 135, 136, 137, 138, 139, 140, 141, 142, 143, 144, 145, 146, 147, 148, 149, 150, 151] (by decide +kernel) (by decide +kernel)
set_option maxRecDepth 20000 in
theorem gX4_setUp_X4_save : GoodIn wsX4_setUp (wsV RX4 34 RX4 yX4_save wsX4_save) := goodIn_app (goodIn_of _ (by decide +kernel)) ggX4_setUp_X4_save
set_option maxRecDepth 20000 in
theorem ggX4_setUp_X3_switchServer : GoodIn wsX4_setUp wsX3_switchServer := goodIn_r _ [85, 31, 80, 86, 75, 76, 77, 23, 78, 79, 29, 81, 87, 88, 89, 90, 91, 32, 92, 93, 94, 48, 95, 52, 53, 96, 97, 98, 99, 30, 100, 101, 102, 103, 27, 104, 105, 106, 107, 108, 26, 109, 110, 111, 112, 113, 114, 115, 116, 120, 121, 122, 123, 124, 125, 126, 127, 128, 129, 130, 131, 132, 133, 134, 135, 136, 137, 138, 139, 140, 141] (by decide +kernel) (by decide +kernel)
set_option maxRecDepth 20000 in
theorem gX4_setUp_X3_switchServer : GoodIn wsX4_setUp (wsV RX4 81 RX3 yX3_switchServer wsX3_switchServer) := goodIn_app (goodIn_of _ (by decide +kernel)) ggX4_setUp_X3_switchServer
theorem dX4_setUp_0 : decode cX4_setUp 0 = .ok (.aload_n 0, 1) := by decide +kernel
theorem dX4_setUp_1 : decode cX4_setUp 1 = .ok (.iload_n 1, 1) := by decide +kernel
theorem dX4_setUp_2 : decode cX4_setUp 2 = .ok (.invokevirtual 78, 3) := by decide +kernel
theorem dX4_setUp_5 : decode cX4_setUp 5 = .ok (.aload_n 0, 1) := by decide +kernel
theorem dX4_setUp_6 : decode cX4_setUp 6 = .ok (.invokevirtual 34, 3) := by decide +kernel
theorem dX4_setUp_9 : decode cX4_setUp 9 = .ok (.aload_n 0, 1) := by decide +kernel
theorem dX4_setUp_10 : decode cX4_setUp 10 = .ok (.getfield 10, 3) := by decide +kernel
theorem dX4_setUp_13 : decode cX4_setUp 13 = .ok (.iload_n 1, 1) := by decide +kernel
theorem dX4_setUp_14 : decode cX4_setUp 14 = .ok (.iload_n 2, 1) := by decide +kernel
theorem dX4_setUp_15 : decode cX4_setUp 15 = .ok (.invokevirtual 81, 3) := by decide +kernel
theorem dX4_setUp_18 : decode cX4_setUp 18 = .ok (.ireturn, 1) := by decide +kernel
set_option maxRecDepth 20000 in
theorem ggX4_submit_X4_requireDispatcher : GoodIn wsX4_submit wsX4_requireDispatcher := goodIn_ca (goodIn_r _ [10, 11, 12, 3, 13, 166, 167, 168, 169, 170, 171, 172, 173, 174, 175, 176, 177, 178, 179] (by decide +kernel) (by decide +kernel)) (goodIn_sub (fun _ h => List.mem_cons_of_mem _ (List.mem_append_right _ h)) (by decide +kernel))
set_option maxRecDepth 20000 in
theorem gX4_submit_X4_requireDispatcher : GoodIn wsX4_submit (wsV RX4 54 RX4 yX4_requireDispatcher wsX4_requireDispatcher) := goodIn_app (goodIn_of _ (by decide +kernel)) ggX4_submit_X4_requireDispatcher
set_option maxRecDepth 20000 in
theorem ggX4_submit_X4_requireRange : GoodIn wsX4_submit wsX4_requireRange := goodIn_ca (goodIn_r _ [16, 11, 12] (by decide +kernel) (by decide +kernel)) (goodIn_sub (fun _ h => List.mem_cons_of_mem _ (List.mem_append_right _ h)) (by decide +kernel))
set_option maxRecDepth 20000 in
theorem gX4_submit_X4_requireRange : GoodIn wsX4_submit (va_wsS RX4 41 yX4_requireRange wsX4_requireRange) := goodIn_app (goodIn_of _ (by decide +kernel)) ggX4_submit_X4_requireRange
set_option maxRecDepth 20000 in
theorem ggX4_submit_X4_requireServerUp : GoodIn wsX4_submit wsX4_requireServerUp := goodIn_ca (goodIn_r _ [20, 1, 2, 3, 21, 166, 167, 168, 169, 170, 171, 172, 173, 174, 175, 176, 177, 178, 179] (by decide +kernel) (by decide +kernel)) (goodIn_sub (fun _ h => List.mem_cons_of_mem _ (List.mem_append_left _ (List.mem_append_right _ h))) (by decide +kernel))
set_option maxRecDepth 20000 in
theorem gX4_submit_X4_requireServerUp : GoodIn wsX4_submit (wsV RX4 85 RX4 yX4_requireServerUp wsX4_requireServerUp) := goodIn_app (goodIn_of _ (by decide +kernel)) ggX4_submit_X4_requireServerUp
set_option maxRecDepth 20000 in
theorem ggX4_submit_X4_save : GoodIn wsX4_submit wsX4_save := goodIn_r _ [25, 26, 27, 3, 28, 29, 30, 9, 31, 32, 33, 34, 35, 36, 37, 38, 39, 40, 41, 42, 43, 44, 45, 46, 47, 48, 49, 50, 51, 52, 53, 54, 55, 56, 57, 58, 59, 60, 61, 62, 63, 64, 65, 66, 67, 68, 69, 70, 71, 72, 73, 74, 75, 76, 77, 78, 79, 80, 81, 82, 83, 84, 85, 86, 87, 88, 89, 90, 91, 92, 93, 166, 167, 168, 169, 170, 171, 172, 173, 174, 175, 176, 177, 178, 179, 190, 191, 192, 193, 194, 195, 196, 197, 198, 199, 200, 180, 181, 182, 183, 184, 185, 186, 187, 188, 189] (by decide +kernel) (by decide +kernel)
set_option maxRecDepth 20000 in
theorem gX4_submit_X4_save : GoodIn wsX4_submit (wsV RX4 34 RX4 yX4_save wsX4_save) := goodIn_app (goodIn_of _ (by decide +kernel)) ggX4_submit_X4_save
set_option maxRecDepth 20000 in
theorem ggX4_submit_X3_dispatch : GoodIn wsX4_submit wsX3_dispatch := goodIn_r _ [97, 44, 43, 98, 45, 99, 100, 101, 102, 35, 103, 104, 105, 106, 107, 108, 109, 110, 111, 112, 113, 114, 115, 116, 91, 93, 117, 118, 119, 120, 121, 122, 123, 124, 125, 126, 127, 128, 38, 129, 130, 131, 132, 133, 134, 135, 136, 41, 137, 138, 139, 49, 140, 51, 52, 141, 142, 143, 144, 145, 146, 147, 148, 60, 149, 64, 65, 150, 151, 152, 153, 37, 154, 155, 156, 157, 158, 159, 160, 74, 161, 76, 81, 83, 84, 85, 86, 162, 163, 164, 165, 79, 78, 169, 170, 171, 172, 173, 174, 175, 176, 177, 178, 179, 190, 191, 192, 193, 194, 195, 180, 181, 182, 183, 184, 185, 186, 187, 188, 189, 196, 197, 198, 199, 200] (by decide +kernel) (by decide +kernel)
set_option maxRecDepth 20000 in
theorem gX4_submit_X3_dispatch : GoodIn wsX4_submit (wsV RX4 99 RX3 yX3_dispatch wsX3_dispatch) := goodIn_app (goodIn_of _ (by decide +kernel)) ggX4_submit_X3_dispatch
theorem dX4_submit_0 : decode cX4_submit 0 = .ok (.aload_n 0, 1) := by decide +kernel
theorem dX4_submit_1 : decode cX4_submit 1 = .ok (.iload_n 1, 1) := by decide +kernel
theorem dX4_submit_2 : decode cX4_submit 2 = .ok (.invokevirtual 54, 3) := by decide +kernel
theorem dX4_submit_5 : decode cX4_submit 5 = .ok (.iload_n 2, 1) := by decide +kernel
theorem dX4_submit_6 : decode cX4_submit 6 = .ok (.iconst 1, 1) := by decide +kernel
theorem dX4_submit_7 : decode cX4_submit 7 = .ok (.bipush 20, 2) := by decide +kernel
theorem dX4_submit_9 : decode cX4_submit 9 = .ok (.invokestatic 41, 3) := by decide +kernel
theorem dX4_submit_12 : decode cX4_submit 12 = .ok (.aload_n 0, 1) := by decide +kernel
theorem dX4_submit_13 : decode cX4_submit 13 = .ok (.invokevirtual 85, 3) := by decide +kernel
theorem dX4_submit_16 : decode cX4_submit 16 = .ok (.aload_n 0, 1) := by decide +kernel
theorem dX4_submit_17 : decode cX4_submit 17 = .ok (.getfield 10, 3) := by decide +kernel
theorem dX4_submit_20 : decode cX4_submit 20 = .ok (.getfield 88, 3) := by decide +kernel
theorem dX4_submit_23 : decode cX4_submit 23 = .ok (.getfield 92, 3) := by decide +kernel
theorem dX4_submit_26 : decode cX4_submit 26 = .ok (.sipush 200, 3) := by decide +kernel
theorem dX4_submit_29 : decode cX4_submit 29 = .ok (.if_icmp .lt 13, 3) := by decide +kernel
theorem dX4_submit_32 : decode cX4_submit 32 = .ok (.new 27, 3) := by decide +kernel
theorem dX4_submit_35 : decode cX4_submit 35 = .ok (.dup, 1) := by decide +kernel
theorem dX4_submit_36 : decode cX4_submit 36 = .ok (.ldc 97, 2) := by decide +kernel
theorem dX4_submit_38 : decode cX4_submit 38 = .ok (.invokespecial 31, 3) := by decide +kernel
theorem dX4_submit_41 : decode cX4_submit 41 = .ok (.athrow, 1) := by decide +kernel
theorem dX4_submit_42 : decode cX4_submit 42 = .ok (.aload_n 0, 1) := by decide +kernel
theorem dX4_submit_43 : decode cX4_submit 43 = .ok (.invokevirtual 34, 3) := by decide +kernel
theorem dX4_submit_46 : decode cX4_submit 46 = .ok (.aload_n 0, 1) := by decide +kernel
theorem dX4_submit_47 : decode cX4_submit 47 = .ok (.getfield 10, 3) := by decide +kernel
theorem dX4_submit_50 : decode cX4_submit 50 = .ok (.iload_n 1, 1) := by decide +kernel
theorem dX4_submit_51 : decode cX4_submit 51 = .ok (.iload_n 2, 1) := by decide +kernel
theorem dX4_submit_52 : decode cX4_submit 52 = .ok (.invokevirtual 99, 3) := by decide +kernel
theorem dX4_submit_55 : decode cX4_submit 55 = .ok (.ireturn, 1) := by decide +kernel
set_option maxRecDepth 20000 in
theorem ggX4_tick_X4_requireRange : GoodIn wsX4_tick wsX4_requireRange := goodIn_ca (goodIn_r _ [7, 8, 9] (by decide +kernel) (by decide +kernel)) (goodIn_sub (fun _ h => List.mem_cons_of_mem _ (List.mem_append_right _ h)) (by decide +kernel))
set_option maxRecDepth 20000 in
theorem gX4_tick_X4_requireRange : GoodIn wsX4_tick (va_wsS RX4 41 yX4_requireRange wsX4_requireRange) := goodIn_app (goodIn_of _ (by decide +kernel)) ggX4_tick_X4_requireRange
set_option maxRecDepth 20000 in
theorem ggX4_tick_X4_save : GoodIn wsX4_tick wsX4_save := goodIn_r _ [13, 14, 15, 1, 16, 17, 18, 6, 19, 20, 21, 22, 23, 24, 25, 26, 27, 28, 29, 30, 31, 32, 33, 34, 35, 36, 37, 38, 39, 40, 41, 42, 43, 44, 45, 46, 47, 48, 49, 50, 51, 52, 53, 54, 55, 56, 57, 58, 59, 60, 61, 62, 63, 64, 65, 66, 67, 68, 69, 70, 71, 72, 73, 74, 75, 76, 77, 78, 79, 80, 81, 136, 137, 138, 139, 140, 141, 142, 143, 144, 145, 146, 147, 148, 149, 160, 161, 162, 163, 164, 165, 166, 167, 168, 169, 170, 150, 151, 152, 153, 154, 155, 156, 157, 158, 159] (by decide +kernel) (by decide +kernel)
set_option maxRecDepth 20000 in
theorem gX4_tick_X4_save : GoodIn wsX4_tick (wsV RX4 34 RX4 yX4_save wsX4_save) := goodIn_app (goodIn_of _ (by decide +kernel)) ggX4_tick_X4_save
set_option maxRecDepth 20000 in
theorem ggX4_tick_X3_passTick : GoodIn wsX4_tick wsX3_passTick := goodIn_r _ [85, 25, 29, 28, 86, 87, 88, 23, 89, 31, 90, 91, 33, 92, 93, 94, 95, 96, 97, 98, 99, 100, 101, 102, 103, 62, 104, 73, 72, 67, 66, 105, 106, 107, 37, 108, 39, 40, 109, 110, 111, 112, 30, 32, 113, 114, 115, 116, 117, 27, 118, 119, 120, 121, 122, 26, 123, 124, 125, 126, 127, 128, 129, 48, 130, 52, 53, 131, 132, 133, 134, 135, 139, 140, 141, 142, 143, 144, 145, 146, 147, 148, 149, 160, 161, 162, 163, 164, 165, 150, 151, 152, 153, 154, 155, 156, 157, 158, 159, 166, 167, 168, 169, 170] (by decide +kernel) (by decide +kernel)
set_option maxRecDepth 20000 in
theorem gX4_tick_X3_passTick : GoodIn wsX4_tick (wsV RX4 106 RX3 yX3_passTick wsX3_passTick) := goodIn_app (goodIn_of _ (by decide +kernel)) ggX4_tick_X3_passTick
theorem dX4_tick_0 : decode cX4_tick 0 = .ok (.iload_n 1, 1) := by decide +kernel
theorem dX4_tick_1 : decode cX4_tick 1 = .ok (.iconst 0, 1) := by decide +kernel
theorem dX4_tick_2 : decode cX4_tick 2 = .ok (.sipush 500, 3) := by decide +kernel
theorem dX4_tick_5 : decode cX4_tick 5 = .ok (.invokestatic 41, 3) := by decide +kernel
theorem dX4_tick_8 : decode cX4_tick 8 = .ok (.aload_n 0, 1) := by decide +kernel
theorem dX4_tick_9 : decode cX4_tick 9 = .ok (.invokevirtual 34, 3) := by decide +kernel
theorem dX4_tick_12 : decode cX4_tick 12 = .ok (.aload_n 0, 1) := by decide +kernel
theorem dX4_tick_13 : decode cX4_tick 13 = .ok (.getfield 10, 3) := by decide +kernel
theorem dX4_tick_16 : decode cX4_tick 16 = .ok (.getfield 88, 3) := by decide +kernel
theorem dX4_tick_19 : decode cX4_tick 19 = .ok (.getfield 103, 3) := by decide +kernel
theorem dX4_tick_22 : decode cX4_tick 22 = .ok (.istore_n 2, 1) := by decide +kernel
theorem dX4_tick_23 : decode cX4_tick 23 = .ok (.iconst 0, 1) := by decide +kernel
theorem dX4_tick_24 : decode cX4_tick 24 = .ok (.istore_n 3, 1) := by decide +kernel
theorem dX4_tick_25 : decode cX4_tick 25 = .ok (.iload_n 3, 1) := by decide +kernel
theorem dX4_tick_26 : decode cX4_tick 26 = .ok (.iload_n 1, 1) := by decide +kernel
theorem dX4_tick_27 : decode cX4_tick 27 = .ok (.if_icmp .ge 16, 3) := by decide +kernel
theorem dX4_tick_30 : decode cX4_tick 30 = .ok (.aload_n 0, 1) := by decide +kernel
theorem dX4_tick_31 : decode cX4_tick 31 = .ok (.getfield 10, 3) := by decide +kernel
theorem dX4_tick_34 : decode cX4_tick 34 = .ok (.invokevirtual 106, 3) := by decide +kernel
theorem dX4_tick_37 : decode cX4_tick 37 = .ok (.iinc 3 1, 3) := by decide +kernel
theorem dX4_tick_40 : decode cX4_tick 40 = .ok (.goto (-15), 3) := by decide +kernel
theorem dX4_tick_43 : decode cX4_tick 43 = .ok (.aload_n 0, 1) := by decide +kernel
theorem dX4_tick_44 : decode cX4_tick 44 = .ok (.getfield 10, 3) := by decide +kernel
theorem dX4_tick_47 : decode cX4_tick 47 = .ok (.getfield 88, 3) := by decide +kernel
theorem dX4_tick_50 : decode cX4_tick 50 = .ok (.getfield 103, 3) := by decide +kernel
theorem dX4_tick_53 : decode cX4_tick 53 = .ok (.iload_n 2, 1) := by decide +kernel
theorem dX4_tick_54 : decode cX4_tick 54 = .ok (.isub, 1) := by decide +kernel
theorem dX4_tick_55 : decode cX4_tick 55 = .ok (.ireturn, 1) := by decide +kernel
set_option maxRecDepth 20000 in
theorem ggX4_length_X4_requireServer : GoodIn wsX4_length wsX4_requireServer := goodIn_ca (goodIn_r _ [8, 9, 10, 1, 11, 12, 13, 14, 15, 16, 17, 18, 19, 20, 21, 22, 23, 24, 25] (by decide +kernel) (by decide +kernel)) (goodIn_sub (fun _ h => List.mem_cons_of_mem _ (List.mem_append_right _ h)) (by decide +kernel))
set_option maxRecDepth 20000 in
theorem gX4_length_X4_requireServer : GoodIn wsX4_length (wsV RX4 78 RX4 yX4_requireServer wsX4_requireServer) := goodIn_app (goodIn_of _ (by decide +kernel)) ggX4_length_X4_requireServer
theorem dX4_length_0 : decode cX4_length 0 = .ok (.aload_n 0, 1) := by decide +kernel
theorem dX4_length_1 : decode cX4_length 1 = .ok (.iload_n 1, 1) := by decide +kernel
theorem dX4_length_2 : decode cX4_length 2 = .ok (.invokevirtual 78, 3) := by decide +kernel
theorem dX4_length_5 : decode cX4_length 5 = .ok (.aload_n 0, 1) := by decide +kernel
theorem dX4_length_6 : decode cX4_length 6 = .ok (.getfield 10, 3) := by decide +kernel
theorem dX4_length_9 : decode cX4_length 9 = .ok (.getfield 109, 3) := by decide +kernel
theorem dX4_length_12 : decode cX4_length 12 = .ok (.iload_n 1, 1) := by decide +kernel
theorem dX4_length_13 : decode cX4_length 13 = .ok (.aaload, 1) := by decide +kernel
theorem dX4_length_14 : decode cX4_length 14 = .ok (.getfield 113, 3) := by decide +kernel
theorem dX4_length_17 : decode cX4_length 17 = .ok (.ireturn, 1) := by decide +kernel
set_option maxRecDepth 20000 in
theorem ggX4_work_X4_requireServer : GoodIn wsX4_work wsX4_requireServer := goodIn_ca (goodIn_r _ [8, 9, 10, 1, 11, 12, 13, 14, 15, 16, 17, 18, 19, 20, 21, 22, 23, 24, 25] (by decide +kernel) (by decide +kernel)) (goodIn_sub (fun _ h => List.mem_cons_of_mem _ (List.mem_append_right _ h)) (by decide +kernel))
set_option maxRecDepth 20000 in
theorem gX4_work_X4_requireServer : GoodIn wsX4_work (wsV RX4 78 RX4 yX4_requireServer wsX4_requireServer) := goodIn_app (goodIn_of _ (by decide +kernel)) ggX4_work_X4_requireServer
theorem dX4_work_0 : decode cX4_work 0 = .ok (.aload_n 0, 1) := by decide +kernel
theorem dX4_work_1 : decode cX4_work 1 = .ok (.iload_n 1, 1) := by decide +kernel
theorem dX4_work_2 : decode cX4_work 2 = .ok (.invokevirtual 78, 3) := by decide +kernel
theorem dX4_work_5 : decode cX4_work 5 = .ok (.aload_n 0, 1) := by decide +kernel
theorem dX4_work_6 : decode cX4_work 6 = .ok (.getfield 10, 3) := by decide +kernel
theorem dX4_work_9 : decode cX4_work 9 = .ok (.getfield 109, 3) := by decide +kernel
theorem dX4_work_12 : decode cX4_work 12 = .ok (.iload_n 1, 1) := by decide +kernel
theorem dX4_work_13 : decode cX4_work 13 = .ok (.aaload, 1) := by decide +kernel
theorem dX4_work_14 : decode cX4_work 14 = .ok (.getfield 118, 3) := by decide +kernel
theorem dX4_work_17 : decode cX4_work 17 = .ok (.ireturn, 1) := by decide +kernel
set_option maxRecDepth 20000 in
theorem ggX4_registeredAt_X4_requireServer : GoodIn wsX4_registeredAt wsX4_requireServer := goodIn_ca (goodIn_r _ [8, 9, 10, 1, 11, 12, 13, 14, 15, 16, 17, 18, 19, 20, 21, 22, 23, 24, 25] (by decide +kernel) (by decide +kernel)) (goodIn_sub (fun _ h => List.mem_cons_of_mem _ (List.mem_append_right _ h)) (by decide +kernel))
set_option maxRecDepth 20000 in
theorem gX4_registeredAt_X4_requireServer : GoodIn wsX4_registeredAt (wsV RX4 78 RX4 yX4_requireServer wsX4_requireServer) := goodIn_app (goodIn_of _ (by decide +kernel)) ggX4_registeredAt_X4_requireServer
theorem dX4_registeredAt_0 : decode cX4_registeredAt 0 = .ok (.aload_n 0, 1) := by decide +kernel
theorem dX4_registeredAt_1 : decode cX4_registeredAt 1 = .ok (.iload_n 1, 1) := by decide +kernel
theorem dX4_registeredAt_2 : decode cX4_registeredAt 2 = .ok (.invokevirtual 78, 3) := by decide +kernel
theorem dX4_registeredAt_5 : decode cX4_registeredAt 5 = .ok (.aload_n 0, 1) := by decide +kernel
theorem dX4_registeredAt_6 : decode cX4_registeredAt 6 = .ok (.getfield 10, 3) := by decide +kernel
theorem dX4_registeredAt_9 : decode cX4_registeredAt 9 = .ok (.getfield 109, 3) := by decide +kernel
theorem dX4_registeredAt_12 : decode cX4_registeredAt 12 = .ok (.iload_n 1, 1) := by decide +kernel
theorem dX4_registeredAt_13 : decode cX4_registeredAt 13 = .ok (.aaload, 1) := by decide +kernel
theorem dX4_registeredAt_14 : decode cX4_registeredAt 14 = .ok (.getfield 121, 3) := by decide +kernel
theorem dX4_registeredAt_17 : decode cX4_registeredAt 17 = .ok (.ireturn, 1) := by decide +kernel
set_option maxRecDepth 20000 in
theorem ggX4_idleCount_X4_requireDispatcher : GoodIn wsX4_idleCount wsX4_requireDispatcher := goodIn_ca (goodIn_r _ [8, 9, 10, 1, 11, 12, 13, 14, 15, 16, 17, 18, 19, 20, 21, 22, 23, 24, 25] (by decide +kernel) (by decide +kernel)) (goodIn_sub (fun _ h => List.mem_cons_of_mem _ (List.mem_append_right _ h)) (by decide +kernel))
set_option maxRecDepth 20000 in
theorem gX4_idleCount_X4_requireDispatcher : GoodIn wsX4_idleCount (wsV RX4 54 RX4 yX4_requireDispatcher wsX4_requireDispatcher) := goodIn_app (goodIn_of _ (by decide +kernel)) ggX4_idleCount_X4_requireDispatcher
theorem dX4_idleCount_0 : decode cX4_idleCount 0 = .ok (.aload_n 0, 1) := by decide +kernel
theorem dX4_idleCount_1 : decode cX4_idleCount 1 = .ok (.iload_n 1, 1) := by decide +kernel
theorem dX4_idleCount_2 : decode cX4_idleCount 2 = .ok (.invokevirtual 54, 3) := by decide +kernel
theorem dX4_idleCount_5 : decode cX4_idleCount 5 = .ok (.aload_n 0, 1) := by decide +kernel
theorem dX4_idleCount_6 : decode cX4_idleCount 6 = .ok (.getfield 10, 3) := by decide +kernel
theorem dX4_idleCount_9 : decode cX4_idleCount 9 = .ok (.getfield 58, 3) := by decide +kernel
theorem dX4_idleCount_12 : decode cX4_idleCount 12 = .ok (.iload_n 1, 1) := by decide +kernel
theorem dX4_idleCount_13 : decode cX4_idleCount 13 = .ok (.aaload, 1) := by decide +kernel
theorem dX4_idleCount_14 : decode cX4_idleCount 14 = .ok (.getfield 124, 3) := by decide +kernel
theorem dX4_idleCount_17 : decode cX4_idleCount 17 = .ok (.ireturn, 1) := by decide +kernel
set_option maxRecDepth 20000 in
theorem ggX4_idleAt_X4_requireDispatcher : GoodIn wsX4_idleAt wsX4_requireDispatcher := goodIn_ca (goodIn_r _ [9, 10, 11, 1, 12, 18, 19, 20, 21, 22, 23, 24, 25, 26, 27, 28, 29, 30, 31] (by decide +kernel) (by decide +kernel)) (goodIn_sub (fun _ h => List.mem_cons_of_mem _ (List.mem_append_left _ (List.mem_append_right _ h))) (by decide +kernel))
set_option maxRecDepth 20000 in
theorem gX4_idleAt_X4_requireDispatcher : GoodIn wsX4_idleAt (wsV RX4 54 RX4 yX4_requireDispatcher wsX4_requireDispatcher) := goodIn_app (goodIn_of _ (by decide +kernel)) ggX4_idleAt_X4_requireDispatcher
set_option maxRecDepth 20000 in
theorem ggX4_idleAt_X4_requireIndex : GoodIn wsX4_idleAt wsX4_requireIndex := goodIn_ca (goodIn_r _ [15, 16, 17] (by decide +kernel) (by decide +kernel)) (goodIn_sub (fun _ h => List.mem_cons_of_mem _ (List.mem_append_right _ h)) (by decide +kernel))
set_option maxRecDepth 20000 in
theorem gX4_idleAt_X4_requireIndex : GoodIn wsX4_idleAt (va_wsS RX4 127 yX4_requireIndex wsX4_requireIndex) := goodIn_app (goodIn_of _ (by decide +kernel)) ggX4_idleAt_X4_requireIndex
theorem dX4_idleAt_0 : decode cX4_idleAt 0 = .ok (.aload_n 0, 1) := by decide +kernel
theorem dX4_idleAt_1 : decode cX4_idleAt 1 = .ok (.iload_n 1, 1) := by decide +kernel
theorem dX4_idleAt_2 : decode cX4_idleAt 2 = .ok (.invokevirtual 54, 3) := by decide +kernel
theorem dX4_idleAt_5 : decode cX4_idleAt 5 = .ok (.iload_n 2, 1) := by decide +kernel
theorem dX4_idleAt_6 : decode cX4_idleAt 6 = .ok (.aload_n 0, 1) := by decide +kernel
theorem dX4_idleAt_7 : decode cX4_idleAt 7 = .ok (.getfield 10, 3) := by decide +kernel
theorem dX4_idleAt_10 : decode cX4_idleAt 10 = .ok (.getfield 58, 3) := by decide +kernel
theorem dX4_idleAt_13 : decode cX4_idleAt 13 = .ok (.iload_n 1, 1) := by decide +kernel
theorem dX4_idleAt_14 : decode cX4_idleAt 14 = .ok (.aaload, 1) := by decide +kernel
theorem dX4_idleAt_15 : decode cX4_idleAt 15 = .ok (.getfield 124, 3) := by decide +kernel
theorem dX4_idleAt_18 : decode cX4_idleAt 18 = .ok (.invokestatic 127, 3) := by decide +kernel
theorem dX4_idleAt_21 : decode cX4_idleAt 21 = .ok (.aload_n 0, 1) := by decide +kernel
theorem dX4_idleAt_22 : decode cX4_idleAt 22 = .ok (.getfield 10, 3) := by decide +kernel
theorem dX4_idleAt_25 : decode cX4_idleAt 25 = .ok (.getfield 58, 3) := by decide +kernel
theorem dX4_idleAt_28 : decode cX4_idleAt 28 = .ok (.iload_n 1, 1) := by decide +kernel
theorem dX4_idleAt_29 : decode cX4_idleAt 29 = .ok (.aaload, 1) := by decide +kernel
theorem dX4_idleAt_30 : decode cX4_idleAt 30 = .ok (.getfield 131, 3) := by decide +kernel
theorem dX4_idleAt_33 : decode cX4_idleAt 33 = .ok (.iload_n 2, 1) := by decide +kernel
theorem dX4_idleAt_34 : decode cX4_idleAt 34 = .ok (.iaload, 1) := by decide +kernel
theorem dX4_idleAt_35 : decode cX4_idleAt 35 = .ok (.ireturn, 1) := by decide +kernel
set_option maxRecDepth 20000 in
theorem ggX4_knownLength_X4_requireDispatcher : GoodIn wsX4_knownLength wsX4_requireDispatcher := goodIn_ca (goodIn_r _ [8, 9, 10, 1, 11, 17, 18, 19, 20, 21, 22, 23, 24, 25, 26, 27, 28, 29, 30] (by decide +kernel) (by decide +kernel)) (goodIn_sub (fun _ h => List.mem_cons_of_mem _ (List.mem_append_right _ h)) (by decide +kernel))
set_option maxRecDepth 20000 in
theorem gX4_knownLength_X4_requireDispatcher : GoodIn wsX4_knownLength (wsV RX4 54 RX4 yX4_requireDispatcher wsX4_requireDispatcher) := goodIn_app (goodIn_of _ (by decide +kernel)) ggX4_knownLength_X4_requireDispatcher
set_option maxRecDepth 20000 in
theorem ggX4_knownLength_X4_requireServer : GoodIn wsX4_knownLength wsX4_requireServer := goodIn_ca (goodIn_r _ [15, 9, 10, 1, 16, 17, 18, 19, 20, 21, 22, 23, 24, 25, 26, 27, 28, 29, 30] (by decide +kernel) (by decide +kernel)) (goodIn_sub (fun _ h => List.mem_cons_of_mem _ (List.mem_append_right _ h)) (by decide +kernel))
set_option maxRecDepth 20000 in
theorem gX4_knownLength_X4_requireServer : GoodIn wsX4_knownLength (wsV RX4 78 RX4 yX4_requireServer wsX4_requireServer) := goodIn_app (goodIn_of _ (by decide +kernel)) ggX4_knownLength_X4_requireServer
theorem dX4_knownLength_0 : decode cX4_knownLength 0 = .ok (.aload_n 0, 1) := by decide +kernel
theorem dX4_knownLength_1 : decode cX4_knownLength 1 = .ok (.iload_n 1, 1) := by decide +kernel
theorem dX4_knownLength_2 : decode cX4_knownLength 2 = .ok (.invokevirtual 54, 3) := by decide +kernel
theorem dX4_knownLength_5 : decode cX4_knownLength 5 = .ok (.aload_n 0, 1) := by decide +kernel
theorem dX4_knownLength_6 : decode cX4_knownLength 6 = .ok (.iload_n 2, 1) := by decide +kernel
theorem dX4_knownLength_7 : decode cX4_knownLength 7 = .ok (.invokevirtual 78, 3) := by decide +kernel
theorem dX4_knownLength_10 : decode cX4_knownLength 10 = .ok (.aload_n 0, 1) := by decide +kernel
theorem dX4_knownLength_11 : decode cX4_knownLength 11 = .ok (.getfield 10, 3) := by decide +kernel
theorem dX4_knownLength_14 : decode cX4_knownLength 14 = .ok (.getfield 58, 3) := by decide +kernel
theorem dX4_knownLength_17 : decode cX4_knownLength 17 = .ok (.iload_n 1, 1) := by decide +kernel
theorem dX4_knownLength_18 : decode cX4_knownLength 18 = .ok (.aaload, 1) := by decide +kernel
theorem dX4_knownLength_19 : decode cX4_knownLength 19 = .ok (.getfield 135, 3) := by decide +kernel
theorem dX4_knownLength_22 : decode cX4_knownLength 22 = .ok (.iload_n 2, 1) := by decide +kernel
theorem dX4_knownLength_23 : decode cX4_knownLength 23 = .ok (.iaload, 1) := by decide +kernel
theorem dX4_knownLength_24 : decode cX4_knownLength 24 = .ok (.ireturn, 1) := by decide +kernel
set_option maxRecDepth 20000 in
theorem ggX4_expectedLength_X4_requireDispatcher : GoodIn wsX4_expectedLength wsX4_requireDispatcher := goodIn_ca (goodIn_r _ [6, 7, 8, 1, 9, 66, 67, 68, 69, 70, 71, 72, 73, 74, 75, 76, 77, 78, 79] (by decide +kernel) (by decide +kernel)) (goodIn_sub (fun _ h => List.mem_cons_of_mem _ (List.mem_append_left _ (List.mem_append_right _ h))) (by decide +kernel))
set_option maxRecDepth 20000 in
theorem gX4_expectedLength_X4_requireDispatcher : GoodIn wsX4_expectedLength (wsV RX4 54 RX4 yX4_requireDispatcher wsX4_requireDispatcher) := goodIn_app (goodIn_of _ (by decide +kernel)) ggX4_expectedLength_X4_requireDispatcher
set_option maxRecDepth 20000 in
theorem ggX4_expectedLength_X4_requireRange : GoodIn wsX4_expectedLength wsX4_requireRange := goodIn_ca (goodIn_r _ [12, 7, 8] (by decide +kernel) (by decide +kernel)) (goodIn_sub (fun _ h => List.mem_cons_of_mem _ (List.mem_append_left _ (List.mem_append_right _ h))) (by decide +kernel))
set_option maxRecDepth 20000 in
theorem gX4_expectedLength_X4_requireRange : GoodIn wsX4_expectedLength (va_wsS RX4 41 yX4_requireRange wsX4_requireRange) := goodIn_app (goodIn_of _ (by decide +kernel)) ggX4_expectedLength_X4_requireRange
set_option maxRecDepth 20000 in
theorem ggX4_expectedLength_X4_requireServerUp : GoodIn wsX4_expectedLength wsX4_requireServerUp := goodIn_ca (goodIn_r _ [16, 17, 18, 1, 19, 66, 67, 68, 69, 70, 71, 72, 73, 74, 75, 76, 77, 78, 79] (by decide +kernel) (by decide +kernel)) (goodIn_sub (fun _ h => List.mem_cons_of_mem _ (List.mem_append_right _ h)) (by decide +kernel))
set_option maxRecDepth 20000 in
theorem gX4_expectedLength_X4_requireServerUp : GoodIn wsX4_expectedLength (wsV RX4 85 RX4 yX4_requireServerUp wsX4_requireServerUp) := goodIn_app (goodIn_of _ (by decide +kernel)) ggX4_expectedLength_X4_requireServerUp
set_option maxRecDepth 20000 in
theorem ggX4_expectedLength_X3_sumOverOutcomes : GoodIn wsX4_expectedLength wsX3_sumOverOutcomes := goodIn_r _ [24, 25, 26, 27, 28, 29, 30, 31, 23, 32, 33, 34, 35, 36, 37, 38, 39, 40, 41, 42, 43, 44, 45, 46, 47, 48, 49, 50, 51, 52, 53, 54, 55, 56, 57, 58, 69, 70, 71, 72, 73, 74, 75, 76, 77, 78, 79, 80, 81, 82, 83, 84, 85, 86, 87, 88, 89, 90] (by decide +kernel) (by decide +kernel)
set_option maxRecDepth 20000 in
theorem gX4_expectedLength_X3_sumOverOutcomes : GoodIn wsX4_expectedLength (wsV RX4 138 RX3 yX3_sumOverOutcomes wsX3_sumOverOutcomes) := goodIn_app (goodIn_of _ (by decide +kernel)) ggX4_expectedLength_X3_sumOverOutcomes
set_option maxRecDepth 20000 in
theorem ggX4_expectedLength_X3_countOutcomes : GoodIn wsX4_expectedLength wsX3_countOutcomes := goodIn_r _ [62, 25, 28, 41, 29, 30, 31, 23, 32, 33, 34, 35, 36, 37, 38, 39, 40, 42, 43, 44, 45, 46, 69, 70, 71, 72, 73, 74, 75, 76, 77, 78, 79, 86, 87, 88, 89, 90] (by decide +kernel) (by decide +kernel)
set_option maxRecDepth 20000 in
theorem gX4_expectedLength_X3_countOutcomes : GoodIn wsX4_expectedLength (wsV RX4 141 RX3 yX3_countOutcomes wsX3_countOutcomes) := goodIn_app (goodIn_of _ (by decide +kernel)) ggX4_expectedLength_X3_countOutcomes
set_option maxRecDepth 20000 in
theorem ggX4_expectedLength_X4_commonDivisor : GoodIn wsX4_expectedLength wsX4_commonDivisor := goodIn_r _ [65] (by decide +kernel) (by decide +kernel)
set_option maxRecDepth 20000 in
theorem gX4_expectedLength_X4_commonDivisor : GoodIn wsX4_expectedLength (va_wsS RX4 144 yX4_commonDivisor wsX4_commonDivisor) := goodIn_app (goodIn_of _ (by decide +kernel)) ggX4_expectedLength_X4_commonDivisor
theorem dX4_expectedLength_0 : decode cX4_expectedLength 0 = .ok (.aload_n 0, 1) := by decide +kernel
theorem dX4_expectedLength_1 : decode cX4_expectedLength 1 = .ok (.iload_n 1, 1) := by decide +kernel
theorem dX4_expectedLength_2 : decode cX4_expectedLength 2 = .ok (.invokevirtual 54, 3) := by decide +kernel
theorem dX4_expectedLength_5 : decode cX4_expectedLength 5 = .ok (.iload_n 2, 1) := by decide +kernel
theorem dX4_expectedLength_6 : decode cX4_expectedLength 6 = .ok (.iconst 0, 1) := by decide +kernel
theorem dX4_expectedLength_7 : decode cX4_expectedLength 7 = .ok (.iconst 1, 1) := by decide +kernel
theorem dX4_expectedLength_8 : decode cX4_expectedLength 8 = .ok (.invokestatic 41, 3) := by decide +kernel
theorem dX4_expectedLength_11 : decode cX4_expectedLength 11 = .ok (.aload_n 0, 1) := by decide +kernel
theorem dX4_expectedLength_12 : decode cX4_expectedLength 12 = .ok (.invokevirtual 85, 3) := by decide +kernel
theorem dX4_expectedLength_15 : decode cX4_expectedLength 15 = .ok (.aload_n 0, 1) := by decide +kernel
theorem dX4_expectedLength_16 : decode cX4_expectedLength 16 = .ok (.getfield 10, 3) := by decide +kernel
theorem dX4_expectedLength_19 : decode cX4_expectedLength 19 = .ok (.iload_n 1, 1) := by decide +kernel
theorem dX4_expectedLength_20 : decode cX4_expectedLength 20 = .ok (.invokevirtual 138, 3) := by decide +kernel
theorem dX4_expectedLength_23 : decode cX4_expectedLength 23 = .ok (.istore_n 3, 1) := by decide +kernel
theorem dX4_expectedLength_24 : decode cX4_expectedLength 24 = .ok (.aload_n 0, 1) := by decide +kernel
theorem dX4_expectedLength_25 : decode cX4_expectedLength 25 = .ok (.getfield 10, 3) := by decide +kernel
theorem dX4_expectedLength_28 : decode cX4_expectedLength 28 = .ok (.iload_n 1, 1) := by decide +kernel
theorem dX4_expectedLength_29 : decode cX4_expectedLength 29 = .ok (.invokevirtual 141, 3) := by decide +kernel
theorem dX4_expectedLength_32 : decode cX4_expectedLength 32 = .ok (.istore 4, 2) := by decide +kernel
theorem dX4_expectedLength_34 : decode cX4_expectedLength 34 = .ok (.iload_n 2, 1) := by decide +kernel
theorem dX4_expectedLength_35 : decode cX4_expectedLength 35 = .ok (.ifCond .ne 7, 3) := by decide +kernel
theorem dX4_expectedLength_38 : decode cX4_expectedLength 38 = .ok (.iload_n 3, 1) := by decide +kernel
theorem dX4_expectedLength_39 : decode cX4_expectedLength 39 = .ok (.goto 5, 3) := by decide +kernel
theorem dX4_expectedLength_42 : decode cX4_expectedLength 42 = .ok (.iload 4, 2) := by decide +kernel
theorem dX4_expectedLength_44 : decode cX4_expectedLength 44 = .ok (.istore 5, 2) := by decide +kernel
theorem dX4_expectedLength_46 : decode cX4_expectedLength 46 = .ok (.iload 5, 2) := by decide +kernel
theorem dX4_expectedLength_48 : decode cX4_expectedLength 48 = .ok (.iload_n 3, 1) := by decide +kernel
theorem dX4_expectedLength_49 : decode cX4_expectedLength 49 = .ok (.iload 4, 2) := by decide +kernel
theorem dX4_expectedLength_51 : decode cX4_expectedLength 51 = .ok (.invokestatic 144, 3) := by decide +kernel
theorem dX4_expectedLength_54 : decode cX4_expectedLength 54 = .ok (.idiv, 1) := by decide +kernel
theorem dX4_expectedLength_55 : decode cX4_expectedLength 55 = .ok (.ireturn, 1) := by decide +kernel
theorem dX4_submitted_0 : decode cX4_submitted 0 = .ok (.aload_n 0, 1) := by decide +kernel
theorem dX4_submitted_1 : decode cX4_submitted 1 = .ok (.getfield 10, 3) := by decide +kernel
theorem dX4_submitted_4 : decode cX4_submitted 4 = .ok (.getfield 88, 3) := by decide +kernel
theorem dX4_submitted_7 : decode cX4_submitted 7 = .ok (.getfield 92, 3) := by decide +kernel
theorem dX4_submitted_10 : decode cX4_submitted 10 = .ok (.ireturn, 1) := by decide +kernel
theorem dX4_finished_0 : decode cX4_finished 0 = .ok (.aload_n 0, 1) := by decide +kernel
theorem dX4_finished_1 : decode cX4_finished 1 = .ok (.getfield 10, 3) := by decide +kernel
theorem dX4_finished_4 : decode cX4_finished 4 = .ok (.getfield 88, 3) := by decide +kernel
theorem dX4_finished_7 : decode cX4_finished 7 = .ok (.getfield 103, 3) := by decide +kernel
theorem dX4_finished_10 : decode cX4_finished 10 = .ok (.ireturn, 1) := by decide +kernel
set_option maxRecDepth 20000 in
theorem ggX4_serverOf_X4_requireIndex : GoodIn wsX4_serverOf wsX4_requireIndex := goodIn_ca (goodIn_r _ [8, 9, 10] (by decide +kernel) (by decide +kernel)) (goodIn_sub (fun _ h => List.mem_cons_of_mem _ (List.mem_append_right _ h)) (by decide +kernel))
set_option maxRecDepth 20000 in
theorem gX4_serverOf_X4_requireIndex : GoodIn wsX4_serverOf (va_wsS RX4 127 yX4_requireIndex wsX4_requireIndex) := goodIn_app (goodIn_of _ (by decide +kernel)) ggX4_serverOf_X4_requireIndex
theorem dX4_serverOf_0 : decode cX4_serverOf 0 = .ok (.iload_n 1, 1) := by decide +kernel
theorem dX4_serverOf_1 : decode cX4_serverOf 1 = .ok (.aload_n 0, 1) := by decide +kernel
theorem dX4_serverOf_2 : decode cX4_serverOf 2 = .ok (.getfield 10, 3) := by decide +kernel
theorem dX4_serverOf_5 : decode cX4_serverOf 5 = .ok (.getfield 88, 3) := by decide +kernel
theorem dX4_serverOf_8 : decode cX4_serverOf 8 = .ok (.getfield 92, 3) := by decide +kernel
theorem dX4_serverOf_11 : decode cX4_serverOf 11 = .ok (.invokestatic 127, 3) := by decide +kernel
theorem dX4_serverOf_14 : decode cX4_serverOf 14 = .ok (.aload_n 0, 1) := by decide +kernel
theorem dX4_serverOf_15 : decode cX4_serverOf 15 = .ok (.getfield 10, 3) := by decide +kernel
theorem dX4_serverOf_18 : decode cX4_serverOf 18 = .ok (.getfield 88, 3) := by decide +kernel
theorem dX4_serverOf_21 : decode cX4_serverOf 21 = .ok (.getfield 147, 3) := by decide +kernel
theorem dX4_serverOf_24 : decode cX4_serverOf 24 = .ok (.iload_n 1, 1) := by decide +kernel
theorem dX4_serverOf_25 : decode cX4_serverOf 25 = .ok (.iaload, 1) := by decide +kernel
theorem dX4_serverOf_26 : decode cX4_serverOf 26 = .ok (.ireturn, 1) := by decide +kernel
set_option maxRecDepth 20000 in
theorem ggX4_waitOf_X4_requireIndex : GoodIn wsX4_waitOf wsX4_requireIndex := goodIn_ca (goodIn_r _ [8, 9, 10] (by decide +kernel) (by decide +kernel)) (goodIn_sub (fun _ h => List.mem_cons_of_mem _ (List.mem_append_right _ h)) (by decide +kernel))
set_option maxRecDepth 20000 in
theorem gX4_waitOf_X4_requireIndex : GoodIn wsX4_waitOf (va_wsS RX4 127 yX4_requireIndex wsX4_requireIndex) := goodIn_app (goodIn_of _ (by decide +kernel)) ggX4_waitOf_X4_requireIndex
theorem dX4_waitOf_0 : decode cX4_waitOf 0 = .ok (.iload_n 1, 1) := by decide +kernel
theorem dX4_waitOf_1 : decode cX4_waitOf 1 = .ok (.aload_n 0, 1) := by decide +kernel
theorem dX4_waitOf_2 : decode cX4_waitOf 2 = .ok (.getfield 10, 3) := by decide +kernel
theorem dX4_waitOf_5 : decode cX4_waitOf 5 = .ok (.getfield 88, 3) := by decide +kernel
theorem dX4_waitOf_8 : decode cX4_waitOf 8 = .ok (.getfield 92, 3) := by decide +kernel
theorem dX4_waitOf_11 : decode cX4_waitOf 11 = .ok (.invokestatic 127, 3) := by decide +kernel
theorem dX4_waitOf_14 : decode cX4_waitOf 14 = .ok (.aload_n 0, 1) := by decide +kernel
theorem dX4_waitOf_15 : decode cX4_waitOf 15 = .ok (.getfield 10, 3) := by decide +kernel
theorem dX4_waitOf_18 : decode cX4_waitOf 18 = .ok (.getfield 88, 3) := by decide +kernel
theorem dX4_waitOf_21 : decode cX4_waitOf 21 = .ok (.getfield 150, 3) := by decide +kernel
theorem dX4_waitOf_24 : decode cX4_waitOf 24 = .ok (.iload_n 1, 1) := by decide +kernel
theorem dX4_waitOf_25 : decode cX4_waitOf 25 = .ok (.iaload, 1) := by decide +kernel
theorem dX4_waitOf_26 : decode cX4_waitOf 26 = .ok (.ireturn, 1) := by decide +kernel
theorem dX4_meanWait_0 : decode cX4_meanWait 0 = .ok (.aload_n 0, 1) := by decide +kernel
theorem dX4_meanWait_1 : decode cX4_meanWait 1 = .ok (.getfield 10, 3) := by decide +kernel
theorem dX4_meanWait_4 : decode cX4_meanWait 4 = .ok (.getfield 88, 3) := by decide +kernel
theorem dX4_meanWait_7 : decode cX4_meanWait 7 = .ok (.getfield 153, 3) := by decide +kernel
theorem dX4_meanWait_10 : decode cX4_meanWait 10 = .ok (.ifCond .gt 5, 3) := by decide +kernel
theorem dX4_meanWait_13 : decode cX4_meanWait 13 = .ok (.dconst 0, 1) := by decide +kernel
theorem dX4_meanWait_14 : decode cX4_meanWait 14 = .ok (.dreturn, 1) := by decide +kernel
theorem dX4_meanWait_15 : decode cX4_meanWait 15 = .ok (.aload_n 0, 1) := by decide +kernel
theorem dX4_meanWait_16 : decode cX4_meanWait 16 = .ok (.getfield 10, 3) := by decide +kernel
theorem dX4_meanWait_19 : decode cX4_meanWait 19 = .ok (.getfield 88, 3) := by decide +kernel
theorem dX4_meanWait_22 : decode cX4_meanWait 22 = .ok (.getfield 156, 3) := by decide +kernel
theorem dX4_meanWait_25 : decode cX4_meanWait 25 = .ok (.i2d, 1) := by decide +kernel
theorem dX4_meanWait_26 : decode cX4_meanWait 26 = .ok (.aload_n 0, 1) := by decide +kernel
theorem dX4_meanWait_27 : decode cX4_meanWait 27 = .ok (.getfield 10, 3) := by decide +kernel
theorem dX4_meanWait_30 : decode cX4_meanWait 30 = .ok (.getfield 88, 3) := by decide +kernel
theorem dX4_meanWait_33 : decode cX4_meanWait 33 = .ok (.getfield 153, 3) := by decide +kernel
theorem dX4_meanWait_36 : decode cX4_meanWait 36 = .ok (.i2d, 1) := by decide +kernel
theorem dX4_meanWait_37 : decode cX4_meanWait 37 = .ok (.ddiv, 1) := by decide +kernel
theorem dX4_meanWait_38 : decode cX4_meanWait 38 = .ok (.dreturn, 1) := by decide +kernel
theorem dX4_missed_0 : decode cX4_missed 0 = .ok (.aload_n 0, 1) := by decide +kernel
theorem dX4_missed_1 : decode cX4_missed 1 = .ok (.getfield 10, 3) := by decide +kernel
theorem dX4_missed_4 : decode cX4_missed 4 = .ok (.getfield 88, 3) := by decide +kernel
theorem dX4_missed_7 : decode cX4_missed 7 = .ok (.getfield 159, 3) := by decide +kernel
theorem dX4_missed_10 : decode cX4_missed 10 = .ok (.ireturn, 1) := by decide +kernel
theorem dX4_now_0 : decode cX4_now 0 = .ok (.aload_n 0, 1) := by decide +kernel
theorem dX4_now_1 : decode cX4_now 1 = .ok (.getfield 10, 3) := by decide +kernel
theorem dX4_now_4 : decode cX4_now 4 = .ok (.getfield 162, 3) := by decide +kernel
theorem dX4_now_7 : decode cX4_now 7 = .ok (.ireturn, 1) := by decide +kernel
theorem dX4_undo_0 : decode cX4_undo 0 = .ok (.aload_n 0, 1) := by decide +kernel
theorem dX4_undo_1 : decode cX4_undo 1 = .ok (.getfield 20, 3) := by decide +kernel
theorem dX4_undo_4 : decode cX4_undo 4 = .ok (.ifCond .gt 13, 3) := by decide +kernel
theorem dX4_undo_7 : decode cX4_undo 7 = .ok (.new 27, 3) := by decide +kernel
theorem dX4_undo_10 : decode cX4_undo 10 = .ok (.dup, 1) := by decide +kernel
theorem dX4_undo_11 : decode cX4_undo 11 = .ok (.ldc 165, 2) := by decide +kernel
theorem dX4_undo_13 : decode cX4_undo 13 = .ok (.invokespecial 31, 3) := by decide +kernel
theorem dX4_undo_16 : decode cX4_undo 16 = .ok (.athrow, 1) := by decide +kernel
theorem dX4_undo_17 : decode cX4_undo 17 = .ok (.aload_n 0, 1) := by decide +kernel
theorem dX4_undo_18 : decode cX4_undo 18 = .ok (.dup, 1) := by decide +kernel
theorem dX4_undo_19 : decode cX4_undo 19 = .ok (.getfield 20, 3) := by decide +kernel
theorem dX4_undo_22 : decode cX4_undo 22 = .ok (.iconst 1, 1) := by decide +kernel
theorem dX4_undo_23 : decode cX4_undo 23 = .ok (.isub, 1) := by decide +kernel
theorem dX4_undo_24 : decode cX4_undo 24 = .ok (.putfield 20, 3) := by decide +kernel
theorem dX4_undo_27 : decode cX4_undo 27 = .ok (.aload_n 0, 1) := by decide +kernel
theorem dX4_undo_28 : decode cX4_undo 28 = .ok (.getfield 10, 3) := by decide +kernel
theorem dX4_undo_31 : decode cX4_undo 31 = .ok (.astore_n 1, 1) := by decide +kernel
theorem dX4_undo_32 : decode cX4_undo 32 = .ok (.aload_n 0, 1) := by decide +kernel
theorem dX4_undo_33 : decode cX4_undo 33 = .ok (.aload_n 0, 1) := by decide +kernel
theorem dX4_undo_34 : decode cX4_undo 34 = .ok (.getfield 16, 3) := by decide +kernel
theorem dX4_undo_37 : decode cX4_undo 37 = .ok (.aload_n 0, 1) := by decide +kernel
theorem dX4_undo_38 : decode cX4_undo 38 = .ok (.getfield 20, 3) := by decide +kernel
theorem dX4_undo_41 : decode cX4_undo 41 = .ok (.aaload, 1) := by decide +kernel
theorem dX4_undo_42 : decode cX4_undo 42 = .ok (.putfield 10, 3) := by decide +kernel
theorem dX4_undo_45 : decode cX4_undo 45 = .ok (.aload_n 0, 1) := by decide +kernel
theorem dX4_undo_46 : decode cX4_undo 46 = .ok (.getfield 16, 3) := by decide +kernel
theorem dX4_undo_49 : decode cX4_undo 49 = .ok (.aload_n 0, 1) := by decide +kernel
theorem dX4_undo_50 : decode cX4_undo 50 = .ok (.getfield 20, 3) := by decide +kernel
theorem dX4_undo_53 : decode cX4_undo 53 = .ok (.aload_n 1, 1) := by decide +kernel
theorem dX4_undo_54 : decode cX4_undo 54 = .ok (.aastore, 1) := by decide +kernel
theorem dX4_undo_55 : decode cX4_undo 55 = .ok (.aload_n 0, 1) := by decide +kernel
theorem dX4_undo_56 : decode cX4_undo 56 = .ok (.getfield 20, 3) := by decide +kernel
theorem dX4_undo_59 : decode cX4_undo 59 = .ok (.ireturn, 1) := by decide +kernel
set_option maxRecDepth 20000 in
theorem ggX4_digest_X3_mixAll : GoodIn wsX4_digest wsX3_mixAll := goodIn_r _ [8, 9, 10, 11, 12, 13, 14, 15, 16, 17, 18, 19, 20, 21, 22, 23, 24, 25, 26, 27, 28, 29, 30, 31, 32, 33, 34, 35, 36, 37, 38, 39, 40, 41, 42, 43, 44, 49, 50, 51, 52, 53, 54, 55, 56, 57, 58, 59, 60, 61, 62, 63, 64, 65, 66, 67, 68, 69, 70, 71, 72, 73, 74, 75, 76, 77, 78, 79, 80] (by decide +kernel) (by decide +kernel)
set_option maxRecDepth 20000 in
theorem gX4_digest_X3_mixAll : GoodIn wsX4_digest (wsV RX4 169 RX3 yX3_mixAll wsX3_mixAll) := goodIn_app (goodIn_of _ (by decide +kernel)) ggX4_digest_X3_mixAll
set_option maxRecDepth 20000 in
theorem ggX4_digest_X4_mix : GoodIn wsX4_digest wsX4_mix := goodIn_r _ [24, 25] (by decide +kernel) (by decide +kernel)
set_option maxRecDepth 20000 in
theorem gX4_digest_X4_mix : GoodIn wsX4_digest (va_wsS RX4 173 yX4_mix wsX4_mix) := goodIn_app (goodIn_of _ (by decide +kernel)) ggX4_digest_X4_mix
theorem dX4_digest_0 : decode cX4_digest 0 = .ok (.aload_n 0, 1) := by decide +kernel
theorem dX4_digest_1 : decode cX4_digest 1 = .ok (.getfield 10, 3) := by decide +kernel
theorem dX4_digest_4 : decode cX4_digest 4 = .ok (.ldc2_w 167, 3) := by decide +kernel
theorem dX4_digest_7 : decode cX4_digest 7 = .ok (.invokevirtual 169, 3) := by decide +kernel
theorem dX4_digest_10 : decode cX4_digest 10 = .ok (.aload_n 0, 1) := by decide +kernel
theorem dX4_digest_11 : decode cX4_digest 11 = .ok (.getfield 20, 3) := by decide +kernel
theorem dX4_digest_14 : decode cX4_digest 14 = .ok (.i2l, 1) := by decide +kernel
theorem dX4_digest_15 : decode cX4_digest 15 = .ok (.invokestatic 173, 3) := by decide +kernel
theorem dX4_digest_18 : decode cX4_digest 18 = .ok (.lreturn, 1) := by decide +kernel
set_option maxRecDepth 20000 in
theorem ggX4_save_X4_dropOldest : GoodIn wsX4_save wsX4_dropOldest := goodIn_r _ [8, 2, 1, 71, 72, 73] (by decide +kernel) (by decide +kernel)
set_option maxRecDepth 20000 in
theorem gX4_save_X4_dropOldest : GoodIn wsX4_save (wsV RX4 177 RX4 yX4_dropOldest wsX4_dropOldest) := goodIn_app (goodIn_of _ (by decide +kernel)) ggX4_save_X4_dropOldest
set_option maxRecDepth 20000 in
theorem ggX4_save_X3_copyFrom : GoodIn wsX4_save wsX3_copyFrom := goodIn_r _ [13, 14, 15, 16, 17, 18, 19, 20, 21, 22, 23, 24, 25, 26, 27, 28, 29, 30, 31, 32, 33, 34, 35, 36, 37, 38, 39, 40, 41, 42, 43, 44, 45, 46, 47, 48, 49, 50, 51, 52, 53, 54, 55, 56, 57, 58, 59, 60, 61, 62, 63, 64, 65, 66, 12, 67, 68, 69, 70, 74, 75, 76, 77, 78, 79, 80, 81, 82, 83, 84, 85, 86, 87, 88, 89, 90, 91, 92, 93, 94, 95, 96, 97, 98, 99, 100, 101, 102, 103, 104, 105] (by decide +kernel) (by decide +kernel)
set_option maxRecDepth 20000 in
theorem gX4_save_X3_copyFrom : GoodIn wsX4_save (wsV RX4 180 RX3 yX3_copyFrom wsX3_copyFrom) := goodIn_app (goodIn_of _ (by decide +kernel)) ggX4_save_X3_copyFrom
theorem dX4_save_0 : decode cX4_save 0 = .ok (.aload_n 0, 1) := by decide +kernel
theorem dX4_save_1 : decode cX4_save 1 = .ok (.getfield 20, 3) := by decide +kernel
theorem dX4_save_4 : decode cX4_save 4 = .ok (.iconst 3, 1) := by decide +kernel
theorem dX4_save_5 : decode cX4_save 5 = .ok (.if_icmp .lt 7, 3) := by decide +kernel
theorem dX4_save_8 : decode cX4_save 8 = .ok (.aload_n 0, 1) := by decide +kernel
theorem dX4_save_9 : decode cX4_save 9 = .ok (.invokevirtual 177, 3) := by decide +kernel
theorem dX4_save_12 : decode cX4_save 12 = .ok (.aload_n 0, 1) := by decide +kernel
theorem dX4_save_13 : decode cX4_save 13 = .ok (.getfield 16, 3) := by decide +kernel
theorem dX4_save_16 : decode cX4_save 16 = .ok (.aload_n 0, 1) := by decide +kernel
theorem dX4_save_17 : decode cX4_save 17 = .ok (.getfield 20, 3) := by decide +kernel
theorem dX4_save_20 : decode cX4_save 20 = .ok (.aaload, 1) := by decide +kernel
theorem dX4_save_21 : decode cX4_save 21 = .ok (.aload_n 0, 1) := by decide +kernel
theorem dX4_save_22 : decode cX4_save 22 = .ok (.getfield 10, 3) := by decide +kernel
theorem dX4_save_25 : decode cX4_save 25 = .ok (.invokevirtual 180, 3) := by decide +kernel
theorem dX4_save_28 : decode cX4_save 28 = .ok (.aload_n 0, 1) := by decide +kernel
theorem dX4_save_29 : decode cX4_save 29 = .ok (.dup, 1) := by decide +kernel
theorem dX4_save_30 : decode cX4_save 30 = .ok (.getfield 20, 3) := by decide +kernel
theorem dX4_save_33 : decode cX4_save 33 = .ok (.iconst 1, 1) := by decide +kernel
theorem dX4_save_34 : decode cX4_save 34 = .ok (.iadd, 1) := by decide +kernel
theorem dX4_save_35 : decode cX4_save 35 = .ok (.putfield 20, 3) := by decide +kernel
theorem dX4_save_38 : decode cX4_save 38 = .ok (.return_, 1) := by decide +kernel
theorem dX4_dropOldest_0 : decode cX4_dropOldest 0 = .ok (.aload_n 0, 1) := by decide +kernel
theorem dX4_dropOldest_1 : decode cX4_dropOldest 1 = .ok (.getfield 16, 3) := by decide +kernel
theorem dX4_dropOldest_4 : decode cX4_dropOldest 4 = .ok (.iconst 0, 1) := by decide +kernel
theorem dX4_dropOldest_5 : decode cX4_dropOldest 5 = .ok (.aaload, 1) := by decide +kernel
theorem dX4_dropOldest_6 : decode cX4_dropOldest 6 = .ok (.astore_n 1, 1) := by decide +kernel
theorem dX4_dropOldest_7 : decode cX4_dropOldest 7 = .ok (.iconst 1, 1) := by decide +kernel
theorem dX4_dropOldest_8 : decode cX4_dropOldest 8 = .ok (.istore_n 2, 1) := by decide +kernel
theorem dX4_dropOldest_9 : decode cX4_dropOldest 9 = .ok (.iload_n 2, 1) := by decide +kernel
theorem dX4_dropOldest_10 : decode cX4_dropOldest 10 = .ok (.iconst 3, 1) := by decide +kernel
theorem dX4_dropOldest_11 : decode cX4_dropOldest 11 = .ok (.if_icmp .ge 23, 3) := by decide +kernel
theorem dX4_dropOldest_14 : decode cX4_dropOldest 14 = .ok (.aload_n 0, 1) := by decide +kernel
theorem dX4_dropOldest_15 : decode cX4_dropOldest 15 = .ok (.getfield 16, 3) := by decide +kernel
theorem dX4_dropOldest_18 : decode cX4_dropOldest 18 = .ok (.iload_n 2, 1) := by decide +kernel
theorem dX4_dropOldest_19 : decode cX4_dropOldest 19 = .ok (.iconst 1, 1) := by decide +kernel
theorem dX4_dropOldest_20 : decode cX4_dropOldest 20 = .ok (.isub, 1) := by decide +kernel
theorem dX4_dropOldest_21 : decode cX4_dropOldest 21 = .ok (.aload_n 0, 1) := by decide +kernel
theorem dX4_dropOldest_22 : decode cX4_dropOldest 22 = .ok (.getfield 16, 3) := by decide +kernel
theorem dX4_dropOldest_25 : decode cX4_dropOldest 25 = .ok (.iload_n 2, 1) := by decide +kernel
theorem dX4_dropOldest_26 : decode cX4_dropOldest 26 = .ok (.aaload, 1) := by decide +kernel
theorem dX4_dropOldest_27 : decode cX4_dropOldest 27 = .ok (.aastore, 1) := by decide +kernel
theorem dX4_dropOldest_28 : decode cX4_dropOldest 28 = .ok (.iinc 2 1, 3) := by decide +kernel
theorem dX4_dropOldest_31 : decode cX4_dropOldest 31 = .ok (.goto (-22), 3) := by decide +kernel
theorem dX4_dropOldest_34 : decode cX4_dropOldest 34 = .ok (.aload_n 0, 1) := by decide +kernel
theorem dX4_dropOldest_35 : decode cX4_dropOldest 35 = .ok (.getfield 16, 3) := by decide +kernel
theorem dX4_dropOldest_38 : decode cX4_dropOldest 38 = .ok (.iconst 2, 1) := by decide +kernel
theorem dX4_dropOldest_39 : decode cX4_dropOldest 39 = .ok (.aload_n 1, 1) := by decide +kernel
theorem dX4_dropOldest_40 : decode cX4_dropOldest 40 = .ok (.aastore, 1) := by decide +kernel
theorem dX4_dropOldest_41 : decode cX4_dropOldest 41 = .ok (.aload_n 0, 1) := by decide +kernel
theorem dX4_dropOldest_42 : decode cX4_dropOldest 42 = .ok (.iconst 2, 1) := by decide +kernel
theorem dX4_dropOldest_43 : decode cX4_dropOldest 43 = .ok (.putfield 20, 3) := by decide +kernel
theorem dX4_dropOldest_46 : decode cX4_dropOldest 46 = .ok (.return_, 1) := by decide +kernel
theorem dX4_requireServer_0 : decode cX4_requireServer 0 = .ok (.iload_n 1, 1) := by decide +kernel
theorem dX4_requireServer_1 : decode cX4_requireServer 1 = .ok (.ifCond .lt 14, 3) := by decide +kernel
theorem dX4_requireServer_4 : decode cX4_requireServer 4 = .ok (.iload_n 1, 1) := by decide +kernel
theorem dX4_requireServer_5 : decode cX4_requireServer 5 = .ok (.aload_n 0, 1) := by decide +kernel
theorem dX4_requireServer_6 : decode cX4_requireServer 6 = .ok (.getfield 10, 3) := by decide +kernel
theorem dX4_requireServer_9 : decode cX4_requireServer 9 = .ok (.getfield 24, 3) := by decide +kernel
theorem dX4_requireServer_12 : decode cX4_requireServer 12 = .ok (.if_icmp .lt 13, 3) := by decide +kernel
theorem dX4_requireServer_15 : decode cX4_requireServer 15 = .ok (.new 184, 3) := by decide +kernel
theorem dX4_requireServer_18 : decode cX4_requireServer 18 = .ok (.dup, 1) := by decide +kernel
theorem dX4_requireServer_19 : decode cX4_requireServer 19 = .ok (.ldc 186, 2) := by decide +kernel
theorem dX4_requireServer_21 : decode cX4_requireServer 21 = .ok (.invokespecial 188, 3) := by decide +kernel
theorem dX4_requireServer_24 : decode cX4_requireServer 24 = .ok (.athrow, 1) := by decide +kernel
theorem dX4_requireServer_25 : decode cX4_requireServer 25 = .ok (.return_, 1) := by decide +kernel
theorem dX4_requireDispatcher_0 : decode cX4_requireDispatcher 0 = .ok (.iload_n 1, 1) := by decide +kernel
theorem dX4_requireDispatcher_1 : decode cX4_requireDispatcher 1 = .ok (.ifCond .lt 14, 3) := by decide +kernel
theorem dX4_requireDispatcher_4 : decode cX4_requireDispatcher 4 = .ok (.iload_n 1, 1) := by decide +kernel
theorem dX4_requireDispatcher_5 : decode cX4_requireDispatcher 5 = .ok (.aload_n 0, 1) := by decide +kernel
theorem dX4_requireDispatcher_6 : decode cX4_requireDispatcher 6 = .ok (.getfield 10, 3) := by decide +kernel
theorem dX4_requireDispatcher_9 : decode cX4_requireDispatcher 9 = .ok (.getfield 45, 3) := by decide +kernel
theorem dX4_requireDispatcher_12 : decode cX4_requireDispatcher 12 = .ok (.if_icmp .lt 13, 3) := by decide +kernel
theorem dX4_requireDispatcher_15 : decode cX4_requireDispatcher 15 = .ok (.new 184, 3) := by decide +kernel
theorem dX4_requireDispatcher_18 : decode cX4_requireDispatcher 18 = .ok (.dup, 1) := by decide +kernel
theorem dX4_requireDispatcher_19 : decode cX4_requireDispatcher 19 = .ok (.ldc 189, 2) := by decide +kernel
theorem dX4_requireDispatcher_21 : decode cX4_requireDispatcher 21 = .ok (.invokespecial 188, 3) := by decide +kernel
theorem dX4_requireDispatcher_24 : decode cX4_requireDispatcher 24 = .ok (.athrow, 1) := by decide +kernel
theorem dX4_requireDispatcher_25 : decode cX4_requireDispatcher 25 = .ok (.return_, 1) := by decide +kernel
theorem dX4_requireServerUp_0 : decode cX4_requireServerUp 0 = .ok (.aload_n 0, 1) := by decide +kernel
theorem dX4_requireServerUp_1 : decode cX4_requireServerUp 1 = .ok (.getfield 10, 3) := by decide +kernel
theorem dX4_requireServerUp_4 : decode cX4_requireServerUp 4 = .ok (.getfield 191, 3) := by decide +kernel
theorem dX4_requireServerUp_7 : decode cX4_requireServerUp 7 = .ok (.ifCond .gt 13, 3) := by decide +kernel
theorem dX4_requireServerUp_10 : decode cX4_requireServerUp 10 = .ok (.new 27, 3) := by decide +kernel
theorem dX4_requireServerUp_13 : decode cX4_requireServerUp 13 = .ok (.dup, 1) := by decide +kernel
theorem dX4_requireServerUp_14 : decode cX4_requireServerUp 14 = .ok (.ldc 194, 2) := by decide +kernel
theorem dX4_requireServerUp_16 : decode cX4_requireServerUp 16 = .ok (.invokespecial 31, 3) := by decide +kernel
theorem dX4_requireServerUp_19 : decode cX4_requireServerUp 19 = .ok (.athrow, 1) := by decide +kernel
theorem dX4_requireServerUp_20 : decode cX4_requireServerUp 20 = .ok (.return_, 1) := by decide +kernel
theorem dX4_requireRange_0 : decode cX4_requireRange 0 = .ok (.iload_n 0, 1) := by decide +kernel
theorem dX4_requireRange_1 : decode cX4_requireRange 1 = .ok (.iload_n 1, 1) := by decide +kernel
theorem dX4_requireRange_2 : decode cX4_requireRange 2 = .ok (.if_icmp .lt 8, 3) := by decide +kernel
theorem dX4_requireRange_5 : decode cX4_requireRange 5 = .ok (.iload_n 0, 1) := by decide +kernel
theorem dX4_requireRange_6 : decode cX4_requireRange 6 = .ok (.iload_n 2, 1) := by decide +kernel
theorem dX4_requireRange_7 : decode cX4_requireRange 7 = .ok (.if_icmp .le 13, 3) := by decide +kernel
theorem dX4_requireRange_10 : decode cX4_requireRange 10 = .ok (.new 184, 3) := by decide +kernel
theorem dX4_requireRange_13 : decode cX4_requireRange 13 = .ok (.dup, 1) := by decide +kernel
theorem dX4_requireRange_14 : decode cX4_requireRange 14 = .ok (.ldc 196, 2) := by decide +kernel
theorem dX4_requireRange_16 : decode cX4_requireRange 16 = .ok (.invokespecial 188, 3) := by decide +kernel
theorem dX4_requireRange_19 : decode cX4_requireRange 19 = .ok (.athrow, 1) := by decide +kernel
theorem dX4_requireRange_20 : decode cX4_requireRange 20 = .ok (.return_, 1) := by decide +kernel
theorem dX4_requireIndex_0 : decode cX4_requireIndex 0 = .ok (.iload_n 0, 1) := by decide +kernel
theorem dX4_requireIndex_1 : decode cX4_requireIndex 1 = .ok (.ifCond .lt 8, 3) := by decide +kernel
theorem dX4_requireIndex_4 : decode cX4_requireIndex 4 = .ok (.iload_n 0, 1) := by decide +kernel
theorem dX4_requireIndex_5 : decode cX4_requireIndex 5 = .ok (.iload_n 1, 1) := by decide +kernel
theorem dX4_requireIndex_6 : decode cX4_requireIndex 6 = .ok (.if_icmp .lt 13, 3) := by decide +kernel
theorem dX4_requireIndex_9 : decode cX4_requireIndex 9 = .ok (.new 198, 3) := by decide +kernel
theorem dX4_requireIndex_12 : decode cX4_requireIndex 12 = .ok (.dup, 1) := by decide +kernel
theorem dX4_requireIndex_13 : decode cX4_requireIndex 13 = .ok (.ldc 200, 2) := by decide +kernel
theorem dX4_requireIndex_15 : decode cX4_requireIndex 15 = .ok (.invokespecial 202, 3) := by decide +kernel
theorem dX4_requireIndex_18 : decode cX4_requireIndex 18 = .ok (.athrow, 1) := by decide +kernel
theorem dX4_requireIndex_19 : decode cX4_requireIndex 19 = .ok (.return_, 1) := by decide +kernel
theorem dX4_commonDivisor_0 : decode cX4_commonDivisor 0 = .ok (.iload_n 1, 1) := by decide +kernel
theorem dX4_commonDivisor_1 : decode cX4_commonDivisor 1 = .ok (.istore_n 2, 1) := by decide +kernel
theorem dX4_commonDivisor_2 : decode cX4_commonDivisor 2 = .ok (.iload_n 2, 1) := by decide +kernel
theorem dX4_commonDivisor_3 : decode cX4_commonDivisor 3 = .ok (.iconst 1, 1) := by decide +kernel
theorem dX4_commonDivisor_4 : decode cX4_commonDivisor 4 = .ok (.if_icmp .le 23, 3) := by decide +kernel
theorem dX4_commonDivisor_7 : decode cX4_commonDivisor 7 = .ok (.iload_n 0, 1) := by decide +kernel
theorem dX4_commonDivisor_8 : decode cX4_commonDivisor 8 = .ok (.iload_n 2, 1) := by decide +kernel
theorem dX4_commonDivisor_9 : decode cX4_commonDivisor 9 = .ok (.irem, 1) := by decide +kernel
theorem dX4_commonDivisor_10 : decode cX4_commonDivisor 10 = .ok (.ifCond .ne 11, 3) := by decide +kernel
theorem dX4_commonDivisor_13 : decode cX4_commonDivisor 13 = .ok (.iload_n 1, 1) := by decide +kernel
theorem dX4_commonDivisor_14 : decode cX4_commonDivisor 14 = .ok (.iload_n 2, 1) := by decide +kernel
theorem dX4_commonDivisor_15 : decode cX4_commonDivisor 15 = .ok (.irem, 1) := by decide +kernel
theorem dX4_commonDivisor_16 : decode cX4_commonDivisor 16 = .ok (.ifCond .ne 5, 3) := by decide +kernel
theorem dX4_commonDivisor_19 : decode cX4_commonDivisor 19 = .ok (.iload_n 2, 1) := by decide +kernel
theorem dX4_commonDivisor_20 : decode cX4_commonDivisor 20 = .ok (.ireturn, 1) := by decide +kernel
theorem dX4_commonDivisor_21 : decode cX4_commonDivisor 21 = .ok (.iinc 2 (-1), 3) := by decide +kernel
theorem dX4_commonDivisor_24 : decode cX4_commonDivisor 24 = .ok (.goto (-22), 3) := by decide +kernel
theorem dX4_commonDivisor_27 : decode cX4_commonDivisor 27 = .ok (.iconst 1, 1) := by decide +kernel
theorem dX4_commonDivisor_28 : decode cX4_commonDivisor 28 = .ok (.ireturn, 1) := by decide +kernel
theorem dX4_mix_0 : decode cX4_mix 0 = .ok (.ldc2_w 203, 3) := by decide +kernel
theorem dX4_mix_3 : decode cX4_mix 3 = .ok (.lload_n 0, 1) := by decide +kernel
theorem dX4_mix_4 : decode cX4_mix 4 = .ok (.lmul, 1) := by decide +kernel
theorem dX4_mix_5 : decode cX4_mix 5 = .ok (.lload_n 2, 1) := by decide +kernel
theorem dX4_mix_6 : decode cX4_mix 6 = .ok (.ladd, 1) := by decide +kernel
theorem dX4_mix_7 : decode cX4_mix 7 = .ok (.lreturn, 1) := by decide +kernel
theorem dX5_init_0 : decode cX5_init 0 = .ok (.aload_n 0, 1) := by decide +kernel
theorem dX5_init_1 : decode cX5_init 1 = .ok (.invokespecial 1, 3) := by decide +kernel
theorem dX5_init_4 : decode cX5_init 4 = .ok (.aload_n 0, 1) := by decide +kernel
theorem dX5_init_5 : decode cX5_init 5 = .ok (.sipush 893, 3) := by decide +kernel
theorem dX5_init_8 : decode cX5_init 8 = .ok (.newarray .int, 2) := by decide +kernel
theorem dX5_init_10 : decode cX5_init 10 = .ok (.putfield 7, 3) := by decide +kernel
theorem dX5_init_13 : decode cX5_init 13 = .ok (.aload_n 0, 1) := by decide +kernel
theorem dX5_init_14 : decode cX5_init 14 = .ok (.sipush 2679, 3) := by decide +kernel
theorem dX5_init_17 : decode cX5_init 17 = .ok (.newarray .int, 2) := by decide +kernel
theorem dX5_init_19 : decode cX5_init 19 = .ok (.putfield 13, 3) := by decide +kernel
theorem dX5_init_22 : decode cX5_init 22 = .ok (.aload_n 0, 1) := by decide +kernel
theorem dX5_init_23 : decode cX5_init 23 = .ok (.bipush 8, 2) := by decide +kernel
theorem dX5_init_25 : decode cX5_init 25 = .ok (.newarray .int, 2) := by decide +kernel
theorem dX5_init_27 : decode cX5_init 27 = .ok (.putfield 16, 3) := by decide +kernel
theorem dX5_init_30 : decode cX5_init 30 = .ok (.aload_n 0, 1) := by decide +kernel
theorem dX5_init_31 : decode cX5_init 31 = .ok (.getfield 7, 3) := by decide +kernel
theorem dX5_init_34 : decode cX5_init 34 = .ok (.iconst 0, 1) := by decide +kernel
theorem dX5_init_35 : decode cX5_init 35 = .ok (.iconst 1, 1) := by decide +kernel
theorem dX5_init_36 : decode cX5_init 36 = .ok (.iastore, 1) := by decide +kernel
theorem dX5_init_37 : decode cX5_init 37 = .ok (.aload_n 0, 1) := by decide +kernel
theorem dX5_init_38 : decode cX5_init 38 = .ok (.getfield 7, 3) := by decide +kernel
theorem dX5_init_41 : decode cX5_init 41 = .ok (.iconst 3, 1) := by decide +kernel
theorem dX5_init_42 : decode cX5_init 42 = .ok (.bipush 8, 2) := by decide +kernel
theorem dX5_init_44 : decode cX5_init 44 = .ok (.iastore, 1) := by decide +kernel
theorem dX5_init_45 : decode cX5_init 45 = .ok (.return_, 1) := by decide +kernel
theorem dX5_thrown_0 : decode cX5_thrown 0 = .ok (.aload_n 0, 1) := by decide +kernel
theorem dX5_thrown_1 : decode cX5_thrown 1 = .ok (.getfield 19, 3) := by decide +kernel
theorem dX5_thrown_4 : decode cX5_thrown 4 = .ok (.ireturn, 1) := by decide +kernel
theorem dX5_refuse_0 : decode cX5_refuse 0 = .ok (.aload_n 0, 1) := by decide +kernel
theorem dX5_refuse_1 : decode cX5_refuse 1 = .ok (.iload_n 1, 1) := by decide +kernel
theorem dX5_refuse_2 : decode cX5_refuse 2 = .ok (.putfield 19, 3) := by decide +kernel
theorem dX5_refuse_5 : decode cX5_refuse 5 = .ok (.iconst 0, 1) := by decide +kernel
theorem dX5_refuse_6 : decode cX5_refuse 6 = .ok (.ireturn, 1) := by decide +kernel
theorem dX5_in_0 : decode cX5_in 0 = .ok (.iload_n 0, 1) := by decide +kernel
theorem dX5_in_1 : decode cX5_in 1 = .ok (.iload_n 1, 1) := by decide +kernel
theorem dX5_in_2 : decode cX5_in 2 = .ok (.if_icmp .lt 12, 3) := by decide +kernel
theorem dX5_in_5 : decode cX5_in 5 = .ok (.iload_n 0, 1) := by decide +kernel
theorem dX5_in_6 : decode cX5_in 6 = .ok (.iload_n 2, 1) := by decide +kernel
theorem dX5_in_7 : decode cX5_in 7 = .ok (.if_icmp .gt 7, 3) := by decide +kernel
theorem dX5_in_10 : decode cX5_in 10 = .ok (.iconst 1, 1) := by decide +kernel
theorem dX5_in_11 : decode cX5_in 11 = .ok (.goto 4, 3) := by decide +kernel
theorem dX5_in_14 : decode cX5_in 14 = .ok (.iconst 0, 1) := by decide +kernel
theorem dX5_in_15 : decode cX5_in 15 = .ok (.ireturn, 1) := by decide +kernel
set_option maxRecDepth 20000 in
theorem ggX5_isServer_X5_in : GoodIn wsX5_isServer wsX5_in := goodIn_r _ [5] (by decide +kernel) (by decide +kernel)
set_option maxRecDepth 20000 in
theorem gX5_isServer_X5_in : GoodIn wsX5_isServer (va_wsS RX5 23 yX5_in wsX5_in) := goodIn_app (goodIn_of _ (by decide +kernel)) ggX5_isServer_X5_in
theorem dX5_isServer_0 : decode cX5_isServer 0 = .ok (.iload_n 1, 1) := by decide +kernel
theorem dX5_isServer_1 : decode cX5_isServer 1 = .ok (.iconst 0, 1) := by decide +kernel
theorem dX5_isServer_2 : decode cX5_isServer 2 = .ok (.aload_n 0, 1) := by decide +kernel
theorem dX5_isServer_3 : decode cX5_isServer 3 = .ok (.getfield 7, 3) := by decide +kernel
theorem dX5_isServer_6 : decode cX5_isServer 6 = .ok (.iconst 4, 1) := by decide +kernel
theorem dX5_isServer_7 : decode cX5_isServer 7 = .ok (.iaload, 1) := by decide +kernel
theorem dX5_isServer_8 : decode cX5_isServer 8 = .ok (.iconst 1, 1) := by decide +kernel
theorem dX5_isServer_9 : decode cX5_isServer 9 = .ok (.isub, 1) := by decide +kernel
theorem dX5_isServer_10 : decode cX5_isServer 10 = .ok (.invokestatic 23, 3) := by decide +kernel
theorem dX5_isServer_13 : decode cX5_isServer 13 = .ok (.ireturn, 1) := by decide +kernel
set_option maxRecDepth 20000 in
theorem ggX5_isDispatcher_X5_in : GoodIn wsX5_isDispatcher wsX5_in := goodIn_r _ [5] (by decide +kernel) (by decide +kernel)
set_option maxRecDepth 20000 in
theorem gX5_isDispatcher_X5_in : GoodIn wsX5_isDispatcher (va_wsS RX5 23 yX5_in wsX5_in) := goodIn_app (goodIn_of _ (by decide +kernel)) ggX5_isDispatcher_X5_in
theorem dX5_isDispatcher_0 : decode cX5_isDispatcher 0 = .ok (.iload_n 1, 1) := by decide +kernel
theorem dX5_isDispatcher_1 : decode cX5_isDispatcher 1 = .ok (.iconst 0, 1) := by decide +kernel
theorem dX5_isDispatcher_2 : decode cX5_isDispatcher 2 = .ok (.aload_n 0, 1) := by decide +kernel
theorem dX5_isDispatcher_3 : decode cX5_isDispatcher 3 = .ok (.getfield 7, 3) := by decide +kernel
theorem dX5_isDispatcher_6 : decode cX5_isDispatcher 6 = .ok (.iconst 5, 1) := by decide +kernel
theorem dX5_isDispatcher_7 : decode cX5_isDispatcher 7 = .ok (.iaload, 1) := by decide +kernel
theorem dX5_isDispatcher_8 : decode cX5_isDispatcher 8 = .ok (.iconst 1, 1) := by decide +kernel
theorem dX5_isDispatcher_9 : decode cX5_isDispatcher 9 = .ok (.isub, 1) := by decide +kernel
theorem dX5_isDispatcher_10 : decode cX5_isDispatcher 10 = .ok (.invokestatic 23, 3) := by decide +kernel
theorem dX5_isDispatcher_13 : decode cX5_isDispatcher 13 = .ok (.ireturn, 1) := by decide +kernel
set_option maxRecDepth 20000 in
theorem ggX5_isJob_X5_in : GoodIn wsX5_isJob wsX5_in := goodIn_r _ [5] (by decide +kernel) (by decide +kernel)
set_option maxRecDepth 20000 in
theorem gX5_isJob_X5_in : GoodIn wsX5_isJob (va_wsS RX5 23 yX5_in wsX5_in) := goodIn_app (goodIn_of _ (by decide +kernel)) ggX5_isJob_X5_in
theorem dX5_isJob_0 : decode cX5_isJob 0 = .ok (.iload_n 1, 1) := by decide +kernel
theorem dX5_isJob_1 : decode cX5_isJob 1 = .ok (.iconst 0, 1) := by decide +kernel
theorem dX5_isJob_2 : decode cX5_isJob 2 = .ok (.aload_n 0, 1) := by decide +kernel
theorem dX5_isJob_3 : decode cX5_isJob 3 = .ok (.getfield 7, 3) := by decide +kernel
theorem dX5_isJob_6 : decode cX5_isJob 6 = .ok (.bipush 6, 2) := by decide +kernel
theorem dX5_isJob_8 : decode cX5_isJob 8 = .ok (.iaload, 1) := by decide +kernel
theorem dX5_isJob_9 : decode cX5_isJob 9 = .ok (.iconst 1, 1) := by decide +kernel
theorem dX5_isJob_10 : decode cX5_isJob 10 = .ok (.isub, 1) := by decide +kernel
theorem dX5_isJob_11 : decode cX5_isJob 11 = .ok (.invokestatic 23, 3) := by decide +kernel
theorem dX5_isJob_14 : decode cX5_isJob 14 = .ok (.ireturn, 1) := by decide +kernel
theorem dX5_save_0 : decode cX5_save 0 = .ok (.aload_n 0, 1) := by decide +kernel
theorem dX5_save_1 : decode cX5_save 1 = .ok (.getfield 27, 3) := by decide +kernel
theorem dX5_save_4 : decode cX5_save 4 = .ok (.iconst 3, 1) := by decide +kernel
theorem dX5_save_5 : decode cX5_save 5 = .ok (.if_icmp .ne 44, 3) := by decide +kernel
theorem dX5_save_8 : decode cX5_save 8 = .ok (.iconst 0, 1) := by decide +kernel
theorem dX5_save_9 : decode cX5_save 9 = .ok (.istore_n 1, 1) := by decide +kernel
theorem dX5_save_10 : decode cX5_save 10 = .ok (.iload_n 1, 1) := by decide +kernel
theorem dX5_save_11 : decode cX5_save 11 = .ok (.sipush 1786, 3) := by decide +kernel
theorem dX5_save_14 : decode cX5_save 14 = .ok (.if_icmp .ge 25, 3) := by decide +kernel
theorem dX5_save_17 : decode cX5_save 17 = .ok (.aload_n 0, 1) := by decide +kernel
theorem dX5_save_18 : decode cX5_save 18 = .ok (.getfield 13, 3) := by decide +kernel
theorem dX5_save_21 : decode cX5_save 21 = .ok (.iload_n 1, 1) := by decide +kernel
theorem dX5_save_22 : decode cX5_save 22 = .ok (.aload_n 0, 1) := by decide +kernel
theorem dX5_save_23 : decode cX5_save 23 = .ok (.getfield 13, 3) := by decide +kernel
theorem dX5_save_26 : decode cX5_save 26 = .ok (.iload_n 1, 1) := by decide +kernel
theorem dX5_save_27 : decode cX5_save 27 = .ok (.sipush 893, 3) := by decide +kernel
theorem dX5_save_30 : decode cX5_save 30 = .ok (.iadd, 1) := by decide +kernel
theorem dX5_save_31 : decode cX5_save 31 = .ok (.iaload, 1) := by decide +kernel
theorem dX5_save_32 : decode cX5_save 32 = .ok (.iastore, 1) := by decide +kernel
theorem dX5_save_33 : decode cX5_save 33 = .ok (.iinc 1 1, 3) := by decide +kernel
theorem dX5_save_36 : decode cX5_save 36 = .ok (.goto (-26), 3) := by decide +kernel
theorem dX5_save_39 : decode cX5_save 39 = .ok (.aload_n 0, 1) := by decide +kernel
theorem dX5_save_40 : decode cX5_save 40 = .ok (.dup, 1) := by decide +kernel
theorem dX5_save_41 : decode cX5_save 41 = .ok (.getfield 27, 3) := by decide +kernel
theorem dX5_save_44 : decode cX5_save 44 = .ok (.iconst 1, 1) := by decide +kernel
theorem dX5_save_45 : decode cX5_save 45 = .ok (.isub, 1) := by decide +kernel
theorem dX5_save_46 : decode cX5_save 46 = .ok (.putfield 27, 3) := by decide +kernel
theorem dX5_save_49 : decode cX5_save 49 = .ok (.iconst 0, 1) := by decide +kernel
theorem dX5_save_50 : decode cX5_save 50 = .ok (.istore_n 1, 1) := by decide +kernel
theorem dX5_save_51 : decode cX5_save 51 = .ok (.iload_n 1, 1) := by decide +kernel
theorem dX5_save_52 : decode cX5_save 52 = .ok (.sipush 893, 3) := by decide +kernel
theorem dX5_save_55 : decode cX5_save 55 = .ok (.if_icmp .ge 30, 3) := by decide +kernel
theorem dX5_save_58 : decode cX5_save 58 = .ok (.aload_n 0, 1) := by decide +kernel
theorem dX5_save_59 : decode cX5_save 59 = .ok (.getfield 13, 3) := by decide +kernel
theorem dX5_save_62 : decode cX5_save 62 = .ok (.sipush 893, 3) := by decide +kernel
theorem dX5_save_65 : decode cX5_save 65 = .ok (.aload_n 0, 1) := by decide +kernel
theorem dX5_save_66 : decode cX5_save 66 = .ok (.getfield 27, 3) := by decide +kernel
theorem dX5_save_69 : decode cX5_save 69 = .ok (.imul, 1) := by decide +kernel
theorem dX5_save_70 : decode cX5_save 70 = .ok (.iload_n 1, 1) := by decide +kernel
theorem dX5_save_71 : decode cX5_save 71 = .ok (.iadd, 1) := by decide +kernel
theorem dX5_save_72 : decode cX5_save 72 = .ok (.aload_n 0, 1) := by decide +kernel
theorem dX5_save_73 : decode cX5_save 73 = .ok (.getfield 7, 3) := by decide +kernel
theorem dX5_save_76 : decode cX5_save 76 = .ok (.iload_n 1, 1) := by decide +kernel
theorem dX5_save_77 : decode cX5_save 77 = .ok (.iaload, 1) := by decide +kernel
theorem dX5_save_78 : decode cX5_save 78 = .ok (.iastore, 1) := by decide +kernel
theorem dX5_save_79 : decode cX5_save 79 = .ok (.iinc 1 1, 3) := by decide +kernel
theorem dX5_save_82 : decode cX5_save 82 = .ok (.goto (-31), 3) := by decide +kernel
theorem dX5_save_85 : decode cX5_save 85 = .ok (.aload_n 0, 1) := by decide +kernel
theorem dX5_save_86 : decode cX5_save 86 = .ok (.dup, 1) := by decide +kernel
theorem dX5_save_87 : decode cX5_save 87 = .ok (.getfield 27, 3) := by decide +kernel
theorem dX5_save_90 : decode cX5_save 90 = .ok (.iconst 1, 1) := by decide +kernel
theorem dX5_save_91 : decode cX5_save 91 = .ok (.iadd, 1) := by decide +kernel
theorem dX5_save_92 : decode cX5_save 92 = .ok (.putfield 27, 3) := by decide +kernel
theorem dX5_save_95 : decode cX5_save 95 = .ok (.return_, 1) := by decide +kernel
theorem dX5_draw_0 : decode cX5_draw 0 = .ok (.aload_n 0, 1) := by decide +kernel
theorem dX5_draw_1 : decode cX5_draw 1 = .ok (.getfield 7, 3) := by decide +kernel
theorem dX5_draw_4 : decode cX5_draw 4 = .ok (.iconst 0, 1) := by decide +kernel
theorem dX5_draw_5 : decode cX5_draw 5 = .ok (.aload_n 0, 1) := by decide +kernel
theorem dX5_draw_6 : decode cX5_draw 6 = .ok (.getfield 7, 3) := by decide +kernel
theorem dX5_draw_9 : decode cX5_draw 9 = .ok (.iconst 0, 1) := by decide +kernel
theorem dX5_draw_10 : decode cX5_draw 10 = .ok (.iaload, 1) := by decide +kernel
theorem dX5_draw_11 : decode cX5_draw 11 = .ok (.i2l, 1) := by decide +kernel
theorem dX5_draw_12 : decode cX5_draw 12 = .ok (.ldc2_w 30, 3) := by decide +kernel
theorem dX5_draw_15 : decode cX5_draw 15 = .ok (.lmul, 1) := by decide +kernel
theorem dX5_draw_16 : decode cX5_draw 16 = .ok (.ldc2_w 32, 3) := by decide +kernel
theorem dX5_draw_19 : decode cX5_draw 19 = .ok (.ladd, 1) := by decide +kernel
theorem dX5_draw_20 : decode cX5_draw 20 = .ok (.ldc2_w 34, 3) := by decide +kernel
theorem dX5_draw_23 : decode cX5_draw 23 = .ok (.lrem, 1) := by decide +kernel
theorem dX5_draw_24 : decode cX5_draw 24 = .ok (.l2i, 1) := by decide +kernel
theorem dX5_draw_25 : decode cX5_draw 25 = .ok (.iastore, 1) := by decide +kernel
theorem dX5_draw_26 : decode cX5_draw 26 = .ok (.aload_n 0, 1) := by decide +kernel
theorem dX5_draw_27 : decode cX5_draw 27 = .ok (.getfield 7, 3) := by decide +kernel
theorem dX5_draw_30 : decode cX5_draw 30 = .ok (.iconst 0, 1) := by decide +kernel
theorem dX5_draw_31 : decode cX5_draw 31 = .ok (.iaload, 1) := by decide +kernel
theorem dX5_draw_32 : decode cX5_draw 32 = .ok (.ldc 36, 2) := by decide +kernel
theorem dX5_draw_34 : decode cX5_draw 34 = .ok (.idiv, 1) := by decide +kernel
theorem dX5_draw_35 : decode cX5_draw 35 = .ok (.iload_n 1, 1) := by decide +kernel
theorem dX5_draw_36 : decode cX5_draw 36 = .ok (.irem, 1) := by decide +kernel
theorem dX5_draw_37 : decode cX5_draw 37 = .ok (.ireturn, 1) := by decide +kernel
theorem dX5_isUp_0 : decode cX5_isUp 0 = .ok (.aload_n 0, 1) := by decide +kernel
theorem dX5_isUp_1 : decode cX5_isUp 1 = .ok (.getfield 7, 3) := by decide +kernel
theorem dX5_isUp_4 : decode cX5_isUp 4 = .ok (.bipush 9, 2) := by decide +kernel
theorem dX5_isUp_6 : decode cX5_isUp 6 = .ok (.iload_n 1, 1) := by decide +kernel
theorem dX5_isUp_7 : decode cX5_isUp 7 = .ok (.iadd, 1) := by decide +kernel
theorem dX5_isUp_8 : decode cX5_isUp 8 = .ok (.iaload, 1) := by decide +kernel
theorem dX5_isUp_9 : decode cX5_isUp 9 = .ok (.iconst 1, 1) := by decide +kernel
theorem dX5_isUp_10 : decode cX5_isUp 10 = .ok (.if_icmp .ne 7, 3) := by decide +kernel
theorem dX5_isUp_13 : decode cX5_isUp 13 = .ok (.iconst 1, 1) := by decide +kernel
theorem dX5_isUp_14 : decode cX5_isUp 14 = .ok (.goto 4, 3) := by decide +kernel
theorem dX5_isUp_17 : decode cX5_isUp 17 = .ok (.iconst 0, 1) := by decide +kernel
theorem dX5_isUp_18 : decode cX5_isUp 18 = .ok (.ireturn, 1) := by decide +kernel
theorem dX5_isQueued_0 : decode cX5_isQueued 0 = .ok (.aload_n 0, 1) := by decide +kernel
theorem dX5_isQueued_1 : decode cX5_isQueued 1 = .ok (.getfield 7, 3) := by decide +kernel
theorem dX5_isQueued_4 : decode cX5_isQueued 4 = .ok (.bipush 93, 2) := by decide +kernel
theorem dX5_isQueued_6 : decode cX5_isQueued 6 = .ok (.iload_n 1, 1) := by decide +kernel
theorem dX5_isQueued_7 : decode cX5_isQueued 7 = .ok (.iadd, 1) := by decide +kernel
theorem dX5_isQueued_8 : decode cX5_isQueued 8 = .ok (.iaload, 1) := by decide +kernel
theorem dX5_isQueued_9 : decode cX5_isQueued 9 = .ok (.iload_n 2, 1) := by decide +kernel
theorem dX5_isQueued_10 : decode cX5_isQueued 10 = .ok (.if_icmp .ne 20, 3) := by decide +kernel
theorem dX5_isQueued_13 : decode cX5_isQueued 13 = .ok (.aload_n 0, 1) := by decide +kernel
theorem dX5_isQueued_14 : decode cX5_isQueued 14 = .ok (.getfield 7, 3) := by decide +kernel
theorem dX5_isQueued_17 : decode cX5_isQueued 17 = .ok (.sipush 293, 3) := by decide +kernel
theorem dX5_isQueued_20 : decode cX5_isQueued 20 = .ok (.iload_n 1, 1) := by decide +kernel
theorem dX5_isQueued_21 : decode cX5_isQueued 21 = .ok (.iadd, 1) := by decide +kernel
theorem dX5_isQueued_22 : decode cX5_isQueued 22 = .ok (.iaload, 1) := by decide +kernel
theorem dX5_isQueued_23 : decode cX5_isQueued 23 = .ok (.ifCond .le 7, 3) := by decide +kernel
theorem dX5_isQueued_26 : decode cX5_isQueued 26 = .ok (.iconst 1, 1) := by decide +kernel
theorem dX5_isQueued_27 : decode cX5_isQueued 27 = .ok (.goto 4, 3) := by decide +kernel
theorem dX5_isQueued_30 : decode cX5_isQueued 30 = .ok (.iconst 0, 1) := by decide +kernel
theorem dX5_isQueued_31 : decode cX5_isQueued 31 = .ok (.ireturn, 1) := by decide +kernel
set_option maxRecDepth 20000 in
theorem ggX5_lengthOf_X5_isQueued : GoodIn wsX5_lengthOf wsX5_isQueued := goodIn_r _ [6, 1, 7, 8, 9, 10, 11, 12] (by decide +kernel) (by decide +kernel)
set_option maxRecDepth 20000 in
theorem gX5_lengthOf_X5_isQueued : GoodIn wsX5_lengthOf (wsV RX5 37 RX5 yX5_isQueued wsX5_isQueued) := goodIn_app (goodIn_of _ (by decide +kernel)) ggX5_lengthOf_X5_isQueued
theorem dX5_lengthOf_0 : decode cX5_lengthOf 0 = .ok (.iconst 0, 1) := by decide +kernel
theorem dX5_lengthOf_1 : decode cX5_lengthOf 1 = .ok (.istore_n 2, 1) := by decide +kernel
theorem dX5_lengthOf_2 : decode cX5_lengthOf 2 = .ok (.iconst 0, 1) := by decide +kernel
theorem dX5_lengthOf_3 : decode cX5_lengthOf 3 = .ok (.istore_n 3, 1) := by decide +kernel
theorem dX5_lengthOf_4 : decode cX5_lengthOf 4 = .ok (.iload_n 3, 1) := by decide +kernel
theorem dX5_lengthOf_5 : decode cX5_lengthOf 5 = .ok (.aload_n 0, 1) := by decide +kernel
theorem dX5_lengthOf_6 : decode cX5_lengthOf 6 = .ok (.getfield 7, 3) := by decide +kernel
theorem dX5_lengthOf_9 : decode cX5_lengthOf 9 = .ok (.bipush 6, 2) := by decide +kernel
theorem dX5_lengthOf_11 : decode cX5_lengthOf 11 = .ok (.iaload, 1) := by decide +kernel
theorem dX5_lengthOf_12 : decode cX5_lengthOf 12 = .ok (.if_icmp .ge 26, 3) := by decide +kernel
theorem dX5_lengthOf_15 : decode cX5_lengthOf 15 = .ok (.iload_n 2, 1) := by decide +kernel
theorem dX5_lengthOf_16 : decode cX5_lengthOf 16 = .ok (.aload_n 0, 1) := by decide +kernel
theorem dX5_lengthOf_17 : decode cX5_lengthOf 17 = .ok (.iload_n 3, 1) := by decide +kernel
theorem dX5_lengthOf_18 : decode cX5_lengthOf 18 = .ok (.iload_n 1, 1) := by decide +kernel
theorem dX5_lengthOf_19 : decode cX5_lengthOf 19 = .ok (.invokevirtual 37, 3) := by decide +kernel
theorem dX5_lengthOf_22 : decode cX5_lengthOf 22 = .ok (.ifCond .eq 7, 3) := by decide +kernel
theorem dX5_lengthOf_25 : decode cX5_lengthOf 25 = .ok (.iconst 1, 1) := by decide +kernel
theorem dX5_lengthOf_26 : decode cX5_lengthOf 26 = .ok (.goto 4, 3) := by decide +kernel
theorem dX5_lengthOf_29 : decode cX5_lengthOf 29 = .ok (.iconst 0, 1) := by decide +kernel
theorem dX5_lengthOf_30 : decode cX5_lengthOf 30 = .ok (.iadd, 1) := by decide +kernel
theorem dX5_lengthOf_31 : decode cX5_lengthOf 31 = .ok (.istore_n 2, 1) := by decide +kernel
theorem dX5_lengthOf_32 : decode cX5_lengthOf 32 = .ok (.iinc 3 1, 3) := by decide +kernel
theorem dX5_lengthOf_35 : decode cX5_lengthOf 35 = .ok (.goto (-31), 3) := by decide +kernel
theorem dX5_lengthOf_38 : decode cX5_lengthOf 38 = .ok (.iload_n 2, 1) := by decide +kernel
theorem dX5_lengthOf_39 : decode cX5_lengthOf 39 = .ok (.ireturn, 1) := by decide +kernel
set_option maxRecDepth 20000 in
theorem ggX5_workOf_X5_isQueued : GoodIn wsX5_workOf wsX5_isQueued := goodIn_r _ [6, 1, 7, 8, 9, 10, 11, 12] (by decide +kernel) (by decide +kernel)
set_option maxRecDepth 20000 in
theorem gX5_workOf_X5_isQueued : GoodIn wsX5_workOf (wsV RX5 37 RX5 yX5_isQueued wsX5_isQueued) := goodIn_app (goodIn_of _ (by decide +kernel)) ggX5_workOf_X5_isQueued
theorem dX5_workOf_0 : decode cX5_workOf 0 = .ok (.iconst 0, 1) := by decide +kernel
theorem dX5_workOf_1 : decode cX5_workOf 1 = .ok (.istore_n 2, 1) := by decide +kernel
theorem dX5_workOf_2 : decode cX5_workOf 2 = .ok (.iconst 0, 1) := by decide +kernel
theorem dX5_workOf_3 : decode cX5_workOf 3 = .ok (.istore_n 3, 1) := by decide +kernel
theorem dX5_workOf_4 : decode cX5_workOf 4 = .ok (.iload_n 3, 1) := by decide +kernel
theorem dX5_workOf_5 : decode cX5_workOf 5 = .ok (.aload_n 0, 1) := by decide +kernel
theorem dX5_workOf_6 : decode cX5_workOf 6 = .ok (.getfield 7, 3) := by decide +kernel
theorem dX5_workOf_9 : decode cX5_workOf 9 = .ok (.bipush 6, 2) := by decide +kernel
theorem dX5_workOf_11 : decode cX5_workOf 11 = .ok (.iaload, 1) := by decide +kernel
theorem dX5_workOf_12 : decode cX5_workOf 12 = .ok (.if_icmp .ge 35, 3) := by decide +kernel
theorem dX5_workOf_15 : decode cX5_workOf 15 = .ok (.iload_n 2, 1) := by decide +kernel
theorem dX5_workOf_16 : decode cX5_workOf 16 = .ok (.aload_n 0, 1) := by decide +kernel
theorem dX5_workOf_17 : decode cX5_workOf 17 = .ok (.iload_n 3, 1) := by decide +kernel
theorem dX5_workOf_18 : decode cX5_workOf 18 = .ok (.iload_n 1, 1) := by decide +kernel
theorem dX5_workOf_19 : decode cX5_workOf 19 = .ok (.invokevirtual 37, 3) := by decide +kernel
theorem dX5_workOf_22 : decode cX5_workOf 22 = .ok (.ifCond .eq 16, 3) := by decide +kernel
theorem dX5_workOf_25 : decode cX5_workOf 25 = .ok (.aload_n 0, 1) := by decide +kernel
theorem dX5_workOf_26 : decode cX5_workOf 26 = .ok (.getfield 7, 3) := by decide +kernel
theorem dX5_workOf_29 : decode cX5_workOf 29 = .ok (.sipush 293, 3) := by decide +kernel
theorem dX5_workOf_32 : decode cX5_workOf 32 = .ok (.iload_n 3, 1) := by decide +kernel
theorem dX5_workOf_33 : decode cX5_workOf 33 = .ok (.iadd, 1) := by decide +kernel
theorem dX5_workOf_34 : decode cX5_workOf 34 = .ok (.iaload, 1) := by decide +kernel
theorem dX5_workOf_35 : decode cX5_workOf 35 = .ok (.goto 4, 3) := by decide +kernel
theorem dX5_workOf_38 : decode cX5_workOf 38 = .ok (.iconst 0, 1) := by decide +kernel
theorem dX5_workOf_39 : decode cX5_workOf 39 = .ok (.iadd, 1) := by decide +kernel
theorem dX5_workOf_40 : decode cX5_workOf 40 = .ok (.istore_n 2, 1) := by decide +kernel
theorem dX5_workOf_41 : decode cX5_workOf 41 = .ok (.iinc 3 1, 3) := by decide +kernel
theorem dX5_workOf_44 : decode cX5_workOf 44 = .ok (.goto (-40), 3) := by decide +kernel
theorem dX5_workOf_47 : decode cX5_workOf 47 = .ok (.iload_n 2, 1) := by decide +kernel
theorem dX5_workOf_48 : decode cX5_workOf 48 = .ok (.ireturn, 1) := by decide +kernel
set_option maxRecDepth 20000 in
theorem ggX5_firstJob_X5_isQueued : GoodIn wsX5_firstJob wsX5_isQueued := goodIn_r _ [6, 1, 7, 8, 9, 10, 11, 12] (by decide +kernel) (by decide +kernel)
set_option maxRecDepth 20000 in
theorem gX5_firstJob_X5_isQueued : GoodIn wsX5_firstJob (wsV RX5 37 RX5 yX5_isQueued wsX5_isQueued) := goodIn_app (goodIn_of _ (by decide +kernel)) ggX5_firstJob_X5_isQueued
theorem dX5_firstJob_0 : decode cX5_firstJob 0 = .ok (.iconst 0, 1) := by decide +kernel
theorem dX5_firstJob_1 : decode cX5_firstJob 1 = .ok (.istore_n 2, 1) := by decide +kernel
theorem dX5_firstJob_2 : decode cX5_firstJob 2 = .ok (.iload_n 2, 1) := by decide +kernel
theorem dX5_firstJob_3 : decode cX5_firstJob 3 = .ok (.aload_n 0, 1) := by decide +kernel
theorem dX5_firstJob_4 : decode cX5_firstJob 4 = .ok (.getfield 7, 3) := by decide +kernel
theorem dX5_firstJob_7 : decode cX5_firstJob 7 = .ok (.bipush 6, 2) := by decide +kernel
theorem dX5_firstJob_9 : decode cX5_firstJob 9 = .ok (.iaload, 1) := by decide +kernel
theorem dX5_firstJob_10 : decode cX5_firstJob 10 = .ok (.if_icmp .ge 20, 3) := by decide +kernel
theorem dX5_firstJob_13 : decode cX5_firstJob 13 = .ok (.aload_n 0, 1) := by decide +kernel
theorem dX5_firstJob_14 : decode cX5_firstJob 14 = .ok (.iload_n 2, 1) := by decide +kernel
theorem dX5_firstJob_15 : decode cX5_firstJob 15 = .ok (.iload_n 1, 1) := by decide +kernel
theorem dX5_firstJob_16 : decode cX5_firstJob 16 = .ok (.invokevirtual 37, 3) := by decide +kernel
theorem dX5_firstJob_19 : decode cX5_firstJob 19 = .ok (.ifCond .eq 5, 3) := by decide +kernel
theorem dX5_firstJob_22 : decode cX5_firstJob 22 = .ok (.iload_n 2, 1) := by decide +kernel
theorem dX5_firstJob_23 : decode cX5_firstJob 23 = .ok (.ireturn, 1) := by decide +kernel
theorem dX5_firstJob_24 : decode cX5_firstJob 24 = .ok (.iinc 2 1, 3) := by decide +kernel
theorem dX5_firstJob_27 : decode cX5_firstJob 27 = .ok (.goto (-25), 3) := by decide +kernel
theorem dX5_firstJob_30 : decode cX5_firstJob 30 = .ok (.iconst (-1), 1) := by decide +kernel
theorem dX5_firstJob_31 : decode cX5_firstJob 31 = .ok (.ireturn, 1) := by decide +kernel
theorem dX5_listOf_0 : decode cX5_listOf 0 = .ok (.iconst (-1), 1) := by decide +kernel
theorem dX5_listOf_1 : decode cX5_listOf 1 = .ok (.istore_n 2, 1) := by decide +kernel
theorem dX5_listOf_2 : decode cX5_listOf 2 = .ok (.iconst 0, 1) := by decide +kernel
theorem dX5_listOf_3 : decode cX5_listOf 3 = .ok (.istore_n 3, 1) := by decide +kernel
theorem dX5_listOf_4 : decode cX5_listOf 4 = .ok (.iload_n 3, 1) := by decide +kernel
theorem dX5_listOf_5 : decode cX5_listOf 5 = .ok (.aload_n 0, 1) := by decide +kernel
theorem dX5_listOf_6 : decode cX5_listOf 6 = .ok (.getfield 7, 3) := by decide +kernel
theorem dX5_listOf_9 : decode cX5_listOf 9 = .ok (.iconst 5, 1) := by decide +kernel
theorem dX5_listOf_10 : decode cX5_listOf 10 = .ok (.iaload, 1) := by decide +kernel
theorem dX5_listOf_11 : decode cX5_listOf 11 = .ok (.if_icmp .ge 57, 3) := by decide +kernel
theorem dX5_listOf_14 : decode cX5_listOf 14 = .ok (.iconst 0, 1) := by decide +kernel
theorem dX5_listOf_15 : decode cX5_listOf 15 = .ok (.istore 4, 2) := by decide +kernel
theorem dX5_listOf_17 : decode cX5_listOf 17 = .ok (.iload 4, 2) := by decide +kernel
theorem dX5_listOf_19 : decode cX5_listOf 19 = .ok (.aload_n 0, 1) := by decide +kernel
theorem dX5_listOf_20 : decode cX5_listOf 20 = .ok (.getfield 7, 3) := by decide +kernel
theorem dX5_listOf_23 : decode cX5_listOf 23 = .ok (.bipush 57, 2) := by decide +kernel
theorem dX5_listOf_25 : decode cX5_listOf 25 = .ok (.iload_n 3, 1) := by decide +kernel
theorem dX5_listOf_26 : decode cX5_listOf 26 = .ok (.iadd, 1) := by decide +kernel
theorem dX5_listOf_27 : decode cX5_listOf 27 = .ok (.iaload, 1) := by decide +kernel
theorem dX5_listOf_28 : decode cX5_listOf 28 = .ok (.if_icmp .ge 34, 3) := by decide +kernel
theorem dX5_listOf_31 : decode cX5_listOf 31 = .ok (.aload_n 0, 1) := by decide +kernel
theorem dX5_listOf_32 : decode cX5_listOf 32 = .ok (.getfield 7, 3) := by decide +kernel
theorem dX5_listOf_35 : decode cX5_listOf 35 = .ok (.bipush 61, 2) := by decide +kernel
theorem dX5_listOf_37 : decode cX5_listOf 37 = .ok (.bipush 8, 2) := by decide +kernel
theorem dX5_listOf_39 : decode cX5_listOf 39 = .ok (.iload_n 3, 1) := by decide +kernel
theorem dX5_listOf_40 : decode cX5_listOf 40 = .ok (.imul, 1) := by decide +kernel
theorem dX5_listOf_41 : decode cX5_listOf 41 = .ok (.iadd, 1) := by decide +kernel
theorem dX5_listOf_42 : decode cX5_listOf 42 = .ok (.iload 4, 2) := by decide +kernel
theorem dX5_listOf_44 : decode cX5_listOf 44 = .ok (.iadd, 1) := by decide +kernel
theorem dX5_listOf_45 : decode cX5_listOf 45 = .ok (.iaload, 1) := by decide +kernel
theorem dX5_listOf_46 : decode cX5_listOf 46 = .ok (.iload_n 1, 1) := by decide +kernel
theorem dX5_listOf_47 : decode cX5_listOf 47 = .ok (.if_icmp .ne 7, 3) := by decide +kernel
theorem dX5_listOf_50 : decode cX5_listOf 50 = .ok (.iload_n 3, 1) := by decide +kernel
theorem dX5_listOf_51 : decode cX5_listOf 51 = .ok (.goto 4, 3) := by decide +kernel
theorem dX5_listOf_54 : decode cX5_listOf 54 = .ok (.iload_n 2, 1) := by decide +kernel
theorem dX5_listOf_55 : decode cX5_listOf 55 = .ok (.istore_n 2, 1) := by decide +kernel
theorem dX5_listOf_56 : decode cX5_listOf 56 = .ok (.iinc 4 1, 3) := by decide +kernel
theorem dX5_listOf_59 : decode cX5_listOf 59 = .ok (.goto (-42), 3) := by decide +kernel
theorem dX5_listOf_62 : decode cX5_listOf 62 = .ok (.iinc 3 1, 3) := by decide +kernel
theorem dX5_listOf_65 : decode cX5_listOf 65 = .ok (.goto (-61), 3) := by decide +kernel
theorem dX5_listOf_68 : decode cX5_listOf 68 = .ok (.iload_n 2, 1) := by decide +kernel
theorem dX5_listOf_69 : decode cX5_listOf 69 = .ok (.ireturn, 1) := by decide +kernel
set_option maxRecDepth 20000 in
theorem ggX5_register_X5_draw : GoodIn wsX5_register wsX5_draw := goodIn_r _ [6, 1, 7, 8, 9, 10, 11, 12, 13, 14, 15, 16] (by decide +kernel) (by decide +kernel)
set_option maxRecDepth 20000 in
theorem gX5_register_X5_draw : GoodIn wsX5_register (wsV RX5 41 RX5 yX5_draw wsX5_draw) := goodIn_app (goodIn_of _ (by decide +kernel)) ggX5_register_X5_draw
theorem dX5_register_0 : decode cX5_register 0 = .ok (.aload_n 0, 1) := by decide +kernel
theorem dX5_register_1 : decode cX5_register 1 = .ok (.getfield 7, 3) := by decide +kernel
theorem dX5_register_4 : decode cX5_register 4 = .ok (.iconst 5, 1) := by decide +kernel
theorem dX5_register_5 : decode cX5_register 5 = .ok (.iaload, 1) := by decide +kernel
theorem dX5_register_6 : decode cX5_register 6 = .ok (.istore_n 2, 1) := by decide +kernel
theorem dX5_register_7 : decode cX5_register 7 = .ok (.iload_n 2, 1) := by decide +kernel
theorem dX5_register_8 : decode cX5_register 8 = .ok (.ifCond .ne 4, 3) := by decide +kernel
theorem dX5_register_11 : decode cX5_register 11 = .ok (.return_, 1) := by decide +kernel
theorem dX5_register_12 : decode cX5_register 12 = .ok (.iload_n 1, 1) := by decide +kernel
theorem dX5_register_13 : decode cX5_register 13 = .ok (.iload_n 2, 1) := by decide +kernel
theorem dX5_register_14 : decode cX5_register 14 = .ok (.irem, 1) := by decide +kernel
theorem dX5_register_15 : decode cX5_register 15 = .ok (.istore_n 3, 1) := by decide +kernel
theorem dX5_register_16 : decode cX5_register 16 = .ok (.aload_n 0, 1) := by decide +kernel
theorem dX5_register_17 : decode cX5_register 17 = .ok (.getfield 7, 3) := by decide +kernel
theorem dX5_register_20 : decode cX5_register 20 = .ok (.iconst 2, 1) := by decide +kernel
theorem dX5_register_21 : decode cX5_register 21 = .ok (.iaload, 1) := by decide +kernel
theorem dX5_register_22 : decode cX5_register 22 = .ok (.ifCond .ne 12, 3) := by decide +kernel
theorem dX5_register_25 : decode cX5_register 25 = .ok (.aload_n 0, 1) := by decide +kernel
theorem dX5_register_26 : decode cX5_register 26 = .ok (.iload_n 2, 1) := by decide +kernel
theorem dX5_register_27 : decode cX5_register 27 = .ok (.invokevirtual 41, 3) := by decide +kernel
theorem dX5_register_30 : decode cX5_register 30 = .ok (.istore_n 3, 1) := by decide +kernel
theorem dX5_register_31 : decode cX5_register 31 = .ok (.goto 58, 3) := by decide +kernel
theorem dX5_register_34 : decode cX5_register 34 = .ok (.aload_n 0, 1) := by decide +kernel
theorem dX5_register_35 : decode cX5_register 35 = .ok (.getfield 7, 3) := by decide +kernel
theorem dX5_register_38 : decode cX5_register 38 = .ok (.iconst 2, 1) := by decide +kernel
theorem dX5_register_39 : decode cX5_register 39 = .ok (.iaload, 1) := by decide +kernel
theorem dX5_register_40 : decode cX5_register 40 = .ok (.iconst 1, 1) := by decide +kernel
theorem dX5_register_41 : decode cX5_register 41 = .ok (.if_icmp .ne 48, 3) := by decide +kernel
theorem dX5_register_44 : decode cX5_register 44 = .ok (.aload_n 0, 1) := by decide +kernel
theorem dX5_register_45 : decode cX5_register 45 = .ok (.iload_n 2, 1) := by decide +kernel
theorem dX5_register_46 : decode cX5_register 46 = .ok (.invokevirtual 41, 3) := by decide +kernel
theorem dX5_register_49 : decode cX5_register 49 = .ok (.istore 4, 2) := by decide +kernel
theorem dX5_register_51 : decode cX5_register 51 = .ok (.aload_n 0, 1) := by decide +kernel
theorem dX5_register_52 : decode cX5_register 52 = .ok (.iload_n 2, 1) := by decide +kernel
theorem dX5_register_53 : decode cX5_register 53 = .ok (.invokevirtual 41, 3) := by decide +kernel
theorem dX5_register_56 : decode cX5_register 56 = .ok (.istore 5, 2) := by decide +kernel
theorem dX5_register_58 : decode cX5_register 58 = .ok (.aload_n 0, 1) := by decide +kernel
theorem dX5_register_59 : decode cX5_register 59 = .ok (.getfield 7, 3) := by decide +kernel
theorem dX5_register_62 : decode cX5_register 62 = .ok (.bipush 57, 2) := by decide +kernel
theorem dX5_register_64 : decode cX5_register 64 = .ok (.iload 5, 2) := by decide +kernel
theorem dX5_register_66 : decode cX5_register 66 = .ok (.iadd, 1) := by decide +kernel
theorem dX5_register_67 : decode cX5_register 67 = .ok (.iaload, 1) := by decide +kernel
theorem dX5_register_68 : decode cX5_register 68 = .ok (.aload_n 0, 1) := by decide +kernel
theorem dX5_register_69 : decode cX5_register 69 = .ok (.getfield 7, 3) := by decide +kernel
theorem dX5_register_72 : decode cX5_register 72 = .ok (.bipush 57, 2) := by decide +kernel
theorem dX5_register_74 : decode cX5_register 74 = .ok (.iload 4, 2) := by decide +kernel
theorem dX5_register_76 : decode cX5_register 76 = .ok (.iadd, 1) := by decide +kernel
theorem dX5_register_77 : decode cX5_register 77 = .ok (.iaload, 1) := by decide +kernel
theorem dX5_register_78 : decode cX5_register 78 = .ok (.if_icmp .ge 8, 3) := by decide +kernel
theorem dX5_register_81 : decode cX5_register 81 = .ok (.iload 5, 2) := by decide +kernel
theorem dX5_register_83 : decode cX5_register 83 = .ok (.goto 5, 3) := by decide +kernel
theorem dX5_register_86 : decode cX5_register 86 = .ok (.iload 4, 2) := by decide +kernel
theorem dX5_register_88 : decode cX5_register 88 = .ok (.istore_n 3, 1) := by decide +kernel
theorem dX5_register_89 : decode cX5_register 89 = .ok (.aload_n 0, 1) := by decide +kernel
theorem dX5_register_90 : decode cX5_register 90 = .ok (.getfield 7, 3) := by decide +kernel
theorem dX5_register_93 : decode cX5_register 93 = .ok (.bipush 61, 2) := by decide +kernel
theorem dX5_register_95 : decode cX5_register 95 = .ok (.bipush 8, 2) := by decide +kernel
theorem dX5_register_97 : decode cX5_register 97 = .ok (.iload_n 3, 1) := by decide +kernel
theorem dX5_register_98 : decode cX5_register 98 = .ok (.imul, 1) := by decide +kernel
theorem dX5_register_99 : decode cX5_register 99 = .ok (.iadd, 1) := by decide +kernel
theorem dX5_register_100 : decode cX5_register 100 = .ok (.aload_n 0, 1) := by decide +kernel
theorem dX5_register_101 : decode cX5_register 101 = .ok (.getfield 7, 3) := by decide +kernel
theorem dX5_register_104 : decode cX5_register 104 = .ok (.bipush 57, 2) := by decide +kernel
theorem dX5_register_106 : decode cX5_register 106 = .ok (.iload_n 3, 1) := by decide +kernel
theorem dX5_register_107 : decode cX5_register 107 = .ok (.iadd, 1) := by decide +kernel
theorem dX5_register_108 : decode cX5_register 108 = .ok (.iaload, 1) := by decide +kernel
theorem dX5_register_109 : decode cX5_register 109 = .ok (.iadd, 1) := by decide +kernel
theorem dX5_register_110 : decode cX5_register 110 = .ok (.iload_n 1, 1) := by decide +kernel
theorem dX5_register_111 : decode cX5_register 111 = .ok (.iastore, 1) := by decide +kernel
theorem dX5_register_112 : decode cX5_register 112 = .ok (.aload_n 0, 1) := by decide +kernel
theorem dX5_register_113 : decode cX5_register 113 = .ok (.getfield 7, 3) := by decide +kernel
theorem dX5_register_116 : decode cX5_register 116 = .ok (.bipush 57, 2) := by decide +kernel
theorem dX5_register_118 : decode cX5_register 118 = .ok (.iload_n 3, 1) := by decide +kernel
theorem dX5_register_119 : decode cX5_register 119 = .ok (.iadd, 1) := by decide +kernel
theorem dX5_register_120 : decode cX5_register 120 = .ok (.dup2, 1) := by decide +kernel
theorem dX5_register_121 : decode cX5_register 121 = .ok (.iaload, 1) := by decide +kernel
theorem dX5_register_122 : decode cX5_register 122 = .ok (.iconst 1, 1) := by decide +kernel
theorem dX5_register_123 : decode cX5_register 123 = .ok (.iadd, 1) := by decide +kernel
theorem dX5_register_124 : decode cX5_register 124 = .ok (.iastore, 1) := by decide +kernel
theorem dX5_register_125 : decode cX5_register 125 = .ok (.return_, 1) := by decide +kernel
set_option maxRecDepth 20000 in
theorem ggX5_leave_X5_listOf : GoodIn wsX5_leave wsX5_listOf := goodIn_r _ [6, 1, 7, 8, 9, 10, 11, 12] (by decide +kernel) (by decide +kernel)
set_option maxRecDepth 20000 in
theorem gX5_leave_X5_listOf : GoodIn wsX5_leave (wsV RX5 45 RX5 yX5_listOf wsX5_listOf) := goodIn_app (goodIn_of _ (by decide +kernel)) ggX5_leave_X5_listOf
theorem dX5_leave_0 : decode cX5_leave 0 = .ok (.aload_n 0, 1) := by decide +kernel
theorem dX5_leave_1 : decode cX5_leave 1 = .ok (.iload_n 1, 1) := by decide +kernel
theorem dX5_leave_2 : decode cX5_leave 2 = .ok (.invokevirtual 45, 3) := by decide +kernel
theorem dX5_leave_5 : decode cX5_leave 5 = .ok (.istore_n 2, 1) := by decide +kernel
theorem dX5_leave_6 : decode cX5_leave 6 = .ok (.iload_n 2, 1) := by decide +kernel
theorem dX5_leave_7 : decode cX5_leave 7 = .ok (.iconst (-1), 1) := by decide +kernel
theorem dX5_leave_8 : decode cX5_leave 8 = .ok (.if_icmp .ne 4, 3) := by decide +kernel
theorem dX5_leave_11 : decode cX5_leave 11 = .ok (.return_, 1) := by decide +kernel
theorem dX5_leave_12 : decode cX5_leave 12 = .ok (.iconst 0, 1) := by decide +kernel
theorem dX5_leave_13 : decode cX5_leave 13 = .ok (.istore_n 3, 1) := by decide +kernel
theorem dX5_leave_14 : decode cX5_leave 14 = .ok (.iconst 0, 1) := by decide +kernel
theorem dX5_leave_15 : decode cX5_leave 15 = .ok (.istore 4, 2) := by decide +kernel
theorem dX5_leave_17 : decode cX5_leave 17 = .ok (.iload 4, 2) := by decide +kernel
theorem dX5_leave_19 : decode cX5_leave 19 = .ok (.aload_n 0, 1) := by decide +kernel
theorem dX5_leave_20 : decode cX5_leave 20 = .ok (.getfield 7, 3) := by decide +kernel
theorem dX5_leave_23 : decode cX5_leave 23 = .ok (.bipush 57, 2) := by decide +kernel
theorem dX5_leave_25 : decode cX5_leave 25 = .ok (.iload_n 2, 1) := by decide +kernel
theorem dX5_leave_26 : decode cX5_leave 26 = .ok (.iadd, 1) := by decide +kernel
theorem dX5_leave_27 : decode cX5_leave 27 = .ok (.iaload, 1) := by decide +kernel
theorem dX5_leave_28 : decode cX5_leave 28 = .ok (.if_icmp .ge 56, 3) := by decide +kernel
theorem dX5_leave_31 : decode cX5_leave 31 = .ok (.aload_n 0, 1) := by decide +kernel
theorem dX5_leave_32 : decode cX5_leave 32 = .ok (.getfield 7, 3) := by decide +kernel
theorem dX5_leave_35 : decode cX5_leave 35 = .ok (.bipush 61, 2) := by decide +kernel
theorem dX5_leave_37 : decode cX5_leave 37 = .ok (.bipush 8, 2) := by decide +kernel
theorem dX5_leave_39 : decode cX5_leave 39 = .ok (.iload_n 2, 1) := by decide +kernel
theorem dX5_leave_40 : decode cX5_leave 40 = .ok (.imul, 1) := by decide +kernel
theorem dX5_leave_41 : decode cX5_leave 41 = .ok (.iadd, 1) := by decide +kernel
theorem dX5_leave_42 : decode cX5_leave 42 = .ok (.iload 4, 2) := by decide +kernel
theorem dX5_leave_44 : decode cX5_leave 44 = .ok (.iadd, 1) := by decide +kernel
theorem dX5_leave_45 : decode cX5_leave 45 = .ok (.iaload, 1) := by decide +kernel
theorem dX5_leave_46 : decode cX5_leave 46 = .ok (.istore 5, 2) := by decide +kernel
theorem dX5_leave_48 : decode cX5_leave 48 = .ok (.aload_n 0, 1) := by decide +kernel
theorem dX5_leave_49 : decode cX5_leave 49 = .ok (.getfield 7, 3) := by decide +kernel
theorem dX5_leave_52 : decode cX5_leave 52 = .ok (.bipush 61, 2) := by decide +kernel
theorem dX5_leave_54 : decode cX5_leave 54 = .ok (.bipush 8, 2) := by decide +kernel
theorem dX5_leave_56 : decode cX5_leave 56 = .ok (.iload_n 2, 1) := by decide +kernel
theorem dX5_leave_57 : decode cX5_leave 57 = .ok (.imul, 1) := by decide +kernel
theorem dX5_leave_58 : decode cX5_leave 58 = .ok (.iadd, 1) := by decide +kernel
theorem dX5_leave_59 : decode cX5_leave 59 = .ok (.iload_n 3, 1) := by decide +kernel
theorem dX5_leave_60 : decode cX5_leave 60 = .ok (.iadd, 1) := by decide +kernel
theorem dX5_leave_61 : decode cX5_leave 61 = .ok (.iload 5, 2) := by decide +kernel
theorem dX5_leave_63 : decode cX5_leave 63 = .ok (.iastore, 1) := by decide +kernel
theorem dX5_leave_64 : decode cX5_leave 64 = .ok (.iload_n 3, 1) := by decide +kernel
theorem dX5_leave_65 : decode cX5_leave 65 = .ok (.iload 5, 2) := by decide +kernel
theorem dX5_leave_67 : decode cX5_leave 67 = .ok (.iload_n 1, 1) := by decide +kernel
theorem dX5_leave_68 : decode cX5_leave 68 = .ok (.if_icmp .ne 7, 3) := by decide +kernel
theorem dX5_leave_71 : decode cX5_leave 71 = .ok (.iconst 0, 1) := by decide +kernel
theorem dX5_leave_72 : decode cX5_leave 72 = .ok (.goto 4, 3) := by decide +kernel
theorem dX5_leave_75 : decode cX5_leave 75 = .ok (.iconst 1, 1) := by decide +kernel
theorem dX5_leave_76 : decode cX5_leave 76 = .ok (.iadd, 1) := by decide +kernel
theorem dX5_leave_77 : decode cX5_leave 77 = .ok (.istore_n 3, 1) := by decide +kernel
theorem dX5_leave_78 : decode cX5_leave 78 = .ok (.iinc 4 1, 3) := by decide +kernel
theorem dX5_leave_81 : decode cX5_leave 81 = .ok (.goto (-64), 3) := by decide +kernel
theorem dX5_leave_84 : decode cX5_leave 84 = .ok (.aload_n 0, 1) := by decide +kernel
theorem dX5_leave_85 : decode cX5_leave 85 = .ok (.getfield 7, 3) := by decide +kernel
theorem dX5_leave_88 : decode cX5_leave 88 = .ok (.bipush 57, 2) := by decide +kernel
theorem dX5_leave_90 : decode cX5_leave 90 = .ok (.iload_n 2, 1) := by decide +kernel
theorem dX5_leave_91 : decode cX5_leave 91 = .ok (.iadd, 1) := by decide +kernel
theorem dX5_leave_92 : decode cX5_leave 92 = .ok (.iload_n 3, 1) := by decide +kernel
theorem dX5_leave_93 : decode cX5_leave 93 = .ok (.iastore, 1) := by decide +kernel
theorem dX5_leave_94 : decode cX5_leave 94 = .ok (.return_, 1) := by decide +kernel
set_option maxRecDepth 20000 in
theorem ggX5_addServer_X5_refuse : GoodIn wsX5_addServer wsX5_refuse := goodIn_r _ [7, 1, 26, 27, 28, 29, 30, 31] (by decide +kernel) (by decide +kernel)
set_option maxRecDepth 20000 in
theorem gX5_addServer_X5_refuse : GoodIn wsX5_addServer (wsV RX5 48 RX5 yX5_refuse wsX5_refuse) := goodIn_app (goodIn_of _ (by decide +kernel)) ggX5_addServer_X5_refuse
set_option maxRecDepth 20000 in
theorem ggX5_addServer_X5_save : GoodIn wsX5_addServer wsX5_save := goodIn_r _ [11, 12, 13, 2, 26, 27, 28, 29, 30, 31] (by decide +kernel) (by decide +kernel)
set_option maxRecDepth 20000 in
theorem gX5_addServer_X5_save : GoodIn wsX5_addServer (wsV RX5 51 RX5 yX5_save wsX5_save) := goodIn_app (goodIn_of _ (by decide +kernel)) ggX5_addServer_X5_save
set_option maxRecDepth 20000 in
theorem ggX5_addServer_X5_register : GoodIn wsX5_addServer wsX5_register := goodIn_r _ [17, 2, 18, 19, 20, 6, 21, 22, 23, 24, 25, 26, 27, 28, 29, 30, 31] (by decide +kernel) (by decide +kernel)
set_option maxRecDepth 20000 in
theorem gX5_addServer_X5_register : GoodIn wsX5_addServer (wsV RX5 54 RX5 yX5_register wsX5_register) := goodIn_app (goodIn_of _ (by decide +kernel)) ggX5_addServer_X5_register
theorem dX5_addServer_0 : decode cX5_addServer 0 = .ok (.aload_n 0, 1) := by decide +kernel
theorem dX5_addServer_1 : decode cX5_addServer 1 = .ok (.iconst 0, 1) := by decide +kernel
theorem dX5_addServer_2 : decode cX5_addServer 2 = .ok (.putfield 19, 3) := by decide +kernel
theorem dX5_addServer_5 : decode cX5_addServer 5 = .ok (.aload_n 0, 1) := by decide +kernel
theorem dX5_addServer_6 : decode cX5_addServer 6 = .ok (.getfield 7, 3) := by decide +kernel
theorem dX5_addServer_9 : decode cX5_addServer 9 = .ok (.iconst 4, 1) := by decide +kernel
theorem dX5_addServer_10 : decode cX5_addServer 10 = .ok (.iaload, 1) := by decide +kernel
theorem dX5_addServer_11 : decode cX5_addServer 11 = .ok (.bipush 8, 2) := by decide +kernel
theorem dX5_addServer_13 : decode cX5_addServer 13 = .ok (.if_icmp .ne 9, 3) := by decide +kernel
theorem dX5_addServer_16 : decode cX5_addServer 16 = .ok (.aload_n 0, 1) := by decide +kernel
theorem dX5_addServer_17 : decode cX5_addServer 17 = .ok (.iconst 1, 1) := by decide +kernel
theorem dX5_addServer_18 : decode cX5_addServer 18 = .ok (.invokevirtual 48, 3) := by decide +kernel
theorem dX5_addServer_21 : decode cX5_addServer 21 = .ok (.ireturn, 1) := by decide +kernel
theorem dX5_addServer_22 : decode cX5_addServer 22 = .ok (.aload_n 0, 1) := by decide +kernel
theorem dX5_addServer_23 : decode cX5_addServer 23 = .ok (.invokevirtual 51, 3) := by decide +kernel
theorem dX5_addServer_26 : decode cX5_addServer 26 = .ok (.aload_n 0, 1) := by decide +kernel
theorem dX5_addServer_27 : decode cX5_addServer 27 = .ok (.getfield 7, 3) := by decide +kernel
theorem dX5_addServer_30 : decode cX5_addServer 30 = .ok (.iconst 4, 1) := by decide +kernel
theorem dX5_addServer_31 : decode cX5_addServer 31 = .ok (.iaload, 1) := by decide +kernel
theorem dX5_addServer_32 : decode cX5_addServer 32 = .ok (.istore_n 1, 1) := by decide +kernel
theorem dX5_addServer_33 : decode cX5_addServer 33 = .ok (.aload_n 0, 1) := by decide +kernel
theorem dX5_addServer_34 : decode cX5_addServer 34 = .ok (.getfield 7, 3) := by decide +kernel
theorem dX5_addServer_37 : decode cX5_addServer 37 = .ok (.iconst 4, 1) := by decide +kernel
theorem dX5_addServer_38 : decode cX5_addServer 38 = .ok (.dup2, 1) := by decide +kernel
theorem dX5_addServer_39 : decode cX5_addServer 39 = .ok (.iaload, 1) := by decide +kernel
theorem dX5_addServer_40 : decode cX5_addServer 40 = .ok (.iconst 1, 1) := by decide +kernel
theorem dX5_addServer_41 : decode cX5_addServer 41 = .ok (.iadd, 1) := by decide +kernel
theorem dX5_addServer_42 : decode cX5_addServer 42 = .ok (.iastore, 1) := by decide +kernel
theorem dX5_addServer_43 : decode cX5_addServer 43 = .ok (.aload_n 0, 1) := by decide +kernel
theorem dX5_addServer_44 : decode cX5_addServer 44 = .ok (.getfield 7, 3) := by decide +kernel
theorem dX5_addServer_47 : decode cX5_addServer 47 = .ok (.bipush 9, 2) := by decide +kernel
theorem dX5_addServer_49 : decode cX5_addServer 49 = .ok (.iload_n 1, 1) := by decide +kernel
theorem dX5_addServer_50 : decode cX5_addServer 50 = .ok (.iadd, 1) := by decide +kernel
theorem dX5_addServer_51 : decode cX5_addServer 51 = .ok (.iconst 1, 1) := by decide +kernel
theorem dX5_addServer_52 : decode cX5_addServer 52 = .ok (.iastore, 1) := by decide +kernel
theorem dX5_addServer_53 : decode cX5_addServer 53 = .ok (.iconst 0, 1) := by decide +kernel
theorem dX5_addServer_54 : decode cX5_addServer 54 = .ok (.istore_n 2, 1) := by decide +kernel
theorem dX5_addServer_55 : decode cX5_addServer 55 = .ok (.iload_n 2, 1) := by decide +kernel
theorem dX5_addServer_56 : decode cX5_addServer 56 = .ok (.iconst 4, 1) := by decide +kernel
theorem dX5_addServer_57 : decode cX5_addServer 57 = .ok (.if_icmp .ge 24, 3) := by decide +kernel
theorem dX5_addServer_60 : decode cX5_addServer 60 = .ok (.aload_n 0, 1) := by decide +kernel
theorem dX5_addServer_61 : decode cX5_addServer 61 = .ok (.getfield 7, 3) := by decide +kernel
theorem dX5_addServer_64 : decode cX5_addServer 64 = .ok (.bipush 25, 2) := by decide +kernel
theorem dX5_addServer_66 : decode cX5_addServer 66 = .ok (.bipush 8, 2) := by decide +kernel
theorem dX5_addServer_68 : decode cX5_addServer 68 = .ok (.iload_n 2, 1) := by decide +kernel
theorem dX5_addServer_69 : decode cX5_addServer 69 = .ok (.imul, 1) := by decide +kernel
theorem dX5_addServer_70 : decode cX5_addServer 70 = .ok (.iadd, 1) := by decide +kernel
theorem dX5_addServer_71 : decode cX5_addServer 71 = .ok (.iload_n 1, 1) := by decide +kernel
theorem dX5_addServer_72 : decode cX5_addServer 72 = .ok (.iadd, 1) := by decide +kernel
theorem dX5_addServer_73 : decode cX5_addServer 73 = .ok (.iconst 0, 1) := by decide +kernel
theorem dX5_addServer_74 : decode cX5_addServer 74 = .ok (.iastore, 1) := by decide +kernel
theorem dX5_addServer_75 : decode cX5_addServer 75 = .ok (.iinc 2 1, 3) := by decide +kernel
theorem dX5_addServer_78 : decode cX5_addServer 78 = .ok (.goto (-23), 3) := by decide +kernel
theorem dX5_addServer_81 : decode cX5_addServer 81 = .ok (.aload_n 0, 1) := by decide +kernel
theorem dX5_addServer_82 : decode cX5_addServer 82 = .ok (.iload_n 1, 1) := by decide +kernel
theorem dX5_addServer_83 : decode cX5_addServer 83 = .ok (.invokevirtual 54, 3) := by decide +kernel
theorem dX5_addServer_86 : decode cX5_addServer 86 = .ok (.iload_n 1, 1) := by decide +kernel
theorem dX5_addServer_87 : decode cX5_addServer 87 = .ok (.ireturn, 1) := by decide +kernel
set_option maxRecDepth 20000 in
theorem ggX5_addDispatcher_X5_in : GoodIn wsX5_addDispatcher wsX5_in := goodIn_r _ [6] (by decide +kernel) (by decide +kernel)
set_option maxRecDepth 20000 in
theorem gX5_addDispatcher_X5_in : GoodIn wsX5_addDispatcher (va_wsS RX5 23 yX5_in wsX5_in) := goodIn_app (goodIn_of _ (by decide +kernel)) ggX5_addDispatcher_X5_in
set_option maxRecDepth 20000 in
theorem ggX5_addDispatcher_X5_refuse : GoodIn wsX5_addDispatcher wsX5_refuse := goodIn_r _ [10, 1, 17, 18, 19, 20, 21, 22] (by decide +kernel) (by decide +kernel)
set_option maxRecDepth 20000 in
theorem gX5_addDispatcher_X5_refuse : GoodIn wsX5_addDispatcher (wsV RX5 48 RX5 yX5_refuse wsX5_refuse) := goodIn_app (goodIn_of _ (by decide +kernel)) ggX5_addDispatcher_X5_refuse
set_option maxRecDepth 20000 in
theorem ggX5_addDispatcher_X5_save : GoodIn wsX5_addDispatcher wsX5_save := goodIn_r _ [14, 15, 16, 2, 17, 18, 19, 20, 21, 22] (by decide +kernel) (by decide +kernel)
set_option maxRecDepth 20000 in
theorem gX5_addDispatcher_X5_save : GoodIn wsX5_addDispatcher (wsV RX5 51 RX5 yX5_save wsX5_save) := goodIn_app (goodIn_of _ (by decide +kernel)) ggX5_addDispatcher_X5_save
theorem dX5_addDispatcher_0 : decode cX5_addDispatcher 0 = .ok (.aload_n 0, 1) := by decide +kernel
theorem dX5_addDispatcher_1 : decode cX5_addDispatcher 1 = .ok (.iconst 0, 1) := by decide +kernel
theorem dX5_addDispatcher_2 : decode cX5_addDispatcher 2 = .ok (.putfield 19, 3) := by decide +kernel
theorem dX5_addDispatcher_5 : decode cX5_addDispatcher 5 = .ok (.iload_n 1, 1) := by decide +kernel
theorem dX5_addDispatcher_6 : decode cX5_addDispatcher 6 = .ok (.iconst 0, 1) := by decide +kernel
theorem dX5_addDispatcher_7 : decode cX5_addDispatcher 7 = .ok (.iconst 4, 1) := by decide +kernel
theorem dX5_addDispatcher_8 : decode cX5_addDispatcher 8 = .ok (.invokestatic 23, 3) := by decide +kernel
theorem dX5_addDispatcher_11 : decode cX5_addDispatcher 11 = .ok (.ifCond .ne 9, 3) := by decide +kernel
theorem dX5_addDispatcher_14 : decode cX5_addDispatcher 14 = .ok (.aload_n 0, 1) := by decide +kernel
theorem dX5_addDispatcher_15 : decode cX5_addDispatcher 15 = .ok (.iconst 1, 1) := by decide +kernel
theorem dX5_addDispatcher_16 : decode cX5_addDispatcher 16 = .ok (.invokevirtual 48, 3) := by decide +kernel
theorem dX5_addDispatcher_19 : decode cX5_addDispatcher 19 = .ok (.ireturn, 1) := by decide +kernel
theorem dX5_addDispatcher_20 : decode cX5_addDispatcher 20 = .ok (.aload_n 0, 1) := by decide +kernel
theorem dX5_addDispatcher_21 : decode cX5_addDispatcher 21 = .ok (.getfield 7, 3) := by decide +kernel
theorem dX5_addDispatcher_24 : decode cX5_addDispatcher 24 = .ok (.iconst 5, 1) := by decide +kernel
theorem dX5_addDispatcher_25 : decode cX5_addDispatcher 25 = .ok (.iaload, 1) := by decide +kernel
theorem dX5_addDispatcher_26 : decode cX5_addDispatcher 26 = .ok (.iconst 4, 1) := by decide +kernel
theorem dX5_addDispatcher_27 : decode cX5_addDispatcher 27 = .ok (.if_icmp .ne 9, 3) := by decide +kernel
theorem dX5_addDispatcher_30 : decode cX5_addDispatcher 30 = .ok (.aload_n 0, 1) := by decide +kernel
theorem dX5_addDispatcher_31 : decode cX5_addDispatcher 31 = .ok (.iconst 2, 1) := by decide +kernel
theorem dX5_addDispatcher_32 : decode cX5_addDispatcher 32 = .ok (.invokevirtual 48, 3) := by decide +kernel
theorem dX5_addDispatcher_35 : decode cX5_addDispatcher 35 = .ok (.ireturn, 1) := by decide +kernel
theorem dX5_addDispatcher_36 : decode cX5_addDispatcher 36 = .ok (.aload_n 0, 1) := by decide +kernel
theorem dX5_addDispatcher_37 : decode cX5_addDispatcher 37 = .ok (.invokevirtual 51, 3) := by decide +kernel
theorem dX5_addDispatcher_40 : decode cX5_addDispatcher 40 = .ok (.aload_n 0, 1) := by decide +kernel
theorem dX5_addDispatcher_41 : decode cX5_addDispatcher 41 = .ok (.getfield 7, 3) := by decide +kernel
theorem dX5_addDispatcher_44 : decode cX5_addDispatcher 44 = .ok (.iconst 5, 1) := by decide +kernel
theorem dX5_addDispatcher_45 : decode cX5_addDispatcher 45 = .ok (.iaload, 1) := by decide +kernel
theorem dX5_addDispatcher_46 : decode cX5_addDispatcher 46 = .ok (.istore_n 2, 1) := by decide +kernel
theorem dX5_addDispatcher_47 : decode cX5_addDispatcher 47 = .ok (.aload_n 0, 1) := by decide +kernel
theorem dX5_addDispatcher_48 : decode cX5_addDispatcher 48 = .ok (.getfield 7, 3) := by decide +kernel
theorem dX5_addDispatcher_51 : decode cX5_addDispatcher 51 = .ok (.bipush 17, 2) := by decide +kernel
theorem dX5_addDispatcher_53 : decode cX5_addDispatcher 53 = .ok (.iload_n 2, 1) := by decide +kernel
theorem dX5_addDispatcher_54 : decode cX5_addDispatcher 54 = .ok (.iadd, 1) := by decide +kernel
theorem dX5_addDispatcher_55 : decode cX5_addDispatcher 55 = .ok (.iload_n 1, 1) := by decide +kernel
theorem dX5_addDispatcher_56 : decode cX5_addDispatcher 56 = .ok (.iastore, 1) := by decide +kernel
theorem dX5_addDispatcher_57 : decode cX5_addDispatcher 57 = .ok (.aload_n 0, 1) := by decide +kernel
theorem dX5_addDispatcher_58 : decode cX5_addDispatcher 58 = .ok (.getfield 7, 3) := by decide +kernel
theorem dX5_addDispatcher_61 : decode cX5_addDispatcher 61 = .ok (.iconst 5, 1) := by decide +kernel
theorem dX5_addDispatcher_62 : decode cX5_addDispatcher 62 = .ok (.dup2, 1) := by decide +kernel
theorem dX5_addDispatcher_63 : decode cX5_addDispatcher 63 = .ok (.iaload, 1) := by decide +kernel
theorem dX5_addDispatcher_64 : decode cX5_addDispatcher 64 = .ok (.iconst 1, 1) := by decide +kernel
theorem dX5_addDispatcher_65 : decode cX5_addDispatcher 65 = .ok (.iadd, 1) := by decide +kernel
theorem dX5_addDispatcher_66 : decode cX5_addDispatcher 66 = .ok (.iastore, 1) := by decide +kernel
theorem dX5_addDispatcher_67 : decode cX5_addDispatcher 67 = .ok (.iload_n 2, 1) := by decide +kernel
theorem dX5_addDispatcher_68 : decode cX5_addDispatcher 68 = .ok (.ireturn, 1) := by decide +kernel
set_option maxRecDepth 20000 in
theorem ggX5_setPolicy_X5_isDispatcher : GoodIn wsX5_setPolicy wsX5_isDispatcher := goodIn_r _ [7, 2, 8, 9, 6, 10, 21, 22, 23, 24, 25, 26] (by decide +kernel) (by decide +kernel)
set_option maxRecDepth 20000 in
theorem gX5_setPolicy_X5_isDispatcher : GoodIn wsX5_setPolicy (wsV RX5 58 RX5 yX5_isDispatcher wsX5_isDispatcher) := goodIn_app (goodIn_of _ (by decide +kernel)) ggX5_setPolicy_X5_isDispatcher
set_option maxRecDepth 20000 in
theorem ggX5_setPolicy_X5_in : GoodIn wsX5_setPolicy wsX5_in := goodIn_r _ [10] (by decide +kernel) (by decide +kernel)
set_option maxRecDepth 20000 in
theorem gX5_setPolicy_X5_in : GoodIn wsX5_setPolicy (va_wsS RX5 23 yX5_in wsX5_in) := goodIn_app (goodIn_of _ (by decide +kernel)) ggX5_setPolicy_X5_in
set_option maxRecDepth 20000 in
theorem ggX5_setPolicy_X5_refuse : GoodIn wsX5_setPolicy wsX5_refuse := goodIn_r _ [14, 1, 21, 22, 23, 24, 25, 26] (by decide +kernel) (by decide +kernel)
set_option maxRecDepth 20000 in
theorem gX5_setPolicy_X5_refuse : GoodIn wsX5_setPolicy (wsV RX5 48 RX5 yX5_refuse wsX5_refuse) := goodIn_app (goodIn_of _ (by decide +kernel)) ggX5_setPolicy_X5_refuse
set_option maxRecDepth 20000 in
theorem ggX5_setPolicy_X5_save : GoodIn wsX5_setPolicy wsX5_save := goodIn_r _ [18, 19, 20, 2, 21, 22, 23, 24, 25, 26] (by decide +kernel) (by decide +kernel)
set_option maxRecDepth 20000 in
theorem gX5_setPolicy_X5_save : GoodIn wsX5_setPolicy (wsV RX5 51 RX5 yX5_save wsX5_save) := goodIn_app (goodIn_of _ (by decide +kernel)) ggX5_setPolicy_X5_save
theorem dX5_setPolicy_0 : decode cX5_setPolicy 0 = .ok (.aload_n 0, 1) := by decide +kernel
theorem dX5_setPolicy_1 : decode cX5_setPolicy 1 = .ok (.iconst 0, 1) := by decide +kernel
theorem dX5_setPolicy_2 : decode cX5_setPolicy 2 = .ok (.putfield 19, 3) := by decide +kernel
theorem dX5_setPolicy_5 : decode cX5_setPolicy 5 = .ok (.aload_n 0, 1) := by decide +kernel
theorem dX5_setPolicy_6 : decode cX5_setPolicy 6 = .ok (.iload_n 1, 1) := by decide +kernel
theorem dX5_setPolicy_7 : decode cX5_setPolicy 7 = .ok (.invokevirtual 58, 3) := by decide +kernel
theorem dX5_setPolicy_10 : decode cX5_setPolicy 10 = .ok (.ifCond .eq 12, 3) := by decide +kernel
theorem dX5_setPolicy_13 : decode cX5_setPolicy 13 = .ok (.iload_n 2, 1) := by decide +kernel
theorem dX5_setPolicy_14 : decode cX5_setPolicy 14 = .ok (.iconst 0, 1) := by decide +kernel
theorem dX5_setPolicy_15 : decode cX5_setPolicy 15 = .ok (.iconst 4, 1) := by decide +kernel
theorem dX5_setPolicy_16 : decode cX5_setPolicy 16 = .ok (.invokestatic 23, 3) := by decide +kernel
theorem dX5_setPolicy_19 : decode cX5_setPolicy 19 = .ok (.ifCond .ne 9, 3) := by decide +kernel
theorem dX5_setPolicy_22 : decode cX5_setPolicy 22 = .ok (.aload_n 0, 1) := by decide +kernel
theorem dX5_setPolicy_23 : decode cX5_setPolicy 23 = .ok (.iconst 1, 1) := by decide +kernel
theorem dX5_setPolicy_24 : decode cX5_setPolicy 24 = .ok (.invokevirtual 48, 3) := by decide +kernel
theorem dX5_setPolicy_27 : decode cX5_setPolicy 27 = .ok (.ireturn, 1) := by decide +kernel
theorem dX5_setPolicy_28 : decode cX5_setPolicy 28 = .ok (.aload_n 0, 1) := by decide +kernel
theorem dX5_setPolicy_29 : decode cX5_setPolicy 29 = .ok (.invokevirtual 51, 3) := by decide +kernel
theorem dX5_setPolicy_32 : decode cX5_setPolicy 32 = .ok (.aload_n 0, 1) := by decide +kernel
theorem dX5_setPolicy_33 : decode cX5_setPolicy 33 = .ok (.getfield 7, 3) := by decide +kernel
theorem dX5_setPolicy_36 : decode cX5_setPolicy 36 = .ok (.bipush 17, 2) := by decide +kernel
theorem dX5_setPolicy_38 : decode cX5_setPolicy 38 = .ok (.iload_n 1, 1) := by decide +kernel
theorem dX5_setPolicy_39 : decode cX5_setPolicy 39 = .ok (.iadd, 1) := by decide +kernel
theorem dX5_setPolicy_40 : decode cX5_setPolicy 40 = .ok (.iaload, 1) := by decide +kernel
theorem dX5_setPolicy_41 : decode cX5_setPolicy 41 = .ok (.istore_n 3, 1) := by decide +kernel
theorem dX5_setPolicy_42 : decode cX5_setPolicy 42 = .ok (.aload_n 0, 1) := by decide +kernel
theorem dX5_setPolicy_43 : decode cX5_setPolicy 43 = .ok (.getfield 7, 3) := by decide +kernel
theorem dX5_setPolicy_46 : decode cX5_setPolicy 46 = .ok (.bipush 17, 2) := by decide +kernel
theorem dX5_setPolicy_48 : decode cX5_setPolicy 48 = .ok (.iload_n 1, 1) := by decide +kernel
theorem dX5_setPolicy_49 : decode cX5_setPolicy 49 = .ok (.iadd, 1) := by decide +kernel
theorem dX5_setPolicy_50 : decode cX5_setPolicy 50 = .ok (.iload_n 2, 1) := by decide +kernel
theorem dX5_setPolicy_51 : decode cX5_setPolicy 51 = .ok (.iastore, 1) := by decide +kernel
theorem dX5_setPolicy_52 : decode cX5_setPolicy 52 = .ok (.iload_n 3, 1) := by decide +kernel
theorem dX5_setPolicy_53 : decode cX5_setPolicy 53 = .ok (.ireturn, 1) := by decide +kernel
set_option maxRecDepth 20000 in
theorem ggX5_setJoinMode_X5_in : GoodIn wsX5_setJoinMode wsX5_in := goodIn_r _ [6] (by decide +kernel) (by decide +kernel)
set_option maxRecDepth 20000 in
theorem gX5_setJoinMode_X5_in : GoodIn wsX5_setJoinMode (va_wsS RX5 23 yX5_in wsX5_in) := goodIn_app (goodIn_of _ (by decide +kernel)) ggX5_setJoinMode_X5_in
set_option maxRecDepth 20000 in
theorem ggX5_setJoinMode_X5_refuse : GoodIn wsX5_setJoinMode wsX5_refuse := goodIn_r _ [10, 1, 17, 18, 19, 20, 21, 22] (by decide +kernel) (by decide +kernel)
set_option maxRecDepth 20000 in
theorem gX5_setJoinMode_X5_refuse : GoodIn wsX5_setJoinMode (wsV RX5 48 RX5 yX5_refuse wsX5_refuse) := goodIn_app (goodIn_of _ (by decide +kernel)) ggX5_setJoinMode_X5_refuse
set_option maxRecDepth 20000 in
theorem ggX5_setJoinMode_X5_save : GoodIn wsX5_setJoinMode wsX5_save := goodIn_r _ [14, 15, 16, 2, 17, 18, 19, 20, 21, 22] (by decide +kernel) (by decide +kernel)
set_option maxRecDepth 20000 in
theorem gX5_setJoinMode_X5_save : GoodIn wsX5_setJoinMode (wsV RX5 51 RX5 yX5_save wsX5_save) := goodIn_app (goodIn_of _ (by decide +kernel)) ggX5_setJoinMode_X5_save
theorem dX5_setJoinMode_0 : decode cX5_setJoinMode 0 = .ok (.aload_n 0, 1) := by decide +kernel
theorem dX5_setJoinMode_1 : decode cX5_setJoinMode 1 = .ok (.iconst 0, 1) := by decide +kernel
theorem dX5_setJoinMode_2 : decode cX5_setJoinMode 2 = .ok (.putfield 19, 3) := by decide +kernel
theorem dX5_setJoinMode_5 : decode cX5_setJoinMode 5 = .ok (.iload_n 1, 1) := by decide +kernel
theorem dX5_setJoinMode_6 : decode cX5_setJoinMode 6 = .ok (.iconst 0, 1) := by decide +kernel
theorem dX5_setJoinMode_7 : decode cX5_setJoinMode 7 = .ok (.iconst 2, 1) := by decide +kernel
theorem dX5_setJoinMode_8 : decode cX5_setJoinMode 8 = .ok (.invokestatic 23, 3) := by decide +kernel
theorem dX5_setJoinMode_11 : decode cX5_setJoinMode 11 = .ok (.ifCond .ne 9, 3) := by decide +kernel
theorem dX5_setJoinMode_14 : decode cX5_setJoinMode 14 = .ok (.aload_n 0, 1) := by decide +kernel
theorem dX5_setJoinMode_15 : decode cX5_setJoinMode 15 = .ok (.iconst 1, 1) := by decide +kernel
theorem dX5_setJoinMode_16 : decode cX5_setJoinMode 16 = .ok (.invokevirtual 48, 3) := by decide +kernel
theorem dX5_setJoinMode_19 : decode cX5_setJoinMode 19 = .ok (.ireturn, 1) := by decide +kernel
theorem dX5_setJoinMode_20 : decode cX5_setJoinMode 20 = .ok (.aload_n 0, 1) := by decide +kernel
theorem dX5_setJoinMode_21 : decode cX5_setJoinMode 21 = .ok (.invokevirtual 51, 3) := by decide +kernel
theorem dX5_setJoinMode_24 : decode cX5_setJoinMode 24 = .ok (.aload_n 0, 1) := by decide +kernel
theorem dX5_setJoinMode_25 : decode cX5_setJoinMode 25 = .ok (.getfield 7, 3) := by decide +kernel
theorem dX5_setJoinMode_28 : decode cX5_setJoinMode 28 = .ok (.iconst 2, 1) := by decide +kernel
theorem dX5_setJoinMode_29 : decode cX5_setJoinMode 29 = .ok (.iaload, 1) := by decide +kernel
theorem dX5_setJoinMode_30 : decode cX5_setJoinMode 30 = .ok (.istore_n 2, 1) := by decide +kernel
theorem dX5_setJoinMode_31 : decode cX5_setJoinMode 31 = .ok (.aload_n 0, 1) := by decide +kernel
theorem dX5_setJoinMode_32 : decode cX5_setJoinMode 32 = .ok (.getfield 7, 3) := by decide +kernel
theorem dX5_setJoinMode_35 : decode cX5_setJoinMode 35 = .ok (.iconst 2, 1) := by decide +kernel
theorem dX5_setJoinMode_36 : decode cX5_setJoinMode 36 = .ok (.iload_n 1, 1) := by decide +kernel
theorem dX5_setJoinMode_37 : decode cX5_setJoinMode 37 = .ok (.iastore, 1) := by decide +kernel
theorem dX5_setJoinMode_38 : decode cX5_setJoinMode 38 = .ok (.iload_n 2, 1) := by decide +kernel
theorem dX5_setJoinMode_39 : decode cX5_setJoinMode 39 = .ok (.ireturn, 1) := by decide +kernel
set_option maxRecDepth 20000 in
theorem ggX5_setReportPeriod_X5_in : GoodIn wsX5_setReportPeriod wsX5_in := goodIn_r _ [6] (by decide +kernel) (by decide +kernel)
set_option maxRecDepth 20000 in
theorem gX5_setReportPeriod_X5_in : GoodIn wsX5_setReportPeriod (va_wsS RX5 23 yX5_in wsX5_in) := goodIn_app (goodIn_of _ (by decide +kernel)) ggX5_setReportPeriod_X5_in
set_option maxRecDepth 20000 in
theorem ggX5_setReportPeriod_X5_refuse : GoodIn wsX5_setReportPeriod wsX5_refuse := goodIn_r _ [10, 1, 17, 18, 19, 20, 21, 22] (by decide +kernel) (by decide +kernel)
set_option maxRecDepth 20000 in
theorem gX5_setReportPeriod_X5_refuse : GoodIn wsX5_setReportPeriod (wsV RX5 48 RX5 yX5_refuse wsX5_refuse) := goodIn_app (goodIn_of _ (by decide +kernel)) ggX5_setReportPeriod_X5_refuse
set_option maxRecDepth 20000 in
theorem ggX5_setReportPeriod_X5_save : GoodIn wsX5_setReportPeriod wsX5_save := goodIn_r _ [14, 15, 16, 2, 17, 18, 19, 20, 21, 22] (by decide +kernel) (by decide +kernel)
set_option maxRecDepth 20000 in
theorem gX5_setReportPeriod_X5_save : GoodIn wsX5_setReportPeriod (wsV RX5 51 RX5 yX5_save wsX5_save) := goodIn_app (goodIn_of _ (by decide +kernel)) ggX5_setReportPeriod_X5_save
theorem dX5_setReportPeriod_0 : decode cX5_setReportPeriod 0 = .ok (.aload_n 0, 1) := by decide +kernel
theorem dX5_setReportPeriod_1 : decode cX5_setReportPeriod 1 = .ok (.iconst 0, 1) := by decide +kernel
theorem dX5_setReportPeriod_2 : decode cX5_setReportPeriod 2 = .ok (.putfield 19, 3) := by decide +kernel
theorem dX5_setReportPeriod_5 : decode cX5_setReportPeriod 5 = .ok (.iload_n 1, 1) := by decide +kernel
theorem dX5_setReportPeriod_6 : decode cX5_setReportPeriod 6 = .ok (.iconst 1, 1) := by decide +kernel
theorem dX5_setReportPeriod_7 : decode cX5_setReportPeriod 7 = .ok (.bipush 100, 2) := by decide +kernel
theorem dX5_setReportPeriod_9 : decode cX5_setReportPeriod 9 = .ok (.invokestatic 23, 3) := by decide +kernel
theorem dX5_setReportPeriod_12 : decode cX5_setReportPeriod 12 = .ok (.ifCond .ne 9, 3) := by decide +kernel
theorem dX5_setReportPeriod_15 : decode cX5_setReportPeriod 15 = .ok (.aload_n 0, 1) := by decide +kernel
theorem dX5_setReportPeriod_16 : decode cX5_setReportPeriod 16 = .ok (.iconst 1, 1) := by decide +kernel
theorem dX5_setReportPeriod_17 : decode cX5_setReportPeriod 17 = .ok (.invokevirtual 48, 3) := by decide +kernel
theorem dX5_setReportPeriod_20 : decode cX5_setReportPeriod 20 = .ok (.ireturn, 1) := by decide +kernel
theorem dX5_setReportPeriod_21 : decode cX5_setReportPeriod 21 = .ok (.aload_n 0, 1) := by decide +kernel
theorem dX5_setReportPeriod_22 : decode cX5_setReportPeriod 22 = .ok (.invokevirtual 51, 3) := by decide +kernel
theorem dX5_setReportPeriod_25 : decode cX5_setReportPeriod 25 = .ok (.aload_n 0, 1) := by decide +kernel
theorem dX5_setReportPeriod_26 : decode cX5_setReportPeriod 26 = .ok (.getfield 7, 3) := by decide +kernel
theorem dX5_setReportPeriod_29 : decode cX5_setReportPeriod 29 = .ok (.iconst 3, 1) := by decide +kernel
theorem dX5_setReportPeriod_30 : decode cX5_setReportPeriod 30 = .ok (.iaload, 1) := by decide +kernel
theorem dX5_setReportPeriod_31 : decode cX5_setReportPeriod 31 = .ok (.istore_n 2, 1) := by decide +kernel
theorem dX5_setReportPeriod_32 : decode cX5_setReportPeriod 32 = .ok (.aload_n 0, 1) := by decide +kernel
theorem dX5_setReportPeriod_33 : decode cX5_setReportPeriod 33 = .ok (.getfield 7, 3) := by decide +kernel
theorem dX5_setReportPeriod_36 : decode cX5_setReportPeriod 36 = .ok (.iconst 3, 1) := by decide +kernel
theorem dX5_setReportPeriod_37 : decode cX5_setReportPeriod 37 = .ok (.iload_n 1, 1) := by decide +kernel
theorem dX5_setReportPeriod_38 : decode cX5_setReportPeriod 38 = .ok (.iastore, 1) := by decide +kernel
theorem dX5_setReportPeriod_39 : decode cX5_setReportPeriod 39 = .ok (.iload_n 2, 1) := by decide +kernel
theorem dX5_setReportPeriod_40 : decode cX5_setReportPeriod 40 = .ok (.ireturn, 1) := by decide +kernel
set_option maxRecDepth 20000 in
theorem ggX5_setRandom_X5_in : GoodIn wsX5_setRandom wsX5_in := goodIn_r _ [7] (by decide +kernel) (by decide +kernel)
set_option maxRecDepth 20000 in
theorem gX5_setRandom_X5_in : GoodIn wsX5_setRandom (va_wsS RX5 23 yX5_in wsX5_in) := goodIn_app (goodIn_of _ (by decide +kernel)) ggX5_setRandom_X5_in
set_option maxRecDepth 20000 in
theorem ggX5_setRandom_X5_refuse : GoodIn wsX5_setRandom wsX5_refuse := goodIn_r _ [11, 1, 18, 19, 20, 21, 22, 23] (by decide +kernel) (by decide +kernel)
set_option maxRecDepth 20000 in
theorem gX5_setRandom_X5_refuse : GoodIn wsX5_setRandom (wsV RX5 48 RX5 yX5_refuse wsX5_refuse) := goodIn_app (goodIn_of _ (by decide +kernel)) ggX5_setRandom_X5_refuse
set_option maxRecDepth 20000 in
theorem ggX5_setRandom_X5_save : GoodIn wsX5_setRandom wsX5_save := goodIn_r _ [15, 16, 17, 3, 18, 19, 20, 21, 22, 23] (by decide +kernel) (by decide +kernel)
set_option maxRecDepth 20000 in
theorem gX5_setRandom_X5_save : GoodIn wsX5_setRandom (wsV RX5 51 RX5 yX5_save wsX5_save) := goodIn_app (goodIn_of _ (by decide +kernel)) ggX5_setRandom_X5_save
theorem dX5_setRandom_0 : decode cX5_setRandom 0 = .ok (.aload_n 0, 1) := by decide +kernel
theorem dX5_setRandom_1 : decode cX5_setRandom 1 = .ok (.iconst 0, 1) := by decide +kernel
theorem dX5_setRandom_2 : decode cX5_setRandom 2 = .ok (.putfield 19, 3) := by decide +kernel
theorem dX5_setRandom_5 : decode cX5_setRandom 5 = .ok (.iload_n 1, 1) := by decide +kernel
theorem dX5_setRandom_6 : decode cX5_setRandom 6 = .ok (.iconst 0, 1) := by decide +kernel
theorem dX5_setRandom_7 : decode cX5_setRandom 7 = .ok (.ldc 62, 2) := by decide +kernel
theorem dX5_setRandom_9 : decode cX5_setRandom 9 = .ok (.invokestatic 23, 3) := by decide +kernel

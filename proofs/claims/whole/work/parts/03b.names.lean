theorem dX0_init_0 : decode cX0_init 0 = .ok (.aload_n 0, 1) := by decide +kernel
theorem dX0_init_1 : decode cX0_init 1 = .ok (.invokespecial 3, 3) := by decide +kernel
theorem dX0_init_4 : decode cX0_init 4 = .ok (.aload_n 0, 1) := by decide +kernel
theorem dX0_init_5 : decode cX0_init 5 = .ok (.iconst 0, 1) := by decide +kernel
theorem dX0_init_6 : decode cX0_init 6 = .ok (.putfield 9, 3) := by decide +kernel
theorem dX0_init_9 : decode cX0_init 9 = .ok (.aload_n 0, 1) := by decide +kernel
theorem dX0_init_10 : decode cX0_init 10 = .ok (.iconst 0, 1) := by decide +kernel
theorem dX0_init_11 : decode cX0_init 11 = .ok (.putfield 15, 3) := by decide +kernel
theorem dX0_init_14 : decode cX0_init 14 = .ok (.aload_n 0, 1) := by decide +kernel
theorem dX0_init_15 : decode cX0_init 15 = .ok (.iconst 0, 1) := by decide +kernel
theorem dX0_init_16 : decode cX0_init 16 = .ok (.putfield 18, 3) := by decide +kernel
theorem dX0_init_19 : decode cX0_init 19 = .ok (.aload_n 0, 1) := by decide +kernel
theorem dX0_init_20 : decode cX0_init 20 = .ok (.bipush 8, 2) := by decide +kernel
theorem dX0_init_22 : decode cX0_init 22 = .ok (.newarray .int, 2) := by decide +kernel
theorem dX0_init_24 : decode cX0_init 24 = .ok (.putfield 21, 3) := by decide +kernel
theorem dX0_init_27 : decode cX0_init 27 = .ok (.aload_n 0, 1) := by decide +kernel
theorem dX0_init_28 : decode cX0_init 28 = .ok (.bipush 8, 2) := by decide +kernel
theorem dX0_init_30 : decode cX0_init 30 = .ok (.newarray .int, 2) := by decide +kernel
theorem dX0_init_32 : decode cX0_init 32 = .ok (.putfield 25, 3) := by decide +kernel
theorem dX0_init_35 : decode cX0_init 35 = .ok (.return_, 1) := by decide +kernel
theorem dX0_copyFrom_0 : decode cX0_copyFrom 0 = .ok (.aload_n 0, 1) := by decide +kernel
theorem dX0_copyFrom_1 : decode cX0_copyFrom 1 = .ok (.aload_n 1, 1) := by decide +kernel
theorem dX0_copyFrom_2 : decode cX0_copyFrom 2 = .ok (.getfield 9, 3) := by decide +kernel
theorem dX0_copyFrom_5 : decode cX0_copyFrom 5 = .ok (.putfield 9, 3) := by decide +kernel
theorem dX0_copyFrom_8 : decode cX0_copyFrom 8 = .ok (.aload_n 0, 1) := by decide +kernel
theorem dX0_copyFrom_9 : decode cX0_copyFrom 9 = .ok (.aload_n 1, 1) := by decide +kernel
theorem dX0_copyFrom_10 : decode cX0_copyFrom 10 = .ok (.getfield 15, 3) := by decide +kernel
theorem dX0_copyFrom_13 : decode cX0_copyFrom 13 = .ok (.putfield 15, 3) := by decide +kernel
theorem dX0_copyFrom_16 : decode cX0_copyFrom 16 = .ok (.aload_n 0, 1) := by decide +kernel
theorem dX0_copyFrom_17 : decode cX0_copyFrom 17 = .ok (.aload_n 1, 1) := by decide +kernel
theorem dX0_copyFrom_18 : decode cX0_copyFrom 18 = .ok (.getfield 18, 3) := by decide +kernel
theorem dX0_copyFrom_21 : decode cX0_copyFrom 21 = .ok (.putfield 18, 3) := by decide +kernel
theorem dX0_copyFrom_24 : decode cX0_copyFrom 24 = .ok (.aload_n 1, 1) := by decide +kernel
theorem dX0_copyFrom_25 : decode cX0_copyFrom 25 = .ok (.getfield 21, 3) := by decide +kernel
theorem dX0_copyFrom_28 : decode cX0_copyFrom 28 = .ok (.iconst 0, 1) := by decide +kernel
theorem dX0_copyFrom_29 : decode cX0_copyFrom 29 = .ok (.aload_n 0, 1) := by decide +kernel
theorem dX0_copyFrom_30 : decode cX0_copyFrom 30 = .ok (.getfield 21, 3) := by decide +kernel
theorem dX0_copyFrom_33 : decode cX0_copyFrom 33 = .ok (.iconst 0, 1) := by decide +kernel
theorem dX0_copyFrom_34 : decode cX0_copyFrom 34 = .ok (.bipush 8, 2) := by decide +kernel
theorem dX0_copyFrom_36 : decode cX0_copyFrom 36 = .ok (.invokestatic 28, 3) := by decide +kernel
theorem dX0_copyFrom_39 : decode cX0_copyFrom 39 = .ok (.aload_n 1, 1) := by decide +kernel
theorem dX0_copyFrom_40 : decode cX0_copyFrom 40 = .ok (.getfield 25, 3) := by decide +kernel
theorem dX0_copyFrom_43 : decode cX0_copyFrom 43 = .ok (.iconst 0, 1) := by decide +kernel
theorem dX0_copyFrom_44 : decode cX0_copyFrom 44 = .ok (.aload_n 0, 1) := by decide +kernel
theorem dX0_copyFrom_45 : decode cX0_copyFrom 45 = .ok (.getfield 25, 3) := by decide +kernel
theorem dX0_copyFrom_48 : decode cX0_copyFrom 48 = .ok (.iconst 0, 1) := by decide +kernel
theorem dX0_copyFrom_49 : decode cX0_copyFrom 49 = .ok (.bipush 8, 2) := by decide +kernel
theorem dX0_copyFrom_51 : decode cX0_copyFrom 51 = .ok (.invokestatic 28, 3) := by decide +kernel
theorem dX0_copyFrom_54 : decode cX0_copyFrom 54 = .ok (.return_, 1) := by decide +kernel
theorem dX0_appendIdle_0 : decode cX0_appendIdle 0 = .ok (.aload_n 0, 1) := by decide +kernel
theorem dX0_appendIdle_1 : decode cX0_appendIdle 1 = .ok (.getfield 18, 3) := by decide +kernel
theorem dX0_appendIdle_4 : decode cX0_appendIdle 4 = .ok (.bipush 8, 2) := by decide +kernel
theorem dX0_appendIdle_6 : decode cX0_appendIdle 6 = .ok (.if_icmp .ge 23, 3) := by decide +kernel
theorem dX0_appendIdle_9 : decode cX0_appendIdle 9 = .ok (.aload_n 0, 1) := by decide +kernel
theorem dX0_appendIdle_10 : decode cX0_appendIdle 10 = .ok (.getfield 21, 3) := by decide +kernel
theorem dX0_appendIdle_13 : decode cX0_appendIdle 13 = .ok (.aload_n 0, 1) := by decide +kernel
theorem dX0_appendIdle_14 : decode cX0_appendIdle 14 = .ok (.getfield 18, 3) := by decide +kernel
theorem dX0_appendIdle_17 : decode cX0_appendIdle 17 = .ok (.iload_n 1, 1) := by decide +kernel
theorem dX0_appendIdle_18 : decode cX0_appendIdle 18 = .ok (.iastore, 1) := by decide +kernel
theorem dX0_appendIdle_19 : decode cX0_appendIdle 19 = .ok (.aload_n 0, 1) := by decide +kernel
theorem dX0_appendIdle_20 : decode cX0_appendIdle 20 = .ok (.dup, 1) := by decide +kernel
theorem dX0_appendIdle_21 : decode cX0_appendIdle 21 = .ok (.getfield 18, 3) := by decide +kernel
theorem dX0_appendIdle_24 : decode cX0_appendIdle 24 = .ok (.iconst 1, 1) := by decide +kernel
theorem dX0_appendIdle_25 : decode cX0_appendIdle 25 = .ok (.iadd, 1) := by decide +kernel
theorem dX0_appendIdle_26 : decode cX0_appendIdle 26 = .ok (.putfield 18, 3) := by decide +kernel
theorem dX0_appendIdle_29 : decode cX0_appendIdle 29 = .ok (.return_, 1) := by decide +kernel
theorem dX0_removeIdle_0 : decode cX0_removeIdle 0 = .ok (.iconst 0, 1) := by decide +kernel
theorem dX0_removeIdle_1 : decode cX0_removeIdle 1 = .ok (.istore_n 2, 1) := by decide +kernel
theorem dX0_removeIdle_2 : decode cX0_removeIdle 2 = .ok (.iconst 0, 1) := by decide +kernel
theorem dX0_removeIdle_3 : decode cX0_removeIdle 3 = .ok (.istore_n 3, 1) := by decide +kernel
theorem dX0_removeIdle_4 : decode cX0_removeIdle 4 = .ok (.iload_n 3, 1) := by decide +kernel
theorem dX0_removeIdle_5 : decode cX0_removeIdle 5 = .ok (.aload_n 0, 1) := by decide +kernel
theorem dX0_removeIdle_6 : decode cX0_removeIdle 6 = .ok (.getfield 18, 3) := by decide +kernel
theorem dX0_removeIdle_9 : decode cX0_removeIdle 9 = .ok (.if_icmp .ge 34, 3) := by decide +kernel
theorem dX0_removeIdle_12 : decode cX0_removeIdle 12 = .ok (.aload_n 0, 1) := by decide +kernel
theorem dX0_removeIdle_13 : decode cX0_removeIdle 13 = .ok (.getfield 21, 3) := by decide +kernel
theorem dX0_removeIdle_16 : decode cX0_removeIdle 16 = .ok (.iload_n 3, 1) := by decide +kernel
theorem dX0_removeIdle_17 : decode cX0_removeIdle 17 = .ok (.iaload, 1) := by decide +kernel
theorem dX0_removeIdle_18 : decode cX0_removeIdle 18 = .ok (.iload_n 1, 1) := by decide +kernel
theorem dX0_removeIdle_19 : decode cX0_removeIdle 19 = .ok (.if_icmp .eq 18, 3) := by decide +kernel
theorem dX0_removeIdle_22 : decode cX0_removeIdle 22 = .ok (.aload_n 0, 1) := by decide +kernel
theorem dX0_removeIdle_23 : decode cX0_removeIdle 23 = .ok (.getfield 21, 3) := by decide +kernel
theorem dX0_removeIdle_26 : decode cX0_removeIdle 26 = .ok (.iload_n 2, 1) := by decide +kernel
theorem dX0_removeIdle_27 : decode cX0_removeIdle 27 = .ok (.aload_n 0, 1) := by decide +kernel
theorem dX0_removeIdle_28 : decode cX0_removeIdle 28 = .ok (.getfield 21, 3) := by decide +kernel
theorem dX0_removeIdle_31 : decode cX0_removeIdle 31 = .ok (.iload_n 3, 1) := by decide +kernel
theorem dX0_removeIdle_32 : decode cX0_removeIdle 32 = .ok (.iaload, 1) := by decide +kernel
theorem dX0_removeIdle_33 : decode cX0_removeIdle 33 = .ok (.iastore, 1) := by decide +kernel
theorem dX0_removeIdle_34 : decode cX0_removeIdle 34 = .ok (.iinc 2 1, 3) := by decide +kernel
theorem dX0_removeIdle_37 : decode cX0_removeIdle 37 = .ok (.iinc 3 1, 3) := by decide +kernel
theorem dX0_removeIdle_40 : decode cX0_removeIdle 40 = .ok (.goto (-36), 3) := by decide +kernel
theorem dX0_removeIdle_43 : decode cX0_removeIdle 43 = .ok (.aload_n 0, 1) := by decide +kernel
theorem dX0_removeIdle_44 : decode cX0_removeIdle 44 = .ok (.iload_n 2, 1) := by decide +kernel
theorem dX0_removeIdle_45 : decode cX0_removeIdle 45 = .ok (.putfield 18, 3) := by decide +kernel
theorem dX0_removeIdle_48 : decode cX0_removeIdle 48 = .ok (.return_, 1) := by decide +kernel
set_option maxRecDepth 20000 in
theorem ggX0_mixAll_X4_mix : GoodIn wsX0_mixAll wsX4_mix := goodIn_r _ [8, 9] (by decide +kernel) (by decide +kernel)
set_option maxRecDepth 20000 in
theorem gX0_mixAll_X4_mix_n34 : GoodIn wsX0_mixAll (wsX4_mix) := ggX0_mixAll_X4_mix
theorem dX0_mixAll_0 : decode cX0_mixAll 0 = .ok (.lload_n 1, 1) := by decide +kernel
theorem dX0_mixAll_1 : decode cX0_mixAll 1 = .ok (.aload_n 0, 1) := by decide +kernel
theorem dX0_mixAll_2 : decode cX0_mixAll 2 = .ok (.getfield 9, 3) := by decide +kernel
theorem dX0_mixAll_5 : decode cX0_mixAll 5 = .ok (.i2l, 1) := by decide +kernel
theorem dX0_mixAll_6 : decode cX0_mixAll 6 = .ok (.invokestatic 34, 3) := by decide +kernel
theorem dX0_mixAll_9 : decode cX0_mixAll 9 = .ok (.lstore 4, 2) := by decide +kernel
theorem dX0_mixAll_11 : decode cX0_mixAll 11 = .ok (.lload 4, 2) := by decide +kernel
theorem dX0_mixAll_13 : decode cX0_mixAll 13 = .ok (.aload_n 0, 1) := by decide +kernel
theorem dX0_mixAll_14 : decode cX0_mixAll 14 = .ok (.getfield 15, 3) := by decide +kernel
theorem dX0_mixAll_17 : decode cX0_mixAll 17 = .ok (.i2l, 1) := by decide +kernel
theorem dX0_mixAll_18 : decode cX0_mixAll 18 = .ok (.invokestatic 34, 3) := by decide +kernel
theorem dX0_mixAll_21 : decode cX0_mixAll 21 = .ok (.lstore 4, 2) := by decide +kernel
theorem dX0_mixAll_23 : decode cX0_mixAll 23 = .ok (.lload 4, 2) := by decide +kernel
theorem dX0_mixAll_25 : decode cX0_mixAll 25 = .ok (.aload_n 0, 1) := by decide +kernel
theorem dX0_mixAll_26 : decode cX0_mixAll 26 = .ok (.getfield 18, 3) := by decide +kernel
theorem dX0_mixAll_29 : decode cX0_mixAll 29 = .ok (.i2l, 1) := by decide +kernel
theorem dX0_mixAll_30 : decode cX0_mixAll 30 = .ok (.invokestatic 34, 3) := by decide +kernel
theorem dX0_mixAll_33 : decode cX0_mixAll 33 = .ok (.lstore 4, 2) := by decide +kernel
theorem dX0_mixAll_35 : decode cX0_mixAll 35 = .ok (.iconst 0, 1) := by decide +kernel
theorem dX0_mixAll_36 : decode cX0_mixAll 36 = .ok (.istore 6, 2) := by decide +kernel
theorem dX0_mixAll_38 : decode cX0_mixAll 38 = .ok (.iload 6, 2) := by decide +kernel
theorem dX0_mixAll_40 : decode cX0_mixAll 40 = .ok (.aload_n 0, 1) := by decide +kernel
theorem dX0_mixAll_41 : decode cX0_mixAll 41 = .ok (.getfield 18, 3) := by decide +kernel
theorem dX0_mixAll_44 : decode cX0_mixAll 44 = .ok (.if_icmp .ge 24, 3) := by decide +kernel
theorem dX0_mixAll_47 : decode cX0_mixAll 47 = .ok (.lload 4, 2) := by decide +kernel
theorem dX0_mixAll_49 : decode cX0_mixAll 49 = .ok (.aload_n 0, 1) := by decide +kernel
theorem dX0_mixAll_50 : decode cX0_mixAll 50 = .ok (.getfield 21, 3) := by decide +kernel
theorem dX0_mixAll_53 : decode cX0_mixAll 53 = .ok (.iload 6, 2) := by decide +kernel
theorem dX0_mixAll_55 : decode cX0_mixAll 55 = .ok (.iaload, 1) := by decide +kernel
theorem dX0_mixAll_56 : decode cX0_mixAll 56 = .ok (.i2l, 1) := by decide +kernel
theorem dX0_mixAll_57 : decode cX0_mixAll 57 = .ok (.invokestatic 34, 3) := by decide +kernel
theorem dX0_mixAll_60 : decode cX0_mixAll 60 = .ok (.lstore 4, 2) := by decide +kernel
theorem dX0_mixAll_62 : decode cX0_mixAll 62 = .ok (.iinc 6 1, 3) := by decide +kernel
theorem dX0_mixAll_65 : decode cX0_mixAll 65 = .ok (.goto (-27), 3) := by decide +kernel
theorem dX0_mixAll_68 : decode cX0_mixAll 68 = .ok (.iconst 0, 1) := by decide +kernel
theorem dX0_mixAll_69 : decode cX0_mixAll 69 = .ok (.istore 6, 2) := by decide +kernel
theorem dX0_mixAll_71 : decode cX0_mixAll 71 = .ok (.iload 6, 2) := by decide +kernel
theorem dX0_mixAll_73 : decode cX0_mixAll 73 = .ok (.iload_n 3, 1) := by decide +kernel
theorem dX0_mixAll_74 : decode cX0_mixAll 74 = .ok (.if_icmp .ge 24, 3) := by decide +kernel
theorem dX0_mixAll_77 : decode cX0_mixAll 77 = .ok (.lload 4, 2) := by decide +kernel
theorem dX0_mixAll_79 : decode cX0_mixAll 79 = .ok (.aload_n 0, 1) := by decide +kernel
theorem dX0_mixAll_80 : decode cX0_mixAll 80 = .ok (.getfield 25, 3) := by decide +kernel
theorem dX0_mixAll_83 : decode cX0_mixAll 83 = .ok (.iload 6, 2) := by decide +kernel
theorem dX0_mixAll_85 : decode cX0_mixAll 85 = .ok (.iaload, 1) := by decide +kernel
theorem dX0_mixAll_86 : decode cX0_mixAll 86 = .ok (.i2l, 1) := by decide +kernel
theorem dX0_mixAll_87 : decode cX0_mixAll 87 = .ok (.invokestatic 34, 3) := by decide +kernel
theorem dX0_mixAll_90 : decode cX0_mixAll 90 = .ok (.lstore 4, 2) := by decide +kernel
theorem dX0_mixAll_92 : decode cX0_mixAll 92 = .ok (.iinc 6 1, 3) := by decide +kernel
theorem dX0_mixAll_95 : decode cX0_mixAll 95 = .ok (.goto (-24), 3) := by decide +kernel
theorem dX0_mixAll_98 : decode cX0_mixAll 98 = .ok (.lload 4, 2) := by decide +kernel
theorem dX0_mixAll_100 : decode cX0_mixAll 100 = .ok (.lreturn, 1) := by decide +kernel
theorem dX1_init_0 : decode cX1_init 0 = .ok (.aload_n 0, 1) := by decide +kernel
theorem dX1_init_1 : decode cX1_init 1 = .ok (.invokespecial 3, 3) := by decide +kernel
theorem dX1_init_4 : decode cX1_init 4 = .ok (.aload_n 0, 1) := by decide +kernel
theorem dX1_init_5 : decode cX1_init 5 = .ok (.iconst 0, 1) := by decide +kernel
theorem dX1_init_6 : decode cX1_init 6 = .ok (.putfield 9, 3) := by decide +kernel
theorem dX1_init_9 : decode cX1_init 9 = .ok (.aload_n 0, 1) := by decide +kernel
theorem dX1_init_10 : decode cX1_init 10 = .ok (.iconst 0, 1) := by decide +kernel
theorem dX1_init_11 : decode cX1_init 11 = .ok (.putfield 15, 3) := by decide +kernel
theorem dX1_init_14 : decode cX1_init 14 = .ok (.aload_n 0, 1) := by decide +kernel
theorem dX1_init_15 : decode cX1_init 15 = .ok (.iconst 0, 1) := by decide +kernel
theorem dX1_init_16 : decode cX1_init 16 = .ok (.putfield 18, 3) := by decide +kernel
theorem dX1_init_19 : decode cX1_init 19 = .ok (.aload_n 0, 1) := by decide +kernel
theorem dX1_init_20 : decode cX1_init 20 = .ok (.iconst 0, 1) := by decide +kernel
theorem dX1_init_21 : decode cX1_init 21 = .ok (.putfield 21, 3) := by decide +kernel
theorem dX1_init_24 : decode cX1_init 24 = .ok (.aload_n 0, 1) := by decide +kernel
theorem dX1_init_25 : decode cX1_init 25 = .ok (.iconst 0, 1) := by decide +kernel
theorem dX1_init_26 : decode cX1_init 26 = .ok (.putfield 24, 3) := by decide +kernel
theorem dX1_init_29 : decode cX1_init 29 = .ok (.aload_n 0, 1) := by decide +kernel
theorem dX1_init_30 : decode cX1_init 30 = .ok (.sipush 200, 3) := by decide +kernel
theorem dX1_init_33 : decode cX1_init 33 = .ok (.newarray .int, 2) := by decide +kernel
theorem dX1_init_35 : decode cX1_init 35 = .ok (.putfield 27, 3) := by decide +kernel
theorem dX1_init_38 : decode cX1_init 38 = .ok (.aload_n 0, 1) := by decide +kernel
theorem dX1_init_39 : decode cX1_init 39 = .ok (.sipush 200, 3) := by decide +kernel
theorem dX1_init_42 : decode cX1_init 42 = .ok (.newarray .int, 2) := by decide +kernel
theorem dX1_init_44 : decode cX1_init 44 = .ok (.putfield 31, 3) := by decide +kernel
theorem dX1_init_47 : decode cX1_init 47 = .ok (.aload_n 0, 1) := by decide +kernel
theorem dX1_init_48 : decode cX1_init 48 = .ok (.sipush 200, 3) := by decide +kernel
theorem dX1_init_51 : decode cX1_init 51 = .ok (.newarray .int, 2) := by decide +kernel
theorem dX1_init_53 : decode cX1_init 53 = .ok (.putfield 34, 3) := by decide +kernel
theorem dX1_init_56 : decode cX1_init 56 = .ok (.aload_n 0, 1) := by decide +kernel
theorem dX1_init_57 : decode cX1_init 57 = .ok (.sipush 200, 3) := by decide +kernel
theorem dX1_init_60 : decode cX1_init 60 = .ok (.newarray .int, 2) := by decide +kernel
theorem dX1_init_62 : decode cX1_init 62 = .ok (.putfield 37, 3) := by decide +kernel
theorem dX1_init_65 : decode cX1_init 65 = .ok (.aload_n 0, 1) := by decide +kernel
theorem dX1_init_66 : decode cX1_init 66 = .ok (.sipush 200, 3) := by decide +kernel
theorem dX1_init_69 : decode cX1_init 69 = .ok (.newarray .int, 2) := by decide +kernel
theorem dX1_init_71 : decode cX1_init 71 = .ok (.putfield 40, 3) := by decide +kernel
theorem dX1_init_74 : decode cX1_init 74 = .ok (.return_, 1) := by decide +kernel
theorem dX1_copyFrom_0 : decode cX1_copyFrom 0 = .ok (.aload_n 0, 1) := by decide +kernel
theorem dX1_copyFrom_1 : decode cX1_copyFrom 1 = .ok (.aload_n 1, 1) := by decide +kernel
theorem dX1_copyFrom_2 : decode cX1_copyFrom 2 = .ok (.getfield 9, 3) := by decide +kernel
theorem dX1_copyFrom_5 : decode cX1_copyFrom 5 = .ok (.putfield 9, 3) := by decide +kernel
theorem dX1_copyFrom_8 : decode cX1_copyFrom 8 = .ok (.aload_n 0, 1) := by decide +kernel
theorem dX1_copyFrom_9 : decode cX1_copyFrom 9 = .ok (.aload_n 1, 1) := by decide +kernel
theorem dX1_copyFrom_10 : decode cX1_copyFrom 10 = .ok (.getfield 15, 3) := by decide +kernel
theorem dX1_copyFrom_13 : decode cX1_copyFrom 13 = .ok (.putfield 15, 3) := by decide +kernel
theorem dX1_copyFrom_16 : decode cX1_copyFrom 16 = .ok (.aload_n 0, 1) := by decide +kernel
theorem dX1_copyFrom_17 : decode cX1_copyFrom 17 = .ok (.aload_n 1, 1) := by decide +kernel
theorem dX1_copyFrom_18 : decode cX1_copyFrom 18 = .ok (.getfield 18, 3) := by decide +kernel
theorem dX1_copyFrom_21 : decode cX1_copyFrom 21 = .ok (.putfield 18, 3) := by decide +kernel
theorem dX1_copyFrom_24 : decode cX1_copyFrom 24 = .ok (.aload_n 0, 1) := by decide +kernel
theorem dX1_copyFrom_25 : decode cX1_copyFrom 25 = .ok (.aload_n 1, 1) := by decide +kernel
theorem dX1_copyFrom_26 : decode cX1_copyFrom 26 = .ok (.getfield 21, 3) := by decide +kernel
theorem dX1_copyFrom_29 : decode cX1_copyFrom 29 = .ok (.putfield 21, 3) := by decide +kernel
theorem dX1_copyFrom_32 : decode cX1_copyFrom 32 = .ok (.aload_n 0, 1) := by decide +kernel
theorem dX1_copyFrom_33 : decode cX1_copyFrom 33 = .ok (.aload_n 1, 1) := by decide +kernel
theorem dX1_copyFrom_34 : decode cX1_copyFrom 34 = .ok (.getfield 24, 3) := by decide +kernel
theorem dX1_copyFrom_37 : decode cX1_copyFrom 37 = .ok (.putfield 24, 3) := by decide +kernel
theorem dX1_copyFrom_40 : decode cX1_copyFrom 40 = .ok (.aload_n 1, 1) := by decide +kernel
theorem dX1_copyFrom_41 : decode cX1_copyFrom 41 = .ok (.getfield 27, 3) := by decide +kernel
theorem dX1_copyFrom_44 : decode cX1_copyFrom 44 = .ok (.iconst 0, 1) := by decide +kernel
theorem dX1_copyFrom_45 : decode cX1_copyFrom 45 = .ok (.aload_n 0, 1) := by decide +kernel
theorem dX1_copyFrom_46 : decode cX1_copyFrom 46 = .ok (.getfield 27, 3) := by decide +kernel
theorem dX1_copyFrom_49 : decode cX1_copyFrom 49 = .ok (.iconst 0, 1) := by decide +kernel
theorem dX1_copyFrom_50 : decode cX1_copyFrom 50 = .ok (.aload_n 0, 1) := by decide +kernel
theorem dX1_copyFrom_51 : decode cX1_copyFrom 51 = .ok (.getfield 9, 3) := by decide +kernel
theorem dX1_copyFrom_54 : decode cX1_copyFrom 54 = .ok (.invokestatic 43, 3) := by decide +kernel
theorem dX1_copyFrom_57 : decode cX1_copyFrom 57 = .ok (.aload_n 1, 1) := by decide +kernel
theorem dX1_copyFrom_58 : decode cX1_copyFrom 58 = .ok (.getfield 31, 3) := by decide +kernel
theorem dX1_copyFrom_61 : decode cX1_copyFrom 61 = .ok (.iconst 0, 1) := by decide +kernel
theorem dX1_copyFrom_62 : decode cX1_copyFrom 62 = .ok (.aload_n 0, 1) := by decide +kernel
theorem dX1_copyFrom_63 : decode cX1_copyFrom 63 = .ok (.getfield 31, 3) := by decide +kernel
theorem dX1_copyFrom_66 : decode cX1_copyFrom 66 = .ok (.iconst 0, 1) := by decide +kernel
theorem dX1_copyFrom_67 : decode cX1_copyFrom 67 = .ok (.aload_n 0, 1) := by decide +kernel
theorem dX1_copyFrom_68 : decode cX1_copyFrom 68 = .ok (.getfield 9, 3) := by decide +kernel
theorem dX1_copyFrom_71 : decode cX1_copyFrom 71 = .ok (.invokestatic 43, 3) := by decide +kernel
theorem dX1_copyFrom_74 : decode cX1_copyFrom 74 = .ok (.aload_n 1, 1) := by decide +kernel
theorem dX1_copyFrom_75 : decode cX1_copyFrom 75 = .ok (.getfield 34, 3) := by decide +kernel
theorem dX1_copyFrom_78 : decode cX1_copyFrom 78 = .ok (.iconst 0, 1) := by decide +kernel
theorem dX1_copyFrom_79 : decode cX1_copyFrom 79 = .ok (.aload_n 0, 1) := by decide +kernel
theorem dX1_copyFrom_80 : decode cX1_copyFrom 80 = .ok (.getfield 34, 3) := by decide +kernel
theorem dX1_copyFrom_83 : decode cX1_copyFrom 83 = .ok (.iconst 0, 1) := by decide +kernel
theorem dX1_copyFrom_84 : decode cX1_copyFrom 84 = .ok (.aload_n 0, 1) := by decide +kernel
theorem dX1_copyFrom_85 : decode cX1_copyFrom 85 = .ok (.getfield 9, 3) := by decide +kernel
theorem dX1_copyFrom_88 : decode cX1_copyFrom 88 = .ok (.invokestatic 43, 3) := by decide +kernel
theorem dX1_copyFrom_91 : decode cX1_copyFrom 91 = .ok (.aload_n 1, 1) := by decide +kernel
theorem dX1_copyFrom_92 : decode cX1_copyFrom 92 = .ok (.getfield 37, 3) := by decide +kernel
theorem dX1_copyFrom_95 : decode cX1_copyFrom 95 = .ok (.iconst 0, 1) := by decide +kernel
theorem dX1_copyFrom_96 : decode cX1_copyFrom 96 = .ok (.aload_n 0, 1) := by decide +kernel
theorem dX1_copyFrom_97 : decode cX1_copyFrom 97 = .ok (.getfield 37, 3) := by decide +kernel
theorem dX1_copyFrom_100 : decode cX1_copyFrom 100 = .ok (.iconst 0, 1) := by decide +kernel
theorem dX1_copyFrom_101 : decode cX1_copyFrom 101 = .ok (.aload_n 0, 1) := by decide +kernel
theorem dX1_copyFrom_102 : decode cX1_copyFrom 102 = .ok (.getfield 9, 3) := by decide +kernel
theorem dX1_copyFrom_105 : decode cX1_copyFrom 105 = .ok (.invokestatic 43, 3) := by decide +kernel
theorem dX1_copyFrom_108 : decode cX1_copyFrom 108 = .ok (.aload_n 1, 1) := by decide +kernel
theorem dX1_copyFrom_109 : decode cX1_copyFrom 109 = .ok (.getfield 40, 3) := by decide +kernel
theorem dX1_copyFrom_112 : decode cX1_copyFrom 112 = .ok (.iconst 0, 1) := by decide +kernel
theorem dX1_copyFrom_113 : decode cX1_copyFrom 113 = .ok (.aload_n 0, 1) := by decide +kernel
theorem dX1_copyFrom_114 : decode cX1_copyFrom 114 = .ok (.getfield 40, 3) := by decide +kernel
theorem dX1_copyFrom_117 : decode cX1_copyFrom 117 = .ok (.iconst 0, 1) := by decide +kernel
theorem dX1_copyFrom_118 : decode cX1_copyFrom 118 = .ok (.aload_n 0, 1) := by decide +kernel
theorem dX1_copyFrom_119 : decode cX1_copyFrom 119 = .ok (.getfield 9, 3) := by decide +kernel
theorem dX1_copyFrom_122 : decode cX1_copyFrom 122 = .ok (.invokestatic 43, 3) := by decide +kernel
theorem dX1_copyFrom_125 : decode cX1_copyFrom 125 = .ok (.return_, 1) := by decide +kernel
theorem dX1_append_0 : decode cX1_append 0 = .ok (.aload_n 0, 1) := by decide +kernel
theorem dX1_append_1 : decode cX1_append 1 = .ok (.getfield 9, 3) := by decide +kernel
theorem dX1_append_4 : decode cX1_append 4 = .ok (.sipush 200, 3) := by decide +kernel
theorem dX1_append_7 : decode cX1_append 7 = .ok (.if_icmp .lt 5, 3) := by decide +kernel
theorem dX1_append_10 : decode cX1_append 10 = .ok (.iconst (-1), 1) := by decide +kernel
theorem dX1_append_11 : decode cX1_append 11 = .ok (.ireturn, 1) := by decide +kernel
theorem dX1_append_12 : decode cX1_append 12 = .ok (.aload_n 0, 1) := by decide +kernel
theorem dX1_append_13 : decode cX1_append 13 = .ok (.getfield 9, 3) := by decide +kernel
theorem dX1_append_16 : decode cX1_append 16 = .ok (.istore 4, 2) := by decide +kernel
theorem dX1_append_18 : decode cX1_append 18 = .ok (.aload_n 0, 1) := by decide +kernel
theorem dX1_append_19 : decode cX1_append 19 = .ok (.dup, 1) := by decide +kernel
theorem dX1_append_20 : decode cX1_append 20 = .ok (.getfield 9, 3) := by decide +kernel
theorem dX1_append_23 : decode cX1_append 23 = .ok (.iconst 1, 1) := by decide +kernel
theorem dX1_append_24 : decode cX1_append 24 = .ok (.iadd, 1) := by decide +kernel
theorem dX1_append_25 : decode cX1_append 25 = .ok (.putfield 9, 3) := by decide +kernel
theorem dX1_append_28 : decode cX1_append 28 = .ok (.aload_n 0, 1) := by decide +kernel
theorem dX1_append_29 : decode cX1_append 29 = .ok (.getfield 27, 3) := by decide +kernel
theorem dX1_append_32 : decode cX1_append 32 = .ok (.iload 4, 2) := by decide +kernel
theorem dX1_append_34 : decode cX1_append 34 = .ok (.iload_n 1, 1) := by decide +kernel
theorem dX1_append_35 : decode cX1_append 35 = .ok (.iastore, 1) := by decide +kernel
theorem dX1_append_36 : decode cX1_append 36 = .ok (.aload_n 0, 1) := by decide +kernel
theorem dX1_append_37 : decode cX1_append 37 = .ok (.getfield 31, 3) := by decide +kernel
theorem dX1_append_40 : decode cX1_append 40 = .ok (.iload 4, 2) := by decide +kernel
theorem dX1_append_42 : decode cX1_append 42 = .ok (.iload_n 2, 1) := by decide +kernel
theorem dX1_append_43 : decode cX1_append 43 = .ok (.iastore, 1) := by decide +kernel
theorem dX1_append_44 : decode cX1_append 44 = .ok (.aload_n 0, 1) := by decide +kernel
theorem dX1_append_45 : decode cX1_append 45 = .ok (.getfield 34, 3) := by decide +kernel
theorem dX1_append_48 : decode cX1_append 48 = .ok (.iload 4, 2) := by decide +kernel
theorem dX1_append_50 : decode cX1_append 50 = .ok (.iload_n 3, 1) := by decide +kernel
theorem dX1_append_51 : decode cX1_append 51 = .ok (.iastore, 1) := by decide +kernel
theorem dX1_append_52 : decode cX1_append 52 = .ok (.aload_n 0, 1) := by decide +kernel
theorem dX1_append_53 : decode cX1_append 53 = .ok (.getfield 37, 3) := by decide +kernel
theorem dX1_append_56 : decode cX1_append 56 = .ok (.iload 4, 2) := by decide +kernel
theorem dX1_append_58 : decode cX1_append 58 = .ok (.iconst (-1), 1) := by decide +kernel
theorem dX1_append_59 : decode cX1_append 59 = .ok (.iastore, 1) := by decide +kernel
theorem dX1_append_60 : decode cX1_append 60 = .ok (.aload_n 0, 1) := by decide +kernel
theorem dX1_append_61 : decode cX1_append 61 = .ok (.getfield 40, 3) := by decide +kernel
theorem dX1_append_64 : decode cX1_append 64 = .ok (.iload 4, 2) := by decide +kernel
theorem dX1_append_66 : decode cX1_append 66 = .ok (.iconst (-1), 1) := by decide +kernel
theorem dX1_append_67 : decode cX1_append 67 = .ok (.iastore, 1) := by decide +kernel
theorem dX1_append_68 : decode cX1_append 68 = .ok (.iload 4, 2) := by decide +kernel
theorem dX1_append_70 : decode cX1_append 70 = .ok (.ireturn, 1) := by decide +kernel
theorem dX1_begin_0 : decode cX1_begin 0 = .ok (.aload_n 0, 1) := by decide +kernel
theorem dX1_begin_1 : decode cX1_begin 1 = .ok (.getfield 37, 3) := by decide +kernel
theorem dX1_begin_4 : decode cX1_begin 4 = .ok (.iload_n 1, 1) := by decide +kernel
theorem dX1_begin_5 : decode cX1_begin 5 = .ok (.iload_n 2, 1) := by decide +kernel
theorem dX1_begin_6 : decode cX1_begin 6 = .ok (.aload_n 0, 1) := by decide +kernel
theorem dX1_begin_7 : decode cX1_begin 7 = .ok (.getfield 34, 3) := by decide +kernel
theorem dX1_begin_10 : decode cX1_begin 10 = .ok (.iload_n 1, 1) := by decide +kernel
theorem dX1_begin_11 : decode cX1_begin 11 = .ok (.iaload, 1) := by decide +kernel
theorem dX1_begin_12 : decode cX1_begin 12 = .ok (.isub, 1) := by decide +kernel
theorem dX1_begin_13 : decode cX1_begin 13 = .ok (.iastore, 1) := by decide +kernel
theorem dX1_begin_14 : decode cX1_begin 14 = .ok (.aload_n 0, 1) := by decide +kernel
theorem dX1_begin_15 : decode cX1_begin 15 = .ok (.dup, 1) := by decide +kernel
theorem dX1_begin_16 : decode cX1_begin 16 = .ok (.getfield 21, 3) := by decide +kernel
theorem dX1_begin_19 : decode cX1_begin 19 = .ok (.aload_n 0, 1) := by decide +kernel
theorem dX1_begin_20 : decode cX1_begin 20 = .ok (.getfield 37, 3) := by decide +kernel
theorem dX1_begin_23 : decode cX1_begin 23 = .ok (.iload_n 1, 1) := by decide +kernel
theorem dX1_begin_24 : decode cX1_begin 24 = .ok (.iaload, 1) := by decide +kernel
theorem dX1_begin_25 : decode cX1_begin 25 = .ok (.iadd, 1) := by decide +kernel
theorem dX1_begin_26 : decode cX1_begin 26 = .ok (.putfield 21, 3) := by decide +kernel
theorem dX1_begin_29 : decode cX1_begin 29 = .ok (.aload_n 0, 1) := by decide +kernel
theorem dX1_begin_30 : decode cX1_begin 30 = .ok (.dup, 1) := by decide +kernel
theorem dX1_begin_31 : decode cX1_begin 31 = .ok (.getfield 18, 3) := by decide +kernel
theorem dX1_begin_34 : decode cX1_begin 34 = .ok (.iconst 1, 1) := by decide +kernel
theorem dX1_begin_35 : decode cX1_begin 35 = .ok (.iadd, 1) := by decide +kernel
theorem dX1_begin_36 : decode cX1_begin 36 = .ok (.putfield 18, 3) := by decide +kernel
theorem dX1_begin_39 : decode cX1_begin 39 = .ok (.return_, 1) := by decide +kernel
theorem dX2_init_0 : decode cX2_init 0 = .ok (.aload_n 0, 1) := by decide +kernel
theorem dX2_init_1 : decode cX2_init 1 = .ok (.invokespecial 3, 3) := by decide +kernel
theorem dX2_init_4 : decode cX2_init 4 = .ok (.aload_n 0, 1) := by decide +kernel
theorem dX2_init_5 : decode cX2_init 5 = .ok (.iconst 1, 1) := by decide +kernel
theorem dX2_init_6 : decode cX2_init 6 = .ok (.putfield 9, 3) := by decide +kernel
theorem dX2_init_9 : decode cX2_init 9 = .ok (.aload_n 0, 1) := by decide +kernel
theorem dX2_init_10 : decode cX2_init 10 = .ok (.iconst 0, 1) := by decide +kernel
theorem dX2_init_11 : decode cX2_init 11 = .ok (.putfield 15, 3) := by decide +kernel
theorem dX2_init_14 : decode cX2_init 14 = .ok (.aload_n 0, 1) := by decide +kernel
theorem dX2_init_15 : decode cX2_init 15 = .ok (.iconst 0, 1) := by decide +kernel
theorem dX2_init_16 : decode cX2_init 16 = .ok (.putfield 19, 3) := by decide +kernel
theorem dX2_init_19 : decode cX2_init 19 = .ok (.aload_n 0, 1) := by decide +kernel
theorem dX2_init_20 : decode cX2_init 20 = .ok (.iconst (-1), 1) := by decide +kernel
theorem dX2_init_21 : decode cX2_init 21 = .ok (.putfield 22, 3) := by decide +kernel
theorem dX2_init_24 : decode cX2_init 24 = .ok (.aload_n 0, 1) := by decide +kernel
theorem dX2_init_25 : decode cX2_init 25 = .ok (.iconst (-1), 1) := by decide +kernel
theorem dX2_init_26 : decode cX2_init 26 = .ok (.putfield 25, 3) := by decide +kernel
theorem dX2_init_29 : decode cX2_init 29 = .ok (.aload_n 0, 1) := by decide +kernel
theorem dX2_init_30 : decode cX2_init 30 = .ok (.iconst (-1), 1) := by decide +kernel
theorem dX2_init_31 : decode cX2_init 31 = .ok (.putfield 28, 3) := by decide +kernel
theorem dX2_init_34 : decode cX2_init 34 = .ok (.return_, 1) := by decide +kernel
theorem dX2_copyFrom_0 : decode cX2_copyFrom 0 = .ok (.aload_n 0, 1) := by decide +kernel
theorem dX2_copyFrom_1 : decode cX2_copyFrom 1 = .ok (.aload_n 1, 1) := by decide +kernel
theorem dX2_copyFrom_2 : decode cX2_copyFrom 2 = .ok (.getfield 9, 3) := by decide +kernel
theorem dX2_copyFrom_5 : decode cX2_copyFrom 5 = .ok (.putfield 9, 3) := by decide +kernel
theorem dX2_copyFrom_8 : decode cX2_copyFrom 8 = .ok (.aload_n 0, 1) := by decide +kernel
theorem dX2_copyFrom_9 : decode cX2_copyFrom 9 = .ok (.aload_n 1, 1) := by decide +kernel
theorem dX2_copyFrom_10 : decode cX2_copyFrom 10 = .ok (.getfield 15, 3) := by decide +kernel
theorem dX2_copyFrom_13 : decode cX2_copyFrom 13 = .ok (.putfield 15, 3) := by decide +kernel
theorem dX2_copyFrom_16 : decode cX2_copyFrom 16 = .ok (.aload_n 0, 1) := by decide +kernel
theorem dX2_copyFrom_17 : decode cX2_copyFrom 17 = .ok (.aload_n 1, 1) := by decide +kernel
theorem dX2_copyFrom_18 : decode cX2_copyFrom 18 = .ok (.getfield 19, 3) := by decide +kernel
theorem dX2_copyFrom_21 : decode cX2_copyFrom 21 = .ok (.putfield 19, 3) := by decide +kernel
theorem dX2_copyFrom_24 : decode cX2_copyFrom 24 = .ok (.aload_n 0, 1) := by decide +kernel
theorem dX2_copyFrom_25 : decode cX2_copyFrom 25 = .ok (.aload_n 1, 1) := by decide +kernel
theorem dX2_copyFrom_26 : decode cX2_copyFrom 26 = .ok (.getfield 22, 3) := by decide +kernel
theorem dX2_copyFrom_29 : decode cX2_copyFrom 29 = .ok (.putfield 22, 3) := by decide +kernel
theorem dX2_copyFrom_32 : decode cX2_copyFrom 32 = .ok (.aload_n 0, 1) := by decide +kernel
theorem dX2_copyFrom_33 : decode cX2_copyFrom 33 = .ok (.aload_n 1, 1) := by decide +kernel
theorem dX2_copyFrom_34 : decode cX2_copyFrom 34 = .ok (.getfield 25, 3) := by decide +kernel
theorem dX2_copyFrom_37 : decode cX2_copyFrom 37 = .ok (.putfield 25, 3) := by decide +kernel
theorem dX2_copyFrom_40 : decode cX2_copyFrom 40 = .ok (.aload_n 0, 1) := by decide +kernel
theorem dX2_copyFrom_41 : decode cX2_copyFrom 41 = .ok (.aload_n 1, 1) := by decide +kernel
theorem dX2_copyFrom_42 : decode cX2_copyFrom 42 = .ok (.getfield 28, 3) := by decide +kernel
theorem dX2_copyFrom_45 : decode cX2_copyFrom 45 = .ok (.putfield 28, 3) := by decide +kernel
theorem dX2_copyFrom_48 : decode cX2_copyFrom 48 = .ok (.return_, 1) := by decide +kernel
theorem dX2_isIdle_0 : decode cX2_isIdle 0 = .ok (.aload_n 0, 1) := by decide +kernel
theorem dX2_isIdle_1 : decode cX2_isIdle 1 = .ok (.getfield 9, 3) := by decide +kernel
theorem dX2_isIdle_4 : decode cX2_isIdle 4 = .ok (.ifCond .eq 14, 3) := by decide +kernel
theorem dX2_isIdle_7 : decode cX2_isIdle 7 = .ok (.aload_n 0, 1) := by decide +kernel
theorem dX2_isIdle_8 : decode cX2_isIdle 8 = .ok (.getfield 15, 3) := by decide +kernel
theorem dX2_isIdle_11 : decode cX2_isIdle 11 = .ok (.ifCond .ne 7, 3) := by decide +kernel
theorem dX2_isIdle_14 : decode cX2_isIdle 14 = .ok (.iconst 1, 1) := by decide +kernel
theorem dX2_isIdle_15 : decode cX2_isIdle 15 = .ok (.goto 4, 3) := by decide +kernel
theorem dX2_isIdle_18 : decode cX2_isIdle 18 = .ok (.iconst 0, 1) := by decide +kernel
theorem dX2_isIdle_19 : decode cX2_isIdle 19 = .ok (.ireturn, 1) := by decide +kernel
set_option maxRecDepth 20000 in
theorem ggX2_mixAll_X4_mix : GoodIn wsX2_mixAll wsX4_mix := goodIn_r _ [7, 8] (by decide +kernel) (by decide +kernel)
set_option maxRecDepth 20000 in
theorem gX2_mixAll_X4_mix_n31 : GoodIn wsX2_mixAll (wsX4_mix) := ggX2_mixAll_X4_mix
theorem dX2_mixAll_0 : decode cX2_mixAll 0 = .ok (.lload_n 1, 1) := by decide +kernel
theorem dX2_mixAll_1 : decode cX2_mixAll 1 = .ok (.aload_n 0, 1) := by decide +kernel
theorem dX2_mixAll_2 : decode cX2_mixAll 2 = .ok (.getfield 9, 3) := by decide +kernel
theorem dX2_mixAll_5 : decode cX2_mixAll 5 = .ok (.ifCond .eq 7, 3) := by decide +kernel
theorem dX2_mixAll_8 : decode cX2_mixAll 8 = .ok (.lconst 1, 1) := by decide +kernel
theorem dX2_mixAll_9 : decode cX2_mixAll 9 = .ok (.goto 4, 3) := by decide +kernel
theorem dX2_mixAll_12 : decode cX2_mixAll 12 = .ok (.lconst 0, 1) := by decide +kernel
theorem dX2_mixAll_13 : decode cX2_mixAll 13 = .ok (.invokestatic 31, 3) := by decide +kernel
theorem dX2_mixAll_16 : decode cX2_mixAll 16 = .ok (.lstore_n 3, 1) := by decide +kernel
theorem dX2_mixAll_17 : decode cX2_mixAll 17 = .ok (.lload_n 3, 1) := by decide +kernel
theorem dX2_mixAll_18 : decode cX2_mixAll 18 = .ok (.aload_n 0, 1) := by decide +kernel
theorem dX2_mixAll_19 : decode cX2_mixAll 19 = .ok (.getfield 15, 3) := by decide +kernel
theorem dX2_mixAll_22 : decode cX2_mixAll 22 = .ok (.i2l, 1) := by decide +kernel
theorem dX2_mixAll_23 : decode cX2_mixAll 23 = .ok (.invokestatic 31, 3) := by decide +kernel
theorem dX2_mixAll_26 : decode cX2_mixAll 26 = .ok (.lstore_n 3, 1) := by decide +kernel
theorem dX2_mixAll_27 : decode cX2_mixAll 27 = .ok (.lload_n 3, 1) := by decide +kernel
theorem dX2_mixAll_28 : decode cX2_mixAll 28 = .ok (.aload_n 0, 1) := by decide +kernel
theorem dX2_mixAll_29 : decode cX2_mixAll 29 = .ok (.getfield 19, 3) := by decide +kernel
theorem dX2_mixAll_32 : decode cX2_mixAll 32 = .ok (.i2l, 1) := by decide +kernel
theorem dX2_mixAll_33 : decode cX2_mixAll 33 = .ok (.invokestatic 31, 3) := by decide +kernel
theorem dX2_mixAll_36 : decode cX2_mixAll 36 = .ok (.lstore_n 3, 1) := by decide +kernel
theorem dX2_mixAll_37 : decode cX2_mixAll 37 = .ok (.lload_n 3, 1) := by decide +kernel
theorem dX2_mixAll_38 : decode cX2_mixAll 38 = .ok (.aload_n 0, 1) := by decide +kernel
theorem dX2_mixAll_39 : decode cX2_mixAll 39 = .ok (.getfield 22, 3) := by decide +kernel
theorem dX2_mixAll_42 : decode cX2_mixAll 42 = .ok (.i2l, 1) := by decide +kernel
theorem dX2_mixAll_43 : decode cX2_mixAll 43 = .ok (.invokestatic 31, 3) := by decide +kernel
theorem dX2_mixAll_46 : decode cX2_mixAll 46 = .ok (.lreturn, 1) := by decide +kernel
set_option maxRecDepth 20000 in
theorem ggX3_init_X2_init : GoodIn wsX3_init wsX2_init := goodIn_r _ [27, 28, 2, 3, 29, 30, 31, 32, 33, 34, 69, 70, 71, 72, 73, 74] (by decide +kernel) (by decide +kernel)
set_option maxRecDepth 20000 in
theorem gX3_init_X2_init : GoodIn wsX3_init (wsX2_init) := ggX3_init_X2_init
set_option maxRecDepth 20000 in
theorem ggX3_init_X0_init : GoodIn wsX3_init wsX0_init := goodIn_r _ [37, 38, 2, 3, 39, 40, 41, 23, 42, 43, 75, 76, 77, 78, 79] (by decide +kernel) (by decide +kernel)
set_option maxRecDepth 20000 in
theorem gX3_init_X0_init : GoodIn wsX3_init (wsX0_init) := ggX3_init_X0_init
set_option maxRecDepth 20000 in
theorem ggX3_init_X1_init : GoodIn wsX3_init wsX1_init := goodIn_r _ [46, 47, 2, 3, 48, 49, 50, 51, 52, 23, 53, 54, 55, 56, 57, 80, 81, 82, 83, 84, 85, 86, 87, 88, 89] (by decide +kernel) (by decide +kernel)
set_option maxRecDepth 20000 in
theorem gX3_init_X1_init : GoodIn wsX3_init (wsX1_init) := ggX3_init_X1_init
theorem dX3_init_0 : decode cX3_init 0 = .ok (.aload_n 0, 1) := by decide +kernel
theorem dX3_init_1 : decode cX3_init 1 = .ok (.invokespecial 3, 3) := by decide +kernel
theorem dX3_init_4 : decode cX3_init 4 = .ok (.aload_n 0, 1) := by decide +kernel
theorem dX3_init_5 : decode cX3_init 5 = .ok (.iconst 0, 1) := by decide +kernel
theorem dX3_init_6 : decode cX3_init 6 = .ok (.putfield 9, 3) := by decide +kernel
theorem dX3_init_9 : decode cX3_init 9 = .ok (.aload_n 0, 1) := by decide +kernel
theorem dX3_init_10 : decode cX3_init 10 = .ok (.lconst 1, 1) := by decide +kernel
theorem dX3_init_11 : decode cX3_init 11 = .ok (.putfield 15, 3) := by decide +kernel
theorem dX3_init_14 : decode cX3_init 14 = .ok (.aload_n 0, 1) := by decide +kernel
theorem dX3_init_15 : decode cX3_init 15 = .ok (.iconst 0, 1) := by decide +kernel
theorem dX3_init_16 : decode cX3_init 16 = .ok (.putfield 19, 3) := by decide +kernel
theorem dX3_init_19 : decode cX3_init 19 = .ok (.aload_n 0, 1) := by decide +kernel
theorem dX3_init_20 : decode cX3_init 20 = .ok (.bipush 8, 2) := by decide +kernel
theorem dX3_init_22 : decode cX3_init 22 = .ok (.putfield 22, 3) := by decide +kernel
theorem dX3_init_25 : decode cX3_init 25 = .ok (.aload_n 0, 1) := by decide +kernel
theorem dX3_init_26 : decode cX3_init 26 = .ok (.iconst 0, 1) := by decide +kernel
theorem dX3_init_27 : decode cX3_init 27 = .ok (.putfield 25, 3) := by decide +kernel
theorem dX3_init_30 : decode cX3_init 30 = .ok (.aload_n 0, 1) := by decide +kernel
theorem dX3_init_31 : decode cX3_init 31 = .ok (.iconst 0, 1) := by decide +kernel
theorem dX3_init_32 : decode cX3_init 32 = .ok (.putfield 28, 3) := by decide +kernel
theorem dX3_init_35 : decode cX3_init 35 = .ok (.aload_n 0, 1) := by decide +kernel
theorem dX3_init_36 : decode cX3_init 36 = .ok (.bipush 8, 2) := by decide +kernel
theorem dX3_init_38 : decode cX3_init 38 = .ok (.anewarray 31, 3) := by decide +kernel
theorem dX3_init_41 : decode cX3_init 41 = .ok (.putfield 33, 3) := by decide +kernel
theorem dX3_init_44 : decode cX3_init 44 = .ok (.iconst 0, 1) := by decide +kernel
theorem dX3_init_45 : decode cX3_init 45 = .ok (.istore_n 1, 1) := by decide +kernel
theorem dX3_init_46 : decode cX3_init 46 = .ok (.iload_n 1, 1) := by decide +kernel
theorem dX3_init_47 : decode cX3_init 47 = .ok (.bipush 8, 2) := by decide +kernel
theorem dX3_init_49 : decode cX3_init 49 = .ok (.if_icmp .ge 22, 3) := by decide +kernel
theorem dX3_init_52 : decode cX3_init 52 = .ok (.aload_n 0, 1) := by decide +kernel
theorem dX3_init_53 : decode cX3_init 53 = .ok (.getfield 33, 3) := by decide +kernel
theorem dX3_init_56 : decode cX3_init 56 = .ok (.iload_n 1, 1) := by decide +kernel
theorem dX3_init_57 : decode cX3_init 57 = .ok (.new 31, 3) := by decide +kernel
theorem dX3_init_60 : decode cX3_init 60 = .ok (.dup, 1) := by decide +kernel
theorem dX3_init_61 : decode cX3_init 61 = .ok (.invokespecial 37, 3) := by decide +kernel
theorem dX3_init_64 : decode cX3_init 64 = .ok (.aastore, 1) := by decide +kernel
theorem dX3_init_65 : decode cX3_init 65 = .ok (.iinc 1 1, 3) := by decide +kernel
theorem dX3_init_68 : decode cX3_init 68 = .ok (.goto (-22), 3) := by decide +kernel
theorem dX3_init_71 : decode cX3_init 71 = .ok (.aload_n 0, 1) := by decide +kernel
theorem dX3_init_72 : decode cX3_init 72 = .ok (.iconst 4, 1) := by decide +kernel
theorem dX3_init_73 : decode cX3_init 73 = .ok (.anewarray 38, 3) := by decide +kernel
theorem dX3_init_76 : decode cX3_init 76 = .ok (.putfield 40, 3) := by decide +kernel
theorem dX3_init_79 : decode cX3_init 79 = .ok (.iconst 0, 1) := by decide +kernel
theorem dX3_init_80 : decode cX3_init 80 = .ok (.istore_n 1, 1) := by decide +kernel
theorem dX3_init_81 : decode cX3_init 81 = .ok (.iload_n 1, 1) := by decide +kernel
theorem dX3_init_82 : decode cX3_init 82 = .ok (.iconst 4, 1) := by decide +kernel
theorem dX3_init_83 : decode cX3_init 83 = .ok (.if_icmp .ge 22, 3) := by decide +kernel
theorem dX3_init_86 : decode cX3_init 86 = .ok (.aload_n 0, 1) := by decide +kernel
theorem dX3_init_87 : decode cX3_init 87 = .ok (.getfield 40, 3) := by decide +kernel
theorem dX3_init_90 : decode cX3_init 90 = .ok (.iload_n 1, 1) := by decide +kernel
theorem dX3_init_91 : decode cX3_init 91 = .ok (.new 38, 3) := by decide +kernel
theorem dX3_init_94 : decode cX3_init 94 = .ok (.dup, 1) := by decide +kernel
theorem dX3_init_95 : decode cX3_init 95 = .ok (.invokespecial 44, 3) := by decide +kernel
theorem dX3_init_98 : decode cX3_init 98 = .ok (.aastore, 1) := by decide +kernel
theorem dX3_init_99 : decode cX3_init 99 = .ok (.iinc 1 1, 3) := by decide +kernel
theorem dX3_init_102 : decode cX3_init 102 = .ok (.goto (-21), 3) := by decide +kernel
theorem dX3_init_105 : decode cX3_init 105 = .ok (.aload_n 0, 1) := by decide +kernel
theorem dX3_init_106 : decode cX3_init 106 = .ok (.new 45, 3) := by decide +kernel
theorem dX3_init_109 : decode cX3_init 109 = .ok (.dup, 1) := by decide +kernel
theorem dX3_init_110 : decode cX3_init 110 = .ok (.invokespecial 47, 3) := by decide +kernel
theorem dX3_init_113 : decode cX3_init 113 = .ok (.putfield 48, 3) := by decide +kernel
theorem dX3_init_116 : decode cX3_init 116 = .ok (.aload_n 0, 1) := by decide +kernel
theorem dX3_init_117 : decode cX3_init 117 = .ok (.iconst 0, 1) := by decide +kernel
theorem dX3_init_118 : decode cX3_init 118 = .ok (.putfield 52, 3) := by decide +kernel
theorem dX3_init_121 : decode cX3_init 121 = .ok (.aload_n 0, 1) := by decide +kernel
theorem dX3_init_122 : decode cX3_init 122 = .ok (.bipush 8, 2) := by decide +kernel
theorem dX3_init_124 : decode cX3_init 124 = .ok (.newarray .int, 2) := by decide +kernel
theorem dX3_init_126 : decode cX3_init 126 = .ok (.putfield 55, 3) := by decide +kernel
theorem dX3_init_129 : decode cX3_init 129 = .ok (.return_, 1) := by decide +kernel
set_option maxRecDepth 20000 in
theorem ggX3_copyFrom_X2_copyFrom : GoodIn wsX3_copyFrom wsX2_copyFrom := goodIn_r _ [14, 15, 16, 17, 18, 19, 20, 70, 71, 72, 73, 74, 75] (by decide +kernel) (by decide +kernel)
set_option maxRecDepth 20000 in
theorem gX3_copyFrom_X2_copyFrom : GoodIn wsX3_copyFrom (wsV RX3 59 RX2 yX2_copyFrom wsX2_copyFrom) := goodIn_app (goodIn_of _ (by decide +kernel)) ggX3_copyFrom_X2_copyFrom
set_option maxRecDepth 20000 in
theorem ggX3_copyFrom_X0_copyFrom : GoodIn wsX3_copyFrom wsX0_copyFrom := goodIn_r _ [25, 26, 27, 28, 29, 30, 31, 32, 33, 34, 76, 77, 78, 79, 80] (by decide +kernel) (by decide +kernel)
set_option maxRecDepth 20000 in
theorem gX3_copyFrom_X0_copyFrom : GoodIn wsX3_copyFrom (wsV RX3 63 RX0 yX0_copyFrom wsX0_copyFrom) := goodIn_app (goodIn_of _ (by decide +kernel)) ggX3_copyFrom_X0_copyFrom
set_option maxRecDepth 20000 in
theorem ggX3_copyFrom_X1_copyFrom : GoodIn wsX3_copyFrom wsX1_copyFrom := goodIn_r _ [39, 40, 41, 42, 43, 44, 45, 46, 31, 32, 33, 47, 48, 49, 50, 81, 82, 83, 84, 85, 86, 87, 88, 89, 90] (by decide +kernel) (by decide +kernel)
set_option maxRecDepth 20000 in
theorem gX3_copyFrom_X1_copyFrom : GoodIn wsX3_copyFrom (wsV RX3 66 RX1 yX1_copyFrom wsX1_copyFrom) := goodIn_app (goodIn_of _ (by decide +kernel)) ggX3_copyFrom_X1_copyFrom
set_option maxRecDepth 20000 in
theorem ggX3_copyFrom_X3_collectCandidates : GoodIn wsX3_copyFrom wsX3_collectCandidates := goodIn_r _ [55, 56, 5, 7, 57, 58, 59, 60, 61, 62, 63, 64, 65, 66, 67, 68, 69, 70, 71, 72, 73, 74, 75] (by decide +kernel) (by decide +kernel)
set_option maxRecDepth 20000 in
theorem gX3_copyFrom_X3_collectCandidates : GoodIn wsX3_copyFrom (wsV RX3 69 RX3 yX3_collectCandidates wsX3_collectCandidates) := goodIn_app (goodIn_of _ (by decide +kernel)) ggX3_copyFrom_X3_collectCandidates
theorem dX3_copyFrom_0 : decode cX3_copyFrom 0 = .ok (.aload_n 0, 1) := by decide +kernel
theorem dX3_copyFrom_1 : decode cX3_copyFrom 1 = .ok (.aload_n 1, 1) := by decide +kernel
theorem dX3_copyFrom_2 : decode cX3_copyFrom 2 = .ok (.getfield 9, 3) := by decide +kernel
theorem dX3_copyFrom_5 : decode cX3_copyFrom 5 = .ok (.putfield 9, 3) := by decide +kernel
theorem dX3_copyFrom_8 : decode cX3_copyFrom 8 = .ok (.aload_n 0, 1) := by decide +kernel
theorem dX3_copyFrom_9 : decode cX3_copyFrom 9 = .ok (.aload_n 1, 1) := by decide +kernel
theorem dX3_copyFrom_10 : decode cX3_copyFrom 10 = .ok (.getfield 15, 3) := by decide +kernel
theorem dX3_copyFrom_13 : decode cX3_copyFrom 13 = .ok (.putfield 15, 3) := by decide +kernel
theorem dX3_copyFrom_16 : decode cX3_copyFrom 16 = .ok (.aload_n 0, 1) := by decide +kernel
theorem dX3_copyFrom_17 : decode cX3_copyFrom 17 = .ok (.aload_n 1, 1) := by decide +kernel
theorem dX3_copyFrom_18 : decode cX3_copyFrom 18 = .ok (.getfield 19, 3) := by decide +kernel
theorem dX3_copyFrom_21 : decode cX3_copyFrom 21 = .ok (.putfield 19, 3) := by decide +kernel
theorem dX3_copyFrom_24 : decode cX3_copyFrom 24 = .ok (.aload_n 0, 1) := by decide +kernel
theorem dX3_copyFrom_25 : decode cX3_copyFrom 25 = .ok (.aload_n 1, 1) := by decide +kernel
theorem dX3_copyFrom_26 : decode cX3_copyFrom 26 = .ok (.getfield 22, 3) := by decide +kernel
theorem dX3_copyFrom_29 : decode cX3_copyFrom 29 = .ok (.putfield 22, 3) := by decide +kernel
theorem dX3_copyFrom_32 : decode cX3_copyFrom 32 = .ok (.aload_n 0, 1) := by decide +kernel
theorem dX3_copyFrom_33 : decode cX3_copyFrom 33 = .ok (.aload_n 1, 1) := by decide +kernel
theorem dX3_copyFrom_34 : decode cX3_copyFrom 34 = .ok (.getfield 25, 3) := by decide +kernel
theorem dX3_copyFrom_37 : decode cX3_copyFrom 37 = .ok (.putfield 25, 3) := by decide +kernel
theorem dX3_copyFrom_40 : decode cX3_copyFrom 40 = .ok (.aload_n 0, 1) := by decide +kernel
theorem dX3_copyFrom_41 : decode cX3_copyFrom 41 = .ok (.aload_n 1, 1) := by decide +kernel
theorem dX3_copyFrom_42 : decode cX3_copyFrom 42 = .ok (.getfield 28, 3) := by decide +kernel
theorem dX3_copyFrom_45 : decode cX3_copyFrom 45 = .ok (.putfield 28, 3) := by decide +kernel
theorem dX3_copyFrom_48 : decode cX3_copyFrom 48 = .ok (.iconst 0, 1) := by decide +kernel
theorem dX3_copyFrom_49 : decode cX3_copyFrom 49 = .ok (.istore_n 2, 1) := by decide +kernel
theorem dX3_copyFrom_50 : decode cX3_copyFrom 50 = .ok (.iload_n 2, 1) := by decide +kernel
theorem dX3_copyFrom_51 : decode cX3_copyFrom 51 = .ok (.bipush 8, 2) := by decide +kernel
theorem dX3_copyFrom_53 : decode cX3_copyFrom 53 = .ok (.if_icmp .ge 24, 3) := by decide +kernel
theorem dX3_copyFrom_56 : decode cX3_copyFrom 56 = .ok (.aload_n 0, 1) := by decide +kernel
theorem dX3_copyFrom_57 : decode cX3_copyFrom 57 = .ok (.getfield 33, 3) := by decide +kernel
theorem dX3_copyFrom_60 : decode cX3_copyFrom 60 = .ok (.iload_n 2, 1) := by decide +kernel
theorem dX3_copyFrom_61 : decode cX3_copyFrom 61 = .ok (.aaload, 1) := by decide +kernel
theorem dX3_copyFrom_62 : decode cX3_copyFrom 62 = .ok (.aload_n 1, 1) := by decide +kernel
theorem dX3_copyFrom_63 : decode cX3_copyFrom 63 = .ok (.getfield 33, 3) := by decide +kernel
theorem dX3_copyFrom_66 : decode cX3_copyFrom 66 = .ok (.iload_n 2, 1) := by decide +kernel
theorem dX3_copyFrom_67 : decode cX3_copyFrom 67 = .ok (.aaload, 1) := by decide +kernel
theorem dX3_copyFrom_68 : decode cX3_copyFrom 68 = .ok (.invokevirtual 59, 3) := by decide +kernel
theorem dX3_copyFrom_71 : decode cX3_copyFrom 71 = .ok (.iinc 2 1, 3) := by decide +kernel
theorem dX3_copyFrom_74 : decode cX3_copyFrom 74 = .ok (.goto (-24), 3) := by decide +kernel
theorem dX3_copyFrom_77 : decode cX3_copyFrom 77 = .ok (.iconst 0, 1) := by decide +kernel
theorem dX3_copyFrom_78 : decode cX3_copyFrom 78 = .ok (.istore_n 2, 1) := by decide +kernel
theorem dX3_copyFrom_79 : decode cX3_copyFrom 79 = .ok (.iload_n 2, 1) := by decide +kernel
theorem dX3_copyFrom_80 : decode cX3_copyFrom 80 = .ok (.iconst 4, 1) := by decide +kernel
theorem dX3_copyFrom_81 : decode cX3_copyFrom 81 = .ok (.if_icmp .ge 24, 3) := by decide +kernel
theorem dX3_copyFrom_84 : decode cX3_copyFrom 84 = .ok (.aload_n 0, 1) := by decide +kernel
theorem dX3_copyFrom_85 : decode cX3_copyFrom 85 = .ok (.getfield 40, 3) := by decide +kernel
theorem dX3_copyFrom_88 : decode cX3_copyFrom 88 = .ok (.iload_n 2, 1) := by decide +kernel
theorem dX3_copyFrom_89 : decode cX3_copyFrom 89 = .ok (.aaload, 1) := by decide +kernel
theorem dX3_copyFrom_90 : decode cX3_copyFrom 90 = .ok (.aload_n 1, 1) := by decide +kernel
theorem dX3_copyFrom_91 : decode cX3_copyFrom 91 = .ok (.getfield 40, 3) := by decide +kernel
theorem dX3_copyFrom_94 : decode cX3_copyFrom 94 = .ok (.iload_n 2, 1) := by decide +kernel
theorem dX3_copyFrom_95 : decode cX3_copyFrom 95 = .ok (.aaload, 1) := by decide +kernel
theorem dX3_copyFrom_96 : decode cX3_copyFrom 96 = .ok (.invokevirtual 63, 3) := by decide +kernel
theorem dX3_copyFrom_99 : decode cX3_copyFrom 99 = .ok (.iinc 2 1, 3) := by decide +kernel
theorem dX3_copyFrom_102 : decode cX3_copyFrom 102 = .ok (.goto (-23), 3) := by decide +kernel
theorem dX3_copyFrom_105 : decode cX3_copyFrom 105 = .ok (.aload_n 0, 1) := by decide +kernel
theorem dX3_copyFrom_106 : decode cX3_copyFrom 106 = .ok (.getfield 48, 3) := by decide +kernel
theorem dX3_copyFrom_109 : decode cX3_copyFrom 109 = .ok (.aload_n 1, 1) := by decide +kernel
theorem dX3_copyFrom_110 : decode cX3_copyFrom 110 = .ok (.getfield 48, 3) := by decide +kernel
theorem dX3_copyFrom_113 : decode cX3_copyFrom 113 = .ok (.invokevirtual 66, 3) := by decide +kernel
theorem dX3_copyFrom_116 : decode cX3_copyFrom 116 = .ok (.aload_n 0, 1) := by decide +kernel
theorem dX3_copyFrom_117 : decode cX3_copyFrom 117 = .ok (.invokevirtual 69, 3) := by decide +kernel
theorem dX3_copyFrom_120 : decode cX3_copyFrom 120 = .ok (.return_, 1) := by decide +kernel
set_option maxRecDepth 20000 in
theorem ggX3_openServer_X3_collectCandidates : GoodIn wsX3_openServer wsX3_collectCandidates := goodIn_r _ [6, 7, 1, 8, 9, 10, 40, 41, 42, 43, 44, 45, 46, 47, 48, 49, 50, 51, 52, 53, 54, 55, 56] (by decide +kernel) (by decide +kernel)
set_option maxRecDepth 20000 in
theorem gX3_openServer_X3_collectCandidates : GoodIn wsX3_openServer (wsV RX3 69 RX3 yX3_collectCandidates wsX3_collectCandidates) := goodIn_app (goodIn_of _ (by decide +kernel)) ggX3_openServer_X3_collectCandidates
set_option maxRecDepth 20000 in
theorem ggX3_openServer_X3_register : GoodIn wsX3_openServer wsX3_register := goodIn_r _ [14, 15, 16, 8, 17, 18, 19, 20, 5, 21, 22, 23, 24, 25, 26, 27, 28, 29, 30, 31, 32, 33, 34, 35, 36, 37, 38, 39, 40, 41, 42, 43, 44, 45, 46, 47, 48, 49, 50, 51, 52, 53, 54, 55, 56, 57, 58, 59, 60, 61] (by decide +kernel) (by decide +kernel)
set_option maxRecDepth 20000 in
theorem gX3_openServer_X3_register : GoodIn wsX3_openServer (wsV RX3 72 RX3 yX3_register wsX3_register) := goodIn_app (goodIn_of _ (by decide +kernel)) ggX3_openServer_X3_register
theorem dX3_openServer_0 : decode cX3_openServer 0 = .ok (.aload_n 0, 1) := by decide +kernel
theorem dX3_openServer_1 : decode cX3_openServer 1 = .ok (.getfield 25, 3) := by decide +kernel
theorem dX3_openServer_4 : decode cX3_openServer 4 = .ok (.istore_n 1, 1) := by decide +kernel
theorem dX3_openServer_5 : decode cX3_openServer 5 = .ok (.aload_n 0, 1) := by decide +kernel
theorem dX3_openServer_6 : decode cX3_openServer 6 = .ok (.dup, 1) := by decide +kernel
theorem dX3_openServer_7 : decode cX3_openServer 7 = .ok (.getfield 25, 3) := by decide +kernel
theorem dX3_openServer_10 : decode cX3_openServer 10 = .ok (.iconst 1, 1) := by decide +kernel
theorem dX3_openServer_11 : decode cX3_openServer 11 = .ok (.iadd, 1) := by decide +kernel
theorem dX3_openServer_12 : decode cX3_openServer 12 = .ok (.putfield 25, 3) := by decide +kernel
theorem dX3_openServer_15 : decode cX3_openServer 15 = .ok (.aload_n 0, 1) := by decide +kernel
theorem dX3_openServer_16 : decode cX3_openServer 16 = .ok (.invokevirtual 69, 3) := by decide +kernel
theorem dX3_openServer_19 : decode cX3_openServer 19 = .ok (.aload_n 0, 1) := by decide +kernel
theorem dX3_openServer_20 : decode cX3_openServer 20 = .ok (.iload_n 1, 1) := by decide +kernel
theorem dX3_openServer_21 : decode cX3_openServer 21 = .ok (.invokevirtual 72, 3) := by decide +kernel
theorem dX3_openServer_24 : decode cX3_openServer 24 = .ok (.iload_n 1, 1) := by decide +kernel
theorem dX3_openServer_25 : decode cX3_openServer 25 = .ok (.ireturn, 1) := by decide +kernel
theorem dX3_openDispatcher_0 : decode cX3_openDispatcher 0 = .ok (.aload_n 0, 1) := by decide +kernel
theorem dX3_openDispatcher_1 : decode cX3_openDispatcher 1 = .ok (.getfield 28, 3) := by decide +kernel
theorem dX3_openDispatcher_4 : decode cX3_openDispatcher 4 = .ok (.istore_n 2, 1) := by decide +kernel
theorem dX3_openDispatcher_5 : decode cX3_openDispatcher 5 = .ok (.aload_n 0, 1) := by decide +kernel
theorem dX3_openDispatcher_6 : decode cX3_openDispatcher 6 = .ok (.dup, 1) := by decide +kernel
theorem dX3_openDispatcher_7 : decode cX3_openDispatcher 7 = .ok (.getfield 28, 3) := by decide +kernel
theorem dX3_openDispatcher_10 : decode cX3_openDispatcher 10 = .ok (.iconst 1, 1) := by decide +kernel
theorem dX3_openDispatcher_11 : decode cX3_openDispatcher 11 = .ok (.iadd, 1) := by decide +kernel
theorem dX3_openDispatcher_12 : decode cX3_openDispatcher 12 = .ok (.putfield 28, 3) := by decide +kernel
theorem dX3_openDispatcher_15 : decode cX3_openDispatcher 15 = .ok (.aload_n 0, 1) := by decide +kernel
theorem dX3_openDispatcher_16 : decode cX3_openDispatcher 16 = .ok (.getfield 40, 3) := by decide +kernel
theorem dX3_openDispatcher_19 : decode cX3_openDispatcher 19 = .ok (.iload_n 2, 1) := by decide +kernel
theorem dX3_openDispatcher_20 : decode cX3_openDispatcher 20 = .ok (.aaload, 1) := by decide +kernel
theorem dX3_openDispatcher_21 : decode cX3_openDispatcher 21 = .ok (.iload_n 1, 1) := by decide +kernel
theorem dX3_openDispatcher_22 : decode cX3_openDispatcher 22 = .ok (.putfield 76, 3) := by decide +kernel
theorem dX3_openDispatcher_25 : decode cX3_openDispatcher 25 = .ok (.iload_n 2, 1) := by decide +kernel
theorem dX3_openDispatcher_26 : decode cX3_openDispatcher 26 = .ok (.ireturn, 1) := by decide +kernel
set_option maxRecDepth 20000 in
theorem ggX3_switchServer_X3_collectCandidates : GoodIn wsX3_switchServer wsX3_collectCandidates := goodIn_r _ [8, 9, 10, 1, 2, 11, 49, 50, 51, 52, 53, 54, 55, 56, 57, 58, 59, 60, 61, 62, 63, 64, 65] (by decide +kernel) (by decide +kernel)
set_option maxRecDepth 20000 in
theorem gX3_switchServer_X3_collectCandidates : GoodIn wsX3_switchServer (wsV RX3 69 RX3 yX3_collectCandidates wsX3_collectCandidates) := goodIn_app (goodIn_of _ (by decide +kernel)) ggX3_switchServer_X3_collectCandidates
set_option maxRecDepth 20000 in
theorem ggX3_switchServer_X3_leaveIdleList : GoodIn wsX3_switchServer wsX3_leaveIdleList := goodIn_r _ [15, 1, 16, 17, 18, 19, 20, 21, 22, 23, 24, 49, 50, 51, 52, 53, 54, 55, 56, 57, 58, 59, 60, 61, 62, 63, 64, 65, 66, 67, 68, 69, 70] (by decide +kernel) (by decide +kernel)
set_option maxRecDepth 20000 in
theorem gX3_switchServer_X3_leaveIdleList : GoodIn wsX3_switchServer (wsV RX3 83 RX3 yX3_leaveIdleList wsX3_leaveIdleList) := goodIn_app (goodIn_of _ (by decide +kernel)) ggX3_switchServer_X3_leaveIdleList
set_option maxRecDepth 20000 in
theorem ggX3_switchServer_X3_register : GoodIn wsX3_switchServer wsX3_register := goodIn_r _ [28, 29, 17, 1, 16, 30, 31, 32, 7, 33, 34, 35, 36, 37, 38, 39, 40, 41, 42, 43, 44, 45, 46, 47, 21, 48, 23, 24, 49, 50, 51, 52, 53, 54, 55, 56, 57, 58, 59, 60, 61, 62, 63, 64, 65, 66, 67, 68, 69, 70] (by decide +kernel) (by decide +kernel)
set_option maxRecDepth 20000 in
theorem gX3_switchServer_X3_register : GoodIn wsX3_switchServer (wsV RX3 72 RX3 yX3_register wsX3_register) := goodIn_app (goodIn_of _ (by decide +kernel)) ggX3_switchServer_X3_register
theorem dX3_switchServer_0 : decode cX3_switchServer 0 = .ok (.aload_n 0, 1) := by decide +kernel
theorem dX3_switchServer_1 : decode cX3_switchServer 1 = .ok (.getfield 33, 3) := by decide +kernel
theorem dX3_switchServer_4 : decode cX3_switchServer 4 = .ok (.iload_n 1, 1) := by decide +kernel
theorem dX3_switchServer_5 : decode cX3_switchServer 5 = .ok (.aaload, 1) := by decide +kernel
theorem dX3_switchServer_6 : decode cX3_switchServer 6 = .ok (.astore_n 3, 1) := by decide +kernel
theorem dX3_switchServer_7 : decode cX3_switchServer 7 = .ok (.aload_n 3, 1) := by decide +kernel
theorem dX3_switchServer_8 : decode cX3_switchServer 8 = .ok (.getfield 79, 3) := by decide +kernel
theorem dX3_switchServer_11 : decode cX3_switchServer 11 = .ok (.istore 4, 2) := by decide +kernel
theorem dX3_switchServer_13 : decode cX3_switchServer 13 = .ok (.aload_n 3, 1) := by decide +kernel
theorem dX3_switchServer_14 : decode cX3_switchServer 14 = .ok (.iload_n 2, 1) := by decide +kernel
theorem dX3_switchServer_15 : decode cX3_switchServer 15 = .ok (.putfield 79, 3) := by decide +kernel
theorem dX3_switchServer_18 : decode cX3_switchServer 18 = .ok (.aload_n 0, 1) := by decide +kernel
theorem dX3_switchServer_19 : decode cX3_switchServer 19 = .ok (.invokevirtual 69, 3) := by decide +kernel
theorem dX3_switchServer_22 : decode cX3_switchServer 22 = .ok (.iload_n 2, 1) := by decide +kernel
theorem dX3_switchServer_23 : decode cX3_switchServer 23 = .ok (.ifCond .ne 11, 3) := by decide +kernel
theorem dX3_switchServer_26 : decode cX3_switchServer 26 = .ok (.aload_n 0, 1) := by decide +kernel
theorem dX3_switchServer_27 : decode cX3_switchServer 27 = .ok (.iload_n 1, 1) := by decide +kernel
theorem dX3_switchServer_28 : decode cX3_switchServer 28 = .ok (.invokevirtual 83, 3) := by decide +kernel
theorem dX3_switchServer_31 : decode cX3_switchServer 31 = .ok (.goto 20, 3) := by decide +kernel
theorem dX3_switchServer_34 : decode cX3_switchServer 34 = .ok (.iload 4, 2) := by decide +kernel
theorem dX3_switchServer_36 : decode cX3_switchServer 36 = .ok (.ifCond .ne 15, 3) := by decide +kernel
theorem dX3_switchServer_39 : decode cX3_switchServer 39 = .ok (.aload_n 3, 1) := by decide +kernel
theorem dX3_switchServer_40 : decode cX3_switchServer 40 = .ok (.getfield 86, 3) := by decide +kernel
theorem dX3_switchServer_43 : decode cX3_switchServer 43 = .ok (.ifCond .ne 8, 3) := by decide +kernel
theorem dX3_switchServer_46 : decode cX3_switchServer 46 = .ok (.aload_n 0, 1) := by decide +kernel
theorem dX3_switchServer_47 : decode cX3_switchServer 47 = .ok (.iload_n 1, 1) := by decide +kernel
theorem dX3_switchServer_48 : decode cX3_switchServer 48 = .ok (.invokevirtual 72, 3) := by decide +kernel
theorem dX3_switchServer_51 : decode cX3_switchServer 51 = .ok (.iload 4, 2) := by decide +kernel
theorem dX3_switchServer_53 : decode cX3_switchServer 53 = .ok (.ireturn, 1) := by decide +kernel
theorem dX3_draw_0 : decode cX3_draw 0 = .ok (.aload_n 0, 1) := by decide +kernel
theorem dX3_draw_1 : decode cX3_draw 1 = .ok (.aload_n 0, 1) := by decide +kernel
theorem dX3_draw_2 : decode cX3_draw 2 = .ok (.getfield 15, 3) := by decide +kernel
theorem dX3_draw_5 : decode cX3_draw 5 = .ok (.ldc2_w 89, 3) := by decide +kernel
theorem dX3_draw_8 : decode cX3_draw 8 = .ok (.lmul, 1) := by decide +kernel
theorem dX3_draw_9 : decode cX3_draw 9 = .ok (.ldc2_w 91, 3) := by decide +kernel
theorem dX3_draw_12 : decode cX3_draw 12 = .ok (.ladd, 1) := by decide +kernel
theorem dX3_draw_13 : decode cX3_draw 13 = .ok (.ldc2_w 93, 3) := by decide +kernel
theorem dX3_draw_16 : decode cX3_draw 16 = .ok (.lrem, 1) := by decide +kernel
theorem dX3_draw_17 : decode cX3_draw 17 = .ok (.putfield 15, 3) := by decide +kernel
theorem dX3_draw_20 : decode cX3_draw 20 = .ok (.iload_n 1, 1) := by decide +kernel
theorem dX3_draw_21 : decode cX3_draw 21 = .ok (.iconst 1, 1) := by decide +kernel
theorem dX3_draw_22 : decode cX3_draw 22 = .ok (.if_icmp .ge 7, 3) := by decide +kernel
theorem dX3_draw_25 : decode cX3_draw 25 = .ok (.iconst 0, 1) := by decide +kernel
theorem dX3_draw_26 : decode cX3_draw 26 = .ok (.goto 15, 3) := by decide +kernel
theorem dX3_draw_29 : decode cX3_draw 29 = .ok (.aload_n 0, 1) := by decide +kernel
theorem dX3_draw_30 : decode cX3_draw 30 = .ok (.getfield 15, 3) := by decide +kernel
theorem dX3_draw_33 : decode cX3_draw 33 = .ok (.ldc2_w 95, 3) := by decide +kernel
theorem dX3_draw_36 : decode cX3_draw 36 = .ok (.ldiv, 1) := by decide +kernel
theorem dX3_draw_37 : decode cX3_draw 37 = .ok (.iload_n 1, 1) := by decide +kernel
theorem dX3_draw_38 : decode cX3_draw 38 = .ok (.i2l, 1) := by decide +kernel
theorem dX3_draw_39 : decode cX3_draw 39 = .ok (.lrem, 1) := by decide +kernel
theorem dX3_draw_40 : decode cX3_draw 40 = .ok (.l2i, 1) := by decide +kernel
theorem dX3_draw_41 : decode cX3_draw 41 = .ok (.ireturn, 1) := by decide +kernel
set_option maxRecDepth 20000 in
theorem ggX3_register_X3_chooseList : GoodIn wsX3_register wsX3_chooseList := goodIn_r _ [9, 10, 1, 2, 11, 12, 13, 14, 8, 15, 16, 17, 18, 19, 20, 28, 29, 30, 31, 32, 33, 34, 35, 36, 37, 38, 45, 46, 47, 48, 49] (by decide +kernel) (by decide +kernel)
set_option maxRecDepth 20000 in
theorem gX3_register_X3_chooseList : GoodIn wsX3_register (wsV RX3 97 RX3 yX3_chooseList wsX3_chooseList) := goodIn_app (goodIn_of _ (by decide +kernel)) ggX3_register_X3_chooseList
set_option maxRecDepth 20000 in
theorem ggX3_register_X0_appendIdle : GoodIn wsX3_register wsX0_appendIdle := goodIn_r _ [25, 26, 27, 45, 46, 47, 48, 49] (by decide +kernel) (by decide +kernel)
set_option maxRecDepth 20000 in
theorem gX3_register_X0_appendIdle : GoodIn wsX3_register (wsV RX3 101 RX0 yX0_appendIdle wsX0_appendIdle) := goodIn_app (goodIn_of _ (by decide +kernel)) ggX3_register_X0_appendIdle
theorem dX3_register_0 : decode cX3_register 0 = .ok (.aload_n 0, 1) := by decide +kernel
theorem dX3_register_1 : decode cX3_register 1 = .ok (.getfield 28, 3) := by decide +kernel
theorem dX3_register_4 : decode cX3_register 4 = .ok (.iconst 1, 1) := by decide +kernel
theorem dX3_register_5 : decode cX3_register 5 = .ok (.if_icmp .ge 4, 3) := by decide +kernel
theorem dX3_register_8 : decode cX3_register 8 = .ok (.return_, 1) := by decide +kernel
theorem dX3_register_9 : decode cX3_register 9 = .ok (.aload_n 0, 1) := by decide +kernel
theorem dX3_register_10 : decode cX3_register 10 = .ok (.iload_n 1, 1) := by decide +kernel
theorem dX3_register_11 : decode cX3_register 11 = .ok (.invokevirtual 97, 3) := by decide +kernel
theorem dX3_register_14 : decode cX3_register 14 = .ok (.istore_n 2, 1) := by decide +kernel
theorem dX3_register_15 : decode cX3_register 15 = .ok (.aload_n 0, 1) := by decide +kernel
theorem dX3_register_16 : decode cX3_register 16 = .ok (.getfield 40, 3) := by decide +kernel
theorem dX3_register_19 : decode cX3_register 19 = .ok (.iload_n 2, 1) := by decide +kernel
theorem dX3_register_20 : decode cX3_register 20 = .ok (.aaload, 1) := by decide +kernel
theorem dX3_register_21 : decode cX3_register 21 = .ok (.iload_n 1, 1) := by decide +kernel
theorem dX3_register_22 : decode cX3_register 22 = .ok (.invokevirtual 101, 3) := by decide +kernel
theorem dX3_register_25 : decode cX3_register 25 = .ok (.aload_n 0, 1) := by decide +kernel
theorem dX3_register_26 : decode cX3_register 26 = .ok (.getfield 33, 3) := by decide +kernel
theorem dX3_register_29 : decode cX3_register 29 = .ok (.iload_n 1, 1) := by decide +kernel
theorem dX3_register_30 : decode cX3_register 30 = .ok (.aaload, 1) := by decide +kernel
theorem dX3_register_31 : decode cX3_register 31 = .ok (.iload_n 2, 1) := by decide +kernel
theorem dX3_register_32 : decode cX3_register 32 = .ok (.putfield 104, 3) := by decide +kernel
theorem dX3_register_35 : decode cX3_register 35 = .ok (.return_, 1) := by decide +kernel
set_option maxRecDepth 20000 in
theorem ggX3_chooseList_X3_draw : GoodIn wsX3_chooseList wsX3_draw := goodIn_r _ [9, 10, 11, 12, 13, 14, 15, 16, 17, 18, 19, 20, 21, 22, 23, 24, 25] (by decide +kernel) (by decide +kernel)
set_option maxRecDepth 20000 in
theorem gX3_chooseList_X3_draw : GoodIn wsX3_chooseList (wsV RX3 107 RX3 yX3_draw wsX3_draw) := goodIn_app (goodIn_of _ (by decide +kernel)) ggX3_chooseList_X3_draw
theorem dX3_chooseList_0 : decode cX3_chooseList 0 = .ok (.aload_n 0, 1) := by decide +kernel
theorem dX3_chooseList_1 : decode cX3_chooseList 1 = .ok (.getfield 19, 3) := by decide +kernel
theorem dX3_chooseList_4 : decode cX3_chooseList 4 = .ok (.iconst 2, 1) := by decide +kernel
theorem dX3_chooseList_5 : decode cX3_chooseList 5 = .ok (.if_icmp .ne 22, 3) := by decide +kernel
theorem dX3_chooseList_8 : decode cX3_chooseList 8 = .ok (.aload_n 0, 1) := by decide +kernel
theorem dX3_chooseList_9 : decode cX3_chooseList 9 = .ok (.getfield 28, 3) := by decide +kernel
theorem dX3_chooseList_12 : decode cX3_chooseList 12 = .ok (.iconst 1, 1) := by decide +kernel
theorem dX3_chooseList_13 : decode cX3_chooseList 13 = .ok (.if_icmp .ge 7, 3) := by decide +kernel
theorem dX3_chooseList_16 : decode cX3_chooseList 16 = .ok (.iconst 0, 1) := by decide +kernel
theorem dX3_chooseList_17 : decode cX3_chooseList 17 = .ok (.goto 9, 3) := by decide +kernel
theorem dX3_chooseList_20 : decode cX3_chooseList 20 = .ok (.iload_n 1, 1) := by decide +kernel
theorem dX3_chooseList_21 : decode cX3_chooseList 21 = .ok (.aload_n 0, 1) := by decide +kernel
theorem dX3_chooseList_22 : decode cX3_chooseList 22 = .ok (.getfield 28, 3) := by decide +kernel
theorem dX3_chooseList_25 : decode cX3_chooseList 25 = .ok (.irem, 1) := by decide +kernel
theorem dX3_chooseList_26 : decode cX3_chooseList 26 = .ok (.ireturn, 1) := by decide +kernel
theorem dX3_chooseList_27 : decode cX3_chooseList 27 = .ok (.aload_n 0, 1) := by decide +kernel
theorem dX3_chooseList_28 : decode cX3_chooseList 28 = .ok (.aload_n 0, 1) := by decide +kernel
theorem dX3_chooseList_29 : decode cX3_chooseList 29 = .ok (.getfield 28, 3) := by decide +kernel
theorem dX3_chooseList_32 : decode cX3_chooseList 32 = .ok (.invokevirtual 107, 3) := by decide +kernel
theorem dX3_chooseList_35 : decode cX3_chooseList 35 = .ok (.istore_n 2, 1) := by decide +kernel
theorem dX3_chooseList_36 : decode cX3_chooseList 36 = .ok (.aload_n 0, 1) := by decide +kernel
theorem dX3_chooseList_37 : decode cX3_chooseList 37 = .ok (.getfield 19, 3) := by decide +kernel
theorem dX3_chooseList_40 : decode cX3_chooseList 40 = .ok (.iconst 1, 1) := by decide +kernel
theorem dX3_chooseList_41 : decode cX3_chooseList 41 = .ok (.if_icmp .eq 5, 3) := by decide +kernel
theorem dX3_chooseList_44 : decode cX3_chooseList 44 = .ok (.iload_n 2, 1) := by decide +kernel
theorem dX3_chooseList_45 : decode cX3_chooseList 45 = .ok (.ireturn, 1) := by decide +kernel
theorem dX3_chooseList_46 : decode cX3_chooseList 46 = .ok (.aload_n 0, 1) := by decide +kernel
theorem dX3_chooseList_47 : decode cX3_chooseList 47 = .ok (.aload_n 0, 1) := by decide +kernel
theorem dX3_chooseList_48 : decode cX3_chooseList 48 = .ok (.getfield 28, 3) := by decide +kernel
theorem dX3_chooseList_51 : decode cX3_chooseList 51 = .ok (.invokevirtual 107, 3) := by decide +kernel
theorem dX3_chooseList_54 : decode cX3_chooseList 54 = .ok (.istore_n 3, 1) := by decide +kernel
theorem dX3_chooseList_55 : decode cX3_chooseList 55 = .ok (.aload_n 0, 1) := by decide +kernel
theorem dX3_chooseList_56 : decode cX3_chooseList 56 = .ok (.getfield 40, 3) := by decide +kernel
theorem dX3_chooseList_59 : decode cX3_chooseList 59 = .ok (.iload_n 3, 1) := by decide +kernel
theorem dX3_chooseList_60 : decode cX3_chooseList 60 = .ok (.aaload, 1) := by decide +kernel
theorem dX3_chooseList_61 : decode cX3_chooseList 61 = .ok (.getfield 110, 3) := by decide +kernel
theorem dX3_chooseList_64 : decode cX3_chooseList 64 = .ok (.aload_n 0, 1) := by decide +kernel
theorem dX3_chooseList_65 : decode cX3_chooseList 65 = .ok (.getfield 40, 3) := by decide +kernel
theorem dX3_chooseList_68 : decode cX3_chooseList 68 = .ok (.iload_n 2, 1) := by decide +kernel
theorem dX3_chooseList_69 : decode cX3_chooseList 69 = .ok (.aaload, 1) := by decide +kernel
theorem dX3_chooseList_70 : decode cX3_chooseList 70 = .ok (.getfield 110, 3) := by decide +kernel
theorem dX3_chooseList_73 : decode cX3_chooseList 73 = .ok (.if_icmp .ge 7, 3) := by decide +kernel
theorem dX3_chooseList_76 : decode cX3_chooseList 76 = .ok (.iload_n 3, 1) := by decide +kernel
theorem dX3_chooseList_77 : decode cX3_chooseList 77 = .ok (.goto 4, 3) := by decide +kernel
theorem dX3_chooseList_80 : decode cX3_chooseList 80 = .ok (.iload_n 2, 1) := by decide +kernel
theorem dX3_chooseList_81 : decode cX3_chooseList 81 = .ok (.ireturn, 1) := by decide +kernel
set_option maxRecDepth 20000 in
theorem ggX3_leaveIdleList_X0_removeIdle : GoodIn wsX3_leaveIdleList wsX0_removeIdle := goodIn_r _ [8, 9, 10, 28, 29, 30, 31, 32] (by decide +kernel) (by decide +kernel)
set_option maxRecDepth 20000 in
theorem gX3_leaveIdleList_X0_removeIdle : GoodIn wsX3_leaveIdleList (wsV RX3 113 RX0 yX0_removeIdle wsX0_removeIdle) := goodIn_app (goodIn_of _ (by decide +kernel)) ggX3_leaveIdleList_X0_removeIdle
theorem dX3_leaveIdleList_0 : decode cX3_leaveIdleList 0 = .ok (.aload_n 0, 1) := by decide +kernel
theorem dX3_leaveIdleList_1 : decode cX3_leaveIdleList 1 = .ok (.getfield 33, 3) := by decide +kernel
theorem dX3_leaveIdleList_4 : decode cX3_leaveIdleList 4 = .ok (.iload_n 1, 1) := by decide +kernel
theorem dX3_leaveIdleList_5 : decode cX3_leaveIdleList 5 = .ok (.aaload, 1) := by decide +kernel
theorem dX3_leaveIdleList_6 : decode cX3_leaveIdleList 6 = .ok (.getfield 104, 3) := by decide +kernel
theorem dX3_leaveIdleList_9 : decode cX3_leaveIdleList 9 = .ok (.istore_n 2, 1) := by decide +kernel
theorem dX3_leaveIdleList_10 : decode cX3_leaveIdleList 10 = .ok (.iload_n 2, 1) := by decide +kernel
theorem dX3_leaveIdleList_11 : decode cX3_leaveIdleList 11 = .ok (.iconst (-1), 1) := by decide +kernel
theorem dX3_leaveIdleList_12 : decode cX3_leaveIdleList 12 = .ok (.if_icmp .eq 23, 3) := by decide +kernel
theorem dX3_leaveIdleList_15 : decode cX3_leaveIdleList 15 = .ok (.aload_n 0, 1) := by decide +kernel
theorem dX3_leaveIdleList_16 : decode cX3_leaveIdleList 16 = .ok (.getfield 40, 3) := by decide +kernel
theorem dX3_leaveIdleList_19 : decode cX3_leaveIdleList 19 = .ok (.iload_n 2, 1) := by decide +kernel
theorem dX3_leaveIdleList_20 : decode cX3_leaveIdleList 20 = .ok (.aaload, 1) := by decide +kernel
theorem dX3_leaveIdleList_21 : decode cX3_leaveIdleList 21 = .ok (.iload_n 1, 1) := by decide +kernel
theorem dX3_leaveIdleList_22 : decode cX3_leaveIdleList 22 = .ok (.invokevirtual 113, 3) := by decide +kernel
theorem dX3_leaveIdleList_25 : decode cX3_leaveIdleList 25 = .ok (.aload_n 0, 1) := by decide +kernel
theorem dX3_leaveIdleList_26 : decode cX3_leaveIdleList 26 = .ok (.getfield 33, 3) := by decide +kernel
theorem dX3_leaveIdleList_29 : decode cX3_leaveIdleList 29 = .ok (.iload_n 1, 1) := by decide +kernel
theorem dX3_leaveIdleList_30 : decode cX3_leaveIdleList 30 = .ok (.aaload, 1) := by decide +kernel
theorem dX3_leaveIdleList_31 : decode cX3_leaveIdleList 31 = .ok (.iconst (-1), 1) := by decide +kernel
theorem dX3_leaveIdleList_32 : decode cX3_leaveIdleList 32 = .ok (.putfield 104, 3) := by decide +kernel
theorem dX3_leaveIdleList_35 : decode cX3_leaveIdleList 35 = .ok (.return_, 1) := by decide +kernel
theorem dX3_collectCandidates_0 : decode cX3_collectCandidates 0 = .ok (.aload_n 0, 1) := by decide +kernel
theorem dX3_collectCandidates_1 : decode cX3_collectCandidates 1 = .ok (.iconst 0, 1) := by decide +kernel
theorem dX3_collectCandidates_2 : decode cX3_collectCandidates 2 = .ok (.putfield 52, 3) := by decide +kernel
theorem dX3_collectCandidates_5 : decode cX3_collectCandidates 5 = .ok (.iconst 0, 1) := by decide +kernel
theorem dX3_collectCandidates_6 : decode cX3_collectCandidates 6 = .ok (.istore_n 1, 1) := by decide +kernel
theorem dX3_collectCandidates_7 : decode cX3_collectCandidates 7 = .ok (.iload_n 1, 1) := by decide +kernel
theorem dX3_collectCandidates_8 : decode cX3_collectCandidates 8 = .ok (.aload_n 0, 1) := by decide +kernel
theorem dX3_collectCandidates_9 : decode cX3_collectCandidates 9 = .ok (.getfield 25, 3) := by decide +kernel
theorem dX3_collectCandidates_12 : decode cX3_collectCandidates 12 = .ok (.if_icmp .ge 41, 3) := by decide +kernel
theorem dX3_collectCandidates_15 : decode cX3_collectCandidates 15 = .ok (.aload_n 0, 1) := by decide +kernel
theorem dX3_collectCandidates_16 : decode cX3_collectCandidates 16 = .ok (.getfield 33, 3) := by decide +kernel
theorem dX3_collectCandidates_19 : decode cX3_collectCandidates 19 = .ok (.iload_n 1, 1) := by decide +kernel
theorem dX3_collectCandidates_20 : decode cX3_collectCandidates 20 = .ok (.aaload, 1) := by decide +kernel
theorem dX3_collectCandidates_21 : decode cX3_collectCandidates 21 = .ok (.getfield 79, 3) := by decide +kernel
theorem dX3_collectCandidates_24 : decode cX3_collectCandidates 24 = .ok (.ifCond .eq 23, 3) := by decide +kernel
theorem dX3_collectCandidates_27 : decode cX3_collectCandidates 27 = .ok (.aload_n 0, 1) := by decide +kernel
theorem dX3_collectCandidates_28 : decode cX3_collectCandidates 28 = .ok (.getfield 55, 3) := by decide +kernel
theorem dX3_collectCandidates_31 : decode cX3_collectCandidates 31 = .ok (.aload_n 0, 1) := by decide +kernel
theorem dX3_collectCandidates_32 : decode cX3_collectCandidates 32 = .ok (.getfield 52, 3) := by decide +kernel
theorem dX3_collectCandidates_35 : decode cX3_collectCandidates 35 = .ok (.iload_n 1, 1) := by decide +kernel
theorem dX3_collectCandidates_36 : decode cX3_collectCandidates 36 = .ok (.iastore, 1) := by decide +kernel
theorem dX3_collectCandidates_37 : decode cX3_collectCandidates 37 = .ok (.aload_n 0, 1) := by decide +kernel
theorem dX3_collectCandidates_38 : decode cX3_collectCandidates 38 = .ok (.dup, 1) := by decide +kernel
theorem dX3_collectCandidates_39 : decode cX3_collectCandidates 39 = .ok (.getfield 52, 3) := by decide +kernel
theorem dX3_collectCandidates_42 : decode cX3_collectCandidates 42 = .ok (.iconst 1, 1) := by decide +kernel
theorem dX3_collectCandidates_43 : decode cX3_collectCandidates 43 = .ok (.iadd, 1) := by decide +kernel
theorem dX3_collectCandidates_44 : decode cX3_collectCandidates 44 = .ok (.putfield 52, 3) := by decide +kernel
theorem dX3_collectCandidates_47 : decode cX3_collectCandidates 47 = .ok (.iinc 1 1, 3) := by decide +kernel
theorem dX3_collectCandidates_50 : decode cX3_collectCandidates 50 = .ok (.goto (-43), 3) := by decide +kernel
theorem dX3_collectCandidates_53 : decode cX3_collectCandidates 53 = .ok (.return_, 1) := by decide +kernel
set_option maxRecDepth 20000 in
theorem ggX3_certainServer_X3_nextInTurn : GoodIn wsX3_certainServer wsX3_nextInTurn := goodIn_r _ [10, 11, 12, 22, 23, 24, 25, 26, 27, 28, 29, 30, 31, 32] (by decide +kernel) (by decide +kernel)
set_option maxRecDepth 20000 in
theorem gX3_certainServer_X3_nextInTurn : GoodIn wsX3_certainServer (wsV RX3 119 RX3 yX3_nextInTurn wsX3_nextInTurn) := goodIn_app (goodIn_of _ (by decide +kernel)) ggX3_certainServer_X3_nextInTurn
set_option maxRecDepth 20000 in
theorem ggX3_certainServer_X3_leastKnown : GoodIn wsX3_certainServer wsX3_leastKnown := goodIn_r _ [16, 12, 11, 22, 23, 24, 25, 26, 27, 28, 29, 30, 31, 32] (by decide +kernel) (by decide +kernel)
set_option maxRecDepth 20000 in
theorem gX3_certainServer_X3_leastKnown : GoodIn wsX3_certainServer (wsV RX3 128 RX3 yX3_leastKnown wsX3_leastKnown) := goodIn_app (goodIn_of _ (by decide +kernel)) ggX3_certainServer_X3_leastKnown
theorem dX3_certainServer_0 : decode cX3_certainServer 0 = .ok (.aload_n 1, 1) := by decide +kernel
theorem dX3_certainServer_1 : decode cX3_certainServer 1 = .ok (.getfield 76, 3) := by decide +kernel
theorem dX3_certainServer_4 : decode cX3_certainServer 4 = .ok (.tableswitch 68 1 4 #[32, 68, 41, 59], 32) := by decide +kernel
theorem dX3_certainServer_36 : decode cX3_certainServer 36 = .ok (.aload_n 0, 1) := by decide +kernel
theorem dX3_certainServer_37 : decode cX3_certainServer 37 = .ok (.aload_n 1, 1) := by decide +kernel
theorem dX3_certainServer_38 : decode cX3_certainServer 38 = .ok (.getfield 116, 3) := by decide +kernel
theorem dX3_certainServer_41 : decode cX3_certainServer 41 = .ok (.invokevirtual 119, 3) := by decide +kernel
theorem dX3_certainServer_44 : decode cX3_certainServer 44 = .ok (.ireturn, 1) := by decide +kernel
theorem dX3_certainServer_45 : decode cX3_certainServer 45 = .ok (.aload_n 1, 1) := by decide +kernel
theorem dX3_certainServer_46 : decode cX3_certainServer 46 = .ok (.getfield 110, 3) := by decide +kernel
theorem dX3_certainServer_49 : decode cX3_certainServer 49 = .ok (.ifCond .le 12, 3) := by decide +kernel
theorem dX3_certainServer_52 : decode cX3_certainServer 52 = .ok (.aload_n 1, 1) := by decide +kernel
theorem dX3_certainServer_53 : decode cX3_certainServer 53 = .ok (.getfield 122, 3) := by decide +kernel
theorem dX3_certainServer_56 : decode cX3_certainServer 56 = .ok (.iconst 0, 1) := by decide +kernel
theorem dX3_certainServer_57 : decode cX3_certainServer 57 = .ok (.iaload, 1) := by decide +kernel
theorem dX3_certainServer_58 : decode cX3_certainServer 58 = .ok (.goto 4, 3) := by decide +kernel
theorem dX3_certainServer_61 : decode cX3_certainServer 61 = .ok (.iconst (-1), 1) := by decide +kernel
theorem dX3_certainServer_62 : decode cX3_certainServer 62 = .ok (.ireturn, 1) := by decide +kernel
theorem dX3_certainServer_63 : decode cX3_certainServer 63 = .ok (.aload_n 0, 1) := by decide +kernel
theorem dX3_certainServer_64 : decode cX3_certainServer 64 = .ok (.aload_n 1, 1) := by decide +kernel
theorem dX3_certainServer_65 : decode cX3_certainServer 65 = .ok (.getfield 125, 3) := by decide +kernel
theorem dX3_certainServer_68 : decode cX3_certainServer 68 = .ok (.invokevirtual 128, 3) := by decide +kernel
theorem dX3_certainServer_71 : decode cX3_certainServer 71 = .ok (.ireturn, 1) := by decide +kernel
theorem dX3_certainServer_72 : decode cX3_certainServer 72 = .ok (.iconst (-1), 1) := by decide +kernel
theorem dX3_certainServer_73 : decode cX3_certainServer 73 = .ok (.ireturn, 1) := by decide +kernel
theorem dX3_nextInTurn_0 : decode cX3_nextInTurn 0 = .ok (.iconst 0, 1) := by decide +kernel
theorem dX3_nextInTurn_1 : decode cX3_nextInTurn 1 = .ok (.istore_n 2, 1) := by decide +kernel
theorem dX3_nextInTurn_2 : decode cX3_nextInTurn 2 = .ok (.iload_n 2, 1) := by decide +kernel
theorem dX3_nextInTurn_3 : decode cX3_nextInTurn 3 = .ok (.aload_n 0, 1) := by decide +kernel
theorem dX3_nextInTurn_4 : decode cX3_nextInTurn 4 = .ok (.getfield 52, 3) := by decide +kernel
theorem dX3_nextInTurn_7 : decode cX3_nextInTurn 7 = .ok (.if_icmp .ge 26, 3) := by decide +kernel
theorem dX3_nextInTurn_10 : decode cX3_nextInTurn 10 = .ok (.aload_n 0, 1) := by decide +kernel
theorem dX3_nextInTurn_11 : decode cX3_nextInTurn 11 = .ok (.getfield 55, 3) := by decide +kernel
theorem dX3_nextInTurn_14 : decode cX3_nextInTurn 14 = .ok (.iload_n 2, 1) := by decide +kernel
theorem dX3_nextInTurn_15 : decode cX3_nextInTurn 15 = .ok (.iaload, 1) := by decide +kernel
theorem dX3_nextInTurn_16 : decode cX3_nextInTurn 16 = .ok (.iload_n 1, 1) := by decide +kernel
theorem dX3_nextInTurn_17 : decode cX3_nextInTurn 17 = .ok (.if_icmp .lt 10, 3) := by decide +kernel
theorem dX3_nextInTurn_20 : decode cX3_nextInTurn 20 = .ok (.aload_n 0, 1) := by decide +kernel
theorem dX3_nextInTurn_21 : decode cX3_nextInTurn 21 = .ok (.getfield 55, 3) := by decide +kernel
theorem dX3_nextInTurn_24 : decode cX3_nextInTurn 24 = .ok (.iload_n 2, 1) := by decide +kernel
theorem dX3_nextInTurn_25 : decode cX3_nextInTurn 25 = .ok (.iaload, 1) := by decide +kernel
theorem dX3_nextInTurn_26 : decode cX3_nextInTurn 26 = .ok (.ireturn, 1) := by decide +kernel
theorem dX3_nextInTurn_27 : decode cX3_nextInTurn 27 = .ok (.iinc 2 1, 3) := by decide +kernel
theorem dX3_nextInTurn_30 : decode cX3_nextInTurn 30 = .ok (.goto (-28), 3) := by decide +kernel
theorem dX3_nextInTurn_33 : decode cX3_nextInTurn 33 = .ok (.aload_n 0, 1) := by decide +kernel
theorem dX3_nextInTurn_34 : decode cX3_nextInTurn 34 = .ok (.getfield 55, 3) := by decide +kernel
theorem dX3_nextInTurn_37 : decode cX3_nextInTurn 37 = .ok (.iconst 0, 1) := by decide +kernel
theorem dX3_nextInTurn_38 : decode cX3_nextInTurn 38 = .ok (.iaload, 1) := by decide +kernel
theorem dX3_nextInTurn_39 : decode cX3_nextInTurn 39 = .ok (.ireturn, 1) := by decide +kernel
theorem dX3_leastKnown_0 : decode cX3_leastKnown 0 = .ok (.aload_n 0, 1) := by decide +kernel
theorem dX3_leastKnown_1 : decode cX3_leastKnown 1 = .ok (.getfield 55, 3) := by decide +kernel
theorem dX3_leastKnown_4 : decode cX3_leastKnown 4 = .ok (.iconst 0, 1) := by decide +kernel
theorem dX3_leastKnown_5 : decode cX3_leastKnown 5 = .ok (.iaload, 1) := by decide +kernel
theorem dX3_leastKnown_6 : decode cX3_leastKnown 6 = .ok (.istore_n 2, 1) := by decide +kernel
theorem dX3_leastKnown_7 : decode cX3_leastKnown 7 = .ok (.iconst 1, 1) := by decide +kernel
theorem dX3_leastKnown_8 : decode cX3_leastKnown 8 = .ok (.istore_n 3, 1) := by decide +kernel
theorem dX3_leastKnown_9 : decode cX3_leastKnown 9 = .ok (.iload_n 3, 1) := by decide +kernel
theorem dX3_leastKnown_10 : decode cX3_leastKnown 10 = .ok (.aload_n 0, 1) := by decide +kernel
theorem dX3_leastKnown_11 : decode cX3_leastKnown 11 = .ok (.getfield 52, 3) := by decide +kernel
theorem dX3_leastKnown_14 : decode cX3_leastKnown 14 = .ok (.if_icmp .ge 30, 3) := by decide +kernel
theorem dX3_leastKnown_17 : decode cX3_leastKnown 17 = .ok (.aload_n 1, 1) := by decide +kernel
theorem dX3_leastKnown_18 : decode cX3_leastKnown 18 = .ok (.aload_n 0, 1) := by decide +kernel
theorem dX3_leastKnown_19 : decode cX3_leastKnown 19 = .ok (.getfield 55, 3) := by decide +kernel
theorem dX3_leastKnown_22 : decode cX3_leastKnown 22 = .ok (.iload_n 3, 1) := by decide +kernel
theorem dX3_leastKnown_23 : decode cX3_leastKnown 23 = .ok (.iaload, 1) := by decide +kernel
theorem dX3_leastKnown_24 : decode cX3_leastKnown 24 = .ok (.iaload, 1) := by decide +kernel
theorem dX3_leastKnown_25 : decode cX3_leastKnown 25 = .ok (.aload_n 1, 1) := by decide +kernel
theorem dX3_leastKnown_26 : decode cX3_leastKnown 26 = .ok (.iload_n 2, 1) := by decide +kernel
theorem dX3_leastKnown_27 : decode cX3_leastKnown 27 = .ok (.iaload, 1) := by decide +kernel
theorem dX3_leastKnown_28 : decode cX3_leastKnown 28 = .ok (.if_icmp .ge 10, 3) := by decide +kernel
theorem dX3_leastKnown_31 : decode cX3_leastKnown 31 = .ok (.aload_n 0, 1) := by decide +kernel
theorem dX3_leastKnown_32 : decode cX3_leastKnown 32 = .ok (.getfield 55, 3) := by decide +kernel
theorem dX3_leastKnown_35 : decode cX3_leastKnown 35 = .ok (.iload_n 3, 1) := by decide +kernel
theorem dX3_leastKnown_36 : decode cX3_leastKnown 36 = .ok (.iaload, 1) := by decide +kernel
theorem dX3_leastKnown_37 : decode cX3_leastKnown 37 = .ok (.istore_n 2, 1) := by decide +kernel
theorem dX3_leastKnown_38 : decode cX3_leastKnown 38 = .ok (.iinc 3 1, 3) := by decide +kernel
theorem dX3_leastKnown_41 : decode cX3_leastKnown 41 = .ok (.goto (-32), 3) := by decide +kernel
theorem dX3_leastKnown_44 : decode cX3_leastKnown 44 = .ok (.iload_n 2, 1) := by decide +kernel
theorem dX3_leastKnown_45 : decode cX3_leastKnown 45 = .ok (.ireturn, 1) := by decide +kernel
set_option maxRecDepth 20000 in
theorem ggX3_drawServer_X3_draw : GoodIn wsX3_drawServer wsX3_draw := goodIn_r _ [9, 10, 11, 12, 13, 14, 15, 16, 17, 18, 19, 20, 21, 22, 23, 24, 25] (by decide +kernel) (by decide +kernel)
set_option maxRecDepth 20000 in
theorem gX3_drawServer_X3_draw : GoodIn wsX3_drawServer (wsV RX3 107 RX3 yX3_draw wsX3_draw) := goodIn_app (goodIn_of _ (by decide +kernel)) ggX3_drawServer_X3_draw
theorem dX3_drawServer_0 : decode cX3_drawServer 0 = .ok (.aload_n 0, 1) := by decide +kernel
theorem dX3_drawServer_1 : decode cX3_drawServer 1 = .ok (.getfield 55, 3) := by decide +kernel
theorem dX3_drawServer_4 : decode cX3_drawServer 4 = .ok (.aload_n 0, 1) := by decide +kernel
theorem dX3_drawServer_5 : decode cX3_drawServer 5 = .ok (.aload_n 0, 1) := by decide +kernel
theorem dX3_drawServer_6 : decode cX3_drawServer 6 = .ok (.getfield 52, 3) := by decide +kernel
theorem dX3_drawServer_9 : decode cX3_drawServer 9 = .ok (.invokevirtual 107, 3) := by decide +kernel
theorem dX3_drawServer_12 : decode cX3_drawServer 12 = .ok (.iaload, 1) := by decide +kernel
theorem dX3_drawServer_13 : decode cX3_drawServer 13 = .ok (.istore_n 2, 1) := by decide +kernel
theorem dX3_drawServer_14 : decode cX3_drawServer 14 = .ok (.iload_n 1, 1) := by decide +kernel
theorem dX3_drawServer_15 : decode cX3_drawServer 15 = .ok (.iconst 2, 1) := by decide +kernel
theorem dX3_drawServer_16 : decode cX3_drawServer 16 = .ok (.if_icmp .eq 5, 3) := by decide +kernel
theorem dX3_drawServer_19 : decode cX3_drawServer 19 = .ok (.iload_n 2, 1) := by decide +kernel
theorem dX3_drawServer_20 : decode cX3_drawServer 20 = .ok (.ireturn, 1) := by decide +kernel
theorem dX3_drawServer_21 : decode cX3_drawServer 21 = .ok (.aload_n 0, 1) := by decide +kernel
theorem dX3_drawServer_22 : decode cX3_drawServer 22 = .ok (.getfield 55, 3) := by decide +kernel
theorem dX3_drawServer_25 : decode cX3_drawServer 25 = .ok (.aload_n 0, 1) := by decide +kernel
theorem dX3_drawServer_26 : decode cX3_drawServer 26 = .ok (.aload_n 0, 1) := by decide +kernel
theorem dX3_drawServer_27 : decode cX3_drawServer 27 = .ok (.getfield 52, 3) := by decide +kernel
theorem dX3_drawServer_30 : decode cX3_drawServer 30 = .ok (.invokevirtual 107, 3) := by decide +kernel
theorem dX3_drawServer_33 : decode cX3_drawServer 33 = .ok (.iaload, 1) := by decide +kernel
theorem dX3_drawServer_34 : decode cX3_drawServer 34 = .ok (.istore_n 3, 1) := by decide +kernel
theorem dX3_drawServer_35 : decode cX3_drawServer 35 = .ok (.aload_n 0, 1) := by decide +kernel
theorem dX3_drawServer_36 : decode cX3_drawServer 36 = .ok (.getfield 33, 3) := by decide +kernel
theorem dX3_drawServer_39 : decode cX3_drawServer 39 = .ok (.iload_n 3, 1) := by decide +kernel
theorem dX3_drawServer_40 : decode cX3_drawServer 40 = .ok (.aaload, 1) := by decide +kernel
theorem dX3_drawServer_41 : decode cX3_drawServer 41 = .ok (.getfield 86, 3) := by decide +kernel
theorem dX3_drawServer_44 : decode cX3_drawServer 44 = .ok (.aload_n 0, 1) := by decide +kernel
theorem dX3_drawServer_45 : decode cX3_drawServer 45 = .ok (.getfield 33, 3) := by decide +kernel
theorem dX3_drawServer_48 : decode cX3_drawServer 48 = .ok (.iload_n 2, 1) := by decide +kernel
theorem dX3_drawServer_49 : decode cX3_drawServer 49 = .ok (.aaload, 1) := by decide +kernel
theorem dX3_drawServer_50 : decode cX3_drawServer 50 = .ok (.getfield 86, 3) := by decide +kernel
theorem dX3_drawServer_53 : decode cX3_drawServer 53 = .ok (.if_icmp .ge 7, 3) := by decide +kernel
theorem dX3_drawServer_56 : decode cX3_drawServer 56 = .ok (.iload_n 3, 1) := by decide +kernel
theorem dX3_drawServer_57 : decode cX3_drawServer 57 = .ok (.goto 4, 3) := by decide +kernel
theorem dX3_drawServer_60 : decode cX3_drawServer 60 = .ok (.iload_n 2, 1) := by decide +kernel
theorem dX3_drawServer_61 : decode cX3_drawServer 61 = .ok (.ireturn, 1) := by decide +kernel
set_option maxRecDepth 20000 in
theorem ggX3_takeServer_X3_certainServer : GoodIn wsX3_takeServer wsX3_certainServer := goodIn_r _ [8, 1, 2, 9, 10, 3, 11, 12, 13, 7, 14, 15, 16, 17, 18, 19, 20, 36, 37, 38, 39, 40, 41, 42, 43, 44, 45, 46, 47, 48, 49, 50, 51] (by decide +kernel) (by decide +kernel)
set_option maxRecDepth 20000 in
theorem gX3_takeServer_X3_certainServer : GoodIn wsX3_takeServer (wsV RX3 132 RX3 yX3_certainServer wsX3_certainServer) := goodIn_app (goodIn_of _ (by decide +kernel)) ggX3_takeServer_X3_certainServer
set_option maxRecDepth 20000 in
theorem ggX3_takeServer_X3_drawServer : GoodIn wsX3_takeServer wsX3_drawServer := goodIn_r _ [24, 16, 15, 25, 26, 27, 28, 29, 7, 30, 31, 32, 33, 34, 35, 41, 42, 43, 44, 45, 46, 47, 48, 49, 50, 51, 52, 53, 54, 55, 56, 57] (by decide +kernel) (by decide +kernel)
set_option maxRecDepth 20000 in
theorem gX3_takeServer_X3_drawServer : GoodIn wsX3_takeServer (wsV RX3 136 RX3 yX3_drawServer wsX3_drawServer) := goodIn_app (goodIn_of _ (by decide +kernel)) ggX3_takeServer_X3_drawServer
theorem dX3_takeServer_0 : decode cX3_takeServer 0 = .ok (.aload_n 0, 1) := by decide +kernel
theorem dX3_takeServer_1 : decode cX3_takeServer 1 = .ok (.aload_n 1, 1) := by decide +kernel
theorem dX3_takeServer_2 : decode cX3_takeServer 2 = .ok (.invokevirtual 132, 3) := by decide +kernel
theorem dX3_takeServer_5 : decode cX3_takeServer 5 = .ok (.istore_n 2, 1) := by decide +kernel
theorem dX3_takeServer_6 : decode cX3_takeServer 6 = .ok (.iload_n 2, 1) := by decide +kernel
theorem dX3_takeServer_7 : decode cX3_takeServer 7 = .ok (.iconst (-1), 1) := by decide +kernel
theorem dX3_takeServer_8 : decode cX3_takeServer 8 = .ok (.if_icmp .ne 14, 3) := by decide +kernel
theorem dX3_takeServer_11 : decode cX3_takeServer 11 = .ok (.aload_n 0, 1) := by decide +kernel
theorem dX3_takeServer_12 : decode cX3_takeServer 12 = .ok (.aload_n 1, 1) := by decide +kernel
theorem dX3_takeServer_13 : decode cX3_takeServer 13 = .ok (.getfield 76, 3) := by decide +kernel
theorem dX3_takeServer_16 : decode cX3_takeServer 16 = .ok (.invokevirtual 136, 3) := by decide +kernel
theorem dX3_takeServer_19 : decode cX3_takeServer 19 = .ok (.goto 4, 3) := by decide +kernel
theorem dX3_takeServer_22 : decode cX3_takeServer 22 = .ok (.iload_n 2, 1) := by decide +kernel
theorem dX3_takeServer_23 : decode cX3_takeServer 23 = .ok (.istore_n 3, 1) := by decide +kernel
theorem dX3_takeServer_24 : decode cX3_takeServer 24 = .ok (.aload_n 1, 1) := by decide +kernel
theorem dX3_takeServer_25 : decode cX3_takeServer 25 = .ok (.getfield 76, 3) := by decide +kernel
theorem dX3_takeServer_28 : decode cX3_takeServer 28 = .ok (.iconst 1, 1) := by decide +kernel
theorem dX3_takeServer_29 : decode cX3_takeServer 29 = .ok (.if_icmp .ne 13, 3) := by decide +kernel
theorem dX3_takeServer_32 : decode cX3_takeServer 32 = .ok (.aload_n 1, 1) := by decide +kernel
theorem dX3_takeServer_33 : decode cX3_takeServer 33 = .ok (.iload_n 3, 1) := by decide +kernel
theorem dX3_takeServer_34 : decode cX3_takeServer 34 = .ok (.iconst 1, 1) := by decide +kernel
theorem dX3_takeServer_35 : decode cX3_takeServer 35 = .ok (.iadd, 1) := by decide +kernel
theorem dX3_takeServer_36 : decode cX3_takeServer 36 = .ok (.putfield 116, 3) := by decide +kernel
theorem dX3_takeServer_39 : decode cX3_takeServer 39 = .ok (.goto 21, 3) := by decide +kernel
theorem dX3_takeServer_42 : decode cX3_takeServer 42 = .ok (.aload_n 1, 1) := by decide +kernel
theorem dX3_takeServer_43 : decode cX3_takeServer 43 = .ok (.getfield 76, 3) := by decide +kernel
theorem dX3_takeServer_46 : decode cX3_takeServer 46 = .ok (.iconst 4, 1) := by decide +kernel
theorem dX3_takeServer_47 : decode cX3_takeServer 47 = .ok (.if_icmp .ne 13, 3) := by decide +kernel
theorem dX3_takeServer_50 : decode cX3_takeServer 50 = .ok (.aload_n 1, 1) := by decide +kernel
theorem dX3_takeServer_51 : decode cX3_takeServer 51 = .ok (.getfield 125, 3) := by decide +kernel
theorem dX3_takeServer_54 : decode cX3_takeServer 54 = .ok (.iload_n 3, 1) := by decide +kernel
theorem dX3_takeServer_55 : decode cX3_takeServer 55 = .ok (.dup2, 1) := by decide +kernel
theorem dX3_takeServer_56 : decode cX3_takeServer 56 = .ok (.iaload, 1) := by decide +kernel
theorem dX3_takeServer_57 : decode cX3_takeServer 57 = .ok (.iconst 1, 1) := by decide +kernel
theorem dX3_takeServer_58 : decode cX3_takeServer 58 = .ok (.iadd, 1) := by decide +kernel
theorem dX3_takeServer_59 : decode cX3_takeServer 59 = .ok (.iastore, 1) := by decide +kernel
theorem dX3_takeServer_60 : decode cX3_takeServer 60 = .ok (.iload_n 3, 1) := by decide +kernel
theorem dX3_takeServer_61 : decode cX3_takeServer 61 = .ok (.ireturn, 1) := by decide +kernel
set_option maxRecDepth 20000 in
theorem ggX3_sumOverOutcomes_X3_certainServer : GoodIn wsX3_sumOverOutcomes wsX3_certainServer := goodIn_r _ [9, 4, 10, 11, 12, 13, 14, 15, 16, 8, 17, 18, 19, 20, 21, 22, 23, 53, 54, 55, 56, 57, 36, 37, 38, 39, 40, 41, 42, 43, 44, 45, 46] (by decide +kernel) (by decide +kernel)
set_option maxRecDepth 20000 in
theorem gX3_sumOverOutcomes_X3_certainServer : GoodIn wsX3_sumOverOutcomes (wsV RX3 132 RX3 yX3_certainServer wsX3_certainServer) := goodIn_app (goodIn_of _ (by decide +kernel)) ggX3_sumOverOutcomes_X3_certainServer
set_option maxRecDepth 20000 in
theorem ggX3_sumOverOutcomes_X3_sumOverPairs : GoodIn wsX3_sumOverOutcomes wsX3_sumOverPairs := goodIn_r _ [27, 18, 2, 19, 3, 28, 29, 30, 31, 36, 37, 38, 39, 40, 41, 42, 43, 44, 45, 46, 47, 48, 49, 50, 51, 52] (by decide +kernel) (by decide +kernel)
set_option maxRecDepth 20000 in
theorem gX3_sumOverOutcomes_X3_sumOverPairs : GoodIn wsX3_sumOverOutcomes (wsV RX3 139 RX3 yX3_sumOverPairs wsX3_sumOverPairs) := goodIn_app (goodIn_of _ (by decide +kernel)) ggX3_sumOverOutcomes_X3_sumOverPairs
set_option maxRecDepth 20000 in
theorem ggX3_sumOverOutcomes_X3_sumOverCandidates : GoodIn wsX3_sumOverOutcomes wsX3_sumOverCandidates := goodIn_r _ [35, 18, 2, 19, 3, 36, 37, 38, 39, 40, 41, 42, 43, 44, 45, 46, 47, 48, 49, 50, 51, 52] (by decide +kernel) (by decide +kernel)
set_option maxRecDepth 20000 in
theorem gX3_sumOverOutcomes_X3_sumOverCandidates : GoodIn wsX3_sumOverOutcomes (wsV RX3 143 RX3 yX3_sumOverCandidates wsX3_sumOverCandidates) := goodIn_app (goodIn_of _ (by decide +kernel)) ggX3_sumOverOutcomes_X3_sumOverCandidates
theorem dX3_sumOverOutcomes_0 : decode cX3_sumOverOutcomes 0 = .ok (.aload_n 0, 1) := by decide +kernel
theorem dX3_sumOverOutcomes_1 : decode cX3_sumOverOutcomes 1 = .ok (.getfield 40, 3) := by decide +kernel
theorem dX3_sumOverOutcomes_4 : decode cX3_sumOverOutcomes 4 = .ok (.iload_n 1, 1) := by decide +kernel
theorem dX3_sumOverOutcomes_5 : decode cX3_sumOverOutcomes 5 = .ok (.aaload, 1) := by decide +kernel
theorem dX3_sumOverOutcomes_6 : decode cX3_sumOverOutcomes 6 = .ok (.astore_n 2, 1) := by decide +kernel
theorem dX3_sumOverOutcomes_7 : decode cX3_sumOverOutcomes 7 = .ok (.aload_n 0, 1) := by decide +kernel
theorem dX3_sumOverOutcomes_8 : decode cX3_sumOverOutcomes 8 = .ok (.aload_n 2, 1) := by decide +kernel
theorem dX3_sumOverOutcomes_9 : decode cX3_sumOverOutcomes 9 = .ok (.invokevirtual 132, 3) := by decide +kernel
theorem dX3_sumOverOutcomes_12 : decode cX3_sumOverOutcomes 12 = .ok (.istore_n 3, 1) := by decide +kernel
theorem dX3_sumOverOutcomes_13 : decode cX3_sumOverOutcomes 13 = .ok (.iload_n 3, 1) := by decide +kernel
theorem dX3_sumOverOutcomes_14 : decode cX3_sumOverOutcomes 14 = .ok (.iconst (-1), 1) := by decide +kernel
theorem dX3_sumOverOutcomes_15 : decode cX3_sumOverOutcomes 15 = .ok (.if_icmp .eq 13, 3) := by decide +kernel
theorem dX3_sumOverOutcomes_18 : decode cX3_sumOverOutcomes 18 = .ok (.aload_n 0, 1) := by decide +kernel
theorem dX3_sumOverOutcomes_19 : decode cX3_sumOverOutcomes 19 = .ok (.getfield 33, 3) := by decide +kernel
theorem dX3_sumOverOutcomes_22 : decode cX3_sumOverOutcomes 22 = .ok (.iload_n 3, 1) := by decide +kernel
theorem dX3_sumOverOutcomes_23 : decode cX3_sumOverOutcomes 23 = .ok (.aaload, 1) := by decide +kernel
theorem dX3_sumOverOutcomes_24 : decode cX3_sumOverOutcomes 24 = .ok (.getfield 86, 3) := by decide +kernel
theorem dX3_sumOverOutcomes_27 : decode cX3_sumOverOutcomes 27 = .ok (.ireturn, 1) := by decide +kernel
theorem dX3_sumOverOutcomes_28 : decode cX3_sumOverOutcomes 28 = .ok (.aload_n 2, 1) := by decide +kernel
theorem dX3_sumOverOutcomes_29 : decode cX3_sumOverOutcomes 29 = .ok (.getfield 76, 3) := by decide +kernel
theorem dX3_sumOverOutcomes_32 : decode cX3_sumOverOutcomes 32 = .ok (.iconst 2, 1) := by decide +kernel
theorem dX3_sumOverOutcomes_33 : decode cX3_sumOverOutcomes 33 = .ok (.if_icmp .ne 10, 3) := by decide +kernel
theorem dX3_sumOverOutcomes_36 : decode cX3_sumOverOutcomes 36 = .ok (.aload_n 0, 1) := by decide +kernel
theorem dX3_sumOverOutcomes_37 : decode cX3_sumOverOutcomes 37 = .ok (.invokevirtual 139, 3) := by decide +kernel
theorem dX3_sumOverOutcomes_40 : decode cX3_sumOverOutcomes 40 = .ok (.goto 7, 3) := by decide +kernel
theorem dX3_sumOverOutcomes_43 : decode cX3_sumOverOutcomes 43 = .ok (.aload_n 0, 1) := by decide +kernel
theorem dX3_sumOverOutcomes_44 : decode cX3_sumOverOutcomes 44 = .ok (.invokevirtual 143, 3) := by decide +kernel
theorem dX3_sumOverOutcomes_47 : decode cX3_sumOverOutcomes 47 = .ok (.ireturn, 1) := by decide +kernel
set_option maxRecDepth 20000 in
theorem ggX3_countOutcomes_X3_certainServer : GoodIn wsX3_countOutcomes wsX3_certainServer := goodIn_r _ [8, 2, 9, 10, 11, 12, 13, 14, 15, 7, 16, 3, 17, 18, 19, 20, 21, 33, 34, 35, 36, 37, 22, 23, 24, 25, 26, 27, 28, 29, 30, 31, 32] (by decide +kernel) (by decide +kernel)
set_option maxRecDepth 20000 in
theorem gX3_countOutcomes_X3_certainServer : GoodIn wsX3_countOutcomes (wsV RX3 132 RX3 yX3_certainServer wsX3_certainServer) := goodIn_app (goodIn_of _ (by decide +kernel)) ggX3_countOutcomes_X3_certainServer
theorem dX3_countOutcomes_0 : decode cX3_countOutcomes 0 = .ok (.aload_n 0, 1) := by decide +kernel
theorem dX3_countOutcomes_1 : decode cX3_countOutcomes 1 = .ok (.getfield 40, 3) := by decide +kernel
theorem dX3_countOutcomes_4 : decode cX3_countOutcomes 4 = .ok (.iload_n 1, 1) := by decide +kernel
theorem dX3_countOutcomes_5 : decode cX3_countOutcomes 5 = .ok (.aaload, 1) := by decide +kernel
theorem dX3_countOutcomes_6 : decode cX3_countOutcomes 6 = .ok (.astore_n 2, 1) := by decide +kernel
theorem dX3_countOutcomes_7 : decode cX3_countOutcomes 7 = .ok (.aload_n 0, 1) := by decide +kernel
theorem dX3_countOutcomes_8 : decode cX3_countOutcomes 8 = .ok (.aload_n 2, 1) := by decide +kernel
theorem dX3_countOutcomes_9 : decode cX3_countOutcomes 9 = .ok (.invokevirtual 132, 3) := by decide +kernel
theorem dX3_countOutcomes_12 : decode cX3_countOutcomes 12 = .ok (.iconst (-1), 1) := by decide +kernel
theorem dX3_countOutcomes_13 : decode cX3_countOutcomes 13 = .ok (.if_icmp .eq 5, 3) := by decide +kernel
theorem dX3_countOutcomes_16 : decode cX3_countOutcomes 16 = .ok (.iconst 1, 1) := by decide +kernel
theorem dX3_countOutcomes_17 : decode cX3_countOutcomes 17 = .ok (.ireturn, 1) := by decide +kernel
theorem dX3_countOutcomes_18 : decode cX3_countOutcomes 18 = .ok (.aload_n 2, 1) := by decide +kernel
theorem dX3_countOutcomes_19 : decode cX3_countOutcomes 19 = .ok (.getfield 76, 3) := by decide +kernel
theorem dX3_countOutcomes_22 : decode cX3_countOutcomes 22 = .ok (.iconst 2, 1) := by decide +kernel
theorem dX3_countOutcomes_23 : decode cX3_countOutcomes 23 = .ok (.if_icmp .ne 15, 3) := by decide +kernel
theorem dX3_countOutcomes_26 : decode cX3_countOutcomes 26 = .ok (.aload_n 0, 1) := by decide +kernel
theorem dX3_countOutcomes_27 : decode cX3_countOutcomes 27 = .ok (.getfield 52, 3) := by decide +kernel
theorem dX3_countOutcomes_30 : decode cX3_countOutcomes 30 = .ok (.aload_n 0, 1) := by decide +kernel
theorem dX3_countOutcomes_31 : decode cX3_countOutcomes 31 = .ok (.getfield 52, 3) := by decide +kernel
theorem dX3_countOutcomes_34 : decode cX3_countOutcomes 34 = .ok (.imul, 1) := by decide +kernel
theorem dX3_countOutcomes_35 : decode cX3_countOutcomes 35 = .ok (.goto 7, 3) := by decide +kernel
theorem dX3_countOutcomes_38 : decode cX3_countOutcomes 38 = .ok (.aload_n 0, 1) := by decide +kernel
theorem dX3_countOutcomes_39 : decode cX3_countOutcomes 39 = .ok (.getfield 52, 3) := by decide +kernel
theorem dX3_countOutcomes_42 : decode cX3_countOutcomes 42 = .ok (.ireturn, 1) := by decide +kernel
theorem dX3_sumOverCandidates_0 : decode cX3_sumOverCandidates 0 = .ok (.iconst 0, 1) := by decide +kernel
theorem dX3_sumOverCandidates_1 : decode cX3_sumOverCandidates 1 = .ok (.istore_n 1, 1) := by decide +kernel
theorem dX3_sumOverCandidates_2 : decode cX3_sumOverCandidates 2 = .ok (.iconst 0, 1) := by decide +kernel
theorem dX3_sumOverCandidates_3 : decode cX3_sumOverCandidates 3 = .ok (.istore_n 2, 1) := by decide +kernel
theorem dX3_sumOverCandidates_4 : decode cX3_sumOverCandidates 4 = .ok (.iload_n 2, 1) := by decide +kernel
theorem dX3_sumOverCandidates_5 : decode cX3_sumOverCandidates 5 = .ok (.aload_n 0, 1) := by decide +kernel
theorem dX3_sumOverCandidates_6 : decode cX3_sumOverCandidates 6 = .ok (.getfield 52, 3) := by decide +kernel
theorem dX3_sumOverCandidates_9 : decode cX3_sumOverCandidates 9 = .ok (.if_icmp .ge 26, 3) := by decide +kernel
theorem dX3_sumOverCandidates_12 : decode cX3_sumOverCandidates 12 = .ok (.iload_n 1, 1) := by decide +kernel
theorem dX3_sumOverCandidates_13 : decode cX3_sumOverCandidates 13 = .ok (.aload_n 0, 1) := by decide +kernel
theorem dX3_sumOverCandidates_14 : decode cX3_sumOverCandidates 14 = .ok (.getfield 33, 3) := by decide +kernel
theorem dX3_sumOverCandidates_17 : decode cX3_sumOverCandidates 17 = .ok (.aload_n 0, 1) := by decide +kernel
theorem dX3_sumOverCandidates_18 : decode cX3_sumOverCandidates 18 = .ok (.getfield 55, 3) := by decide +kernel
theorem dX3_sumOverCandidates_21 : decode cX3_sumOverCandidates 21 = .ok (.iload_n 2, 1) := by decide +kernel
theorem dX3_sumOverCandidates_22 : decode cX3_sumOverCandidates 22 = .ok (.iaload, 1) := by decide +kernel
theorem dX3_sumOverCandidates_23 : decode cX3_sumOverCandidates 23 = .ok (.aaload, 1) := by decide +kernel
theorem dX3_sumOverCandidates_24 : decode cX3_sumOverCandidates 24 = .ok (.getfield 86, 3) := by decide +kernel
theorem dX3_sumOverCandidates_27 : decode cX3_sumOverCandidates 27 = .ok (.iadd, 1) := by decide +kernel
theorem dX3_sumOverCandidates_28 : decode cX3_sumOverCandidates 28 = .ok (.istore_n 1, 1) := by decide +kernel
theorem dX3_sumOverCandidates_29 : decode cX3_sumOverCandidates 29 = .ok (.iinc 2 1, 3) := by decide +kernel
theorem dX3_sumOverCandidates_32 : decode cX3_sumOverCandidates 32 = .ok (.goto (-28), 3) := by decide +kernel
theorem dX3_sumOverCandidates_35 : decode cX3_sumOverCandidates 35 = .ok (.iload_n 1, 1) := by decide +kernel
theorem dX3_sumOverCandidates_36 : decode cX3_sumOverCandidates 36 = .ok (.ireturn, 1) := by decide +kernel
theorem dX3_sumOverPairs_0 : decode cX3_sumOverPairs 0 = .ok (.iconst 0, 1) := by decide +kernel
theorem dX3_sumOverPairs_1 : decode cX3_sumOverPairs 1 = .ok (.istore_n 1, 1) := by decide +kernel
theorem dX3_sumOverPairs_2 : decode cX3_sumOverPairs 2 = .ok (.iconst 0, 1) := by decide +kernel
theorem dX3_sumOverPairs_3 : decode cX3_sumOverPairs 3 = .ok (.istore_n 2, 1) := by decide +kernel
theorem dX3_sumOverPairs_4 : decode cX3_sumOverPairs 4 = .ok (.iload_n 2, 1) := by decide +kernel
theorem dX3_sumOverPairs_5 : decode cX3_sumOverPairs 5 = .ok (.aload_n 0, 1) := by decide +kernel
theorem dX3_sumOverPairs_6 : decode cX3_sumOverPairs 6 = .ok (.getfield 52, 3) := by decide +kernel
theorem dX3_sumOverPairs_9 : decode cX3_sumOverPairs 9 = .ok (.if_icmp .ge 64, 3) := by decide +kernel
theorem dX3_sumOverPairs_12 : decode cX3_sumOverPairs 12 = .ok (.aload_n 0, 1) := by decide +kernel
theorem dX3_sumOverPairs_13 : decode cX3_sumOverPairs 13 = .ok (.getfield 33, 3) := by decide +kernel
theorem dX3_sumOverPairs_16 : decode cX3_sumOverPairs 16 = .ok (.aload_n 0, 1) := by decide +kernel
theorem dX3_sumOverPairs_17 : decode cX3_sumOverPairs 17 = .ok (.getfield 55, 3) := by decide +kernel
theorem dX3_sumOverPairs_20 : decode cX3_sumOverPairs 20 = .ok (.iload_n 2, 1) := by decide +kernel
theorem dX3_sumOverPairs_21 : decode cX3_sumOverPairs 21 = .ok (.iaload, 1) := by decide +kernel
theorem dX3_sumOverPairs_22 : decode cX3_sumOverPairs 22 = .ok (.aaload, 1) := by decide +kernel
theorem dX3_sumOverPairs_23 : decode cX3_sumOverPairs 23 = .ok (.getfield 86, 3) := by decide +kernel
theorem dX3_sumOverPairs_26 : decode cX3_sumOverPairs 26 = .ok (.istore_n 3, 1) := by decide +kernel
theorem dX3_sumOverPairs_27 : decode cX3_sumOverPairs 27 = .ok (.iconst 0, 1) := by decide +kernel
theorem dX3_sumOverPairs_28 : decode cX3_sumOverPairs 28 = .ok (.istore 4, 2) := by decide +kernel
theorem dX3_sumOverPairs_30 : decode cX3_sumOverPairs 30 = .ok (.iload 4, 2) := by decide +kernel
theorem dX3_sumOverPairs_32 : decode cX3_sumOverPairs 32 = .ok (.aload_n 0, 1) := by decide +kernel
theorem dX3_sumOverPairs_33 : decode cX3_sumOverPairs 33 = .ok (.getfield 52, 3) := by decide +kernel
theorem dX3_sumOverPairs_36 : decode cX3_sumOverPairs 36 = .ok (.if_icmp .ge 31, 3) := by decide +kernel
theorem dX3_sumOverPairs_39 : decode cX3_sumOverPairs 39 = .ok (.iload_n 1, 1) := by decide +kernel
theorem dX3_sumOverPairs_40 : decode cX3_sumOverPairs 40 = .ok (.iload_n 3, 1) := by decide +kernel
theorem dX3_sumOverPairs_41 : decode cX3_sumOverPairs 41 = .ok (.aload_n 0, 1) := by decide +kernel
theorem dX3_sumOverPairs_42 : decode cX3_sumOverPairs 42 = .ok (.getfield 33, 3) := by decide +kernel
theorem dX3_sumOverPairs_45 : decode cX3_sumOverPairs 45 = .ok (.aload_n 0, 1) := by decide +kernel
theorem dX3_sumOverPairs_46 : decode cX3_sumOverPairs 46 = .ok (.getfield 55, 3) := by decide +kernel
theorem dX3_sumOverPairs_49 : decode cX3_sumOverPairs 49 = .ok (.iload 4, 2) := by decide +kernel
theorem dX3_sumOverPairs_51 : decode cX3_sumOverPairs 51 = .ok (.iaload, 1) := by decide +kernel
theorem dX3_sumOverPairs_52 : decode cX3_sumOverPairs 52 = .ok (.aaload, 1) := by decide +kernel
theorem dX3_sumOverPairs_53 : decode cX3_sumOverPairs 53 = .ok (.getfield 86, 3) := by decide +kernel
theorem dX3_sumOverPairs_56 : decode cX3_sumOverPairs 56 = .ok (.invokestatic 146, 3) := by decide +kernel
theorem dX3_sumOverPairs_59 : decode cX3_sumOverPairs 59 = .ok (.iadd, 1) := by decide +kernel
theorem dX3_sumOverPairs_60 : decode cX3_sumOverPairs 60 = .ok (.istore_n 1, 1) := by decide +kernel
theorem dX3_sumOverPairs_61 : decode cX3_sumOverPairs 61 = .ok (.iinc 4 1, 3) := by decide +kernel
theorem dX3_sumOverPairs_64 : decode cX3_sumOverPairs 64 = .ok (.goto (-34), 3) := by decide +kernel
theorem dX3_sumOverPairs_67 : decode cX3_sumOverPairs 67 = .ok (.iinc 2 1, 3) := by decide +kernel
theorem dX3_sumOverPairs_70 : decode cX3_sumOverPairs 70 = .ok (.goto (-66), 3) := by decide +kernel
theorem dX3_sumOverPairs_73 : decode cX3_sumOverPairs 73 = .ok (.iload_n 1, 1) := by decide +kernel
theorem dX3_sumOverPairs_74 : decode cX3_sumOverPairs 74 = .ok (.ireturn, 1) := by decide +kernel
set_option maxRecDepth 20000 in
theorem ggX3_dispatch_X3_takeServer : GoodIn wsX3_dispatch wsX3_takeServer := goodIn_r _ [10, 11, 12, 13, 14, 15, 16, 9, 17, 18, 19, 20, 21, 22, 23, 24, 25, 26, 27, 28, 29, 30, 31, 32, 33, 2, 3, 34, 35, 36, 37, 38, 39, 40, 41, 42, 120, 121, 122, 123, 124, 93, 94, 95, 96, 97, 98, 99, 100, 101, 102, 103, 104, 105, 106, 107, 108, 109] (by decide +kernel) (by decide +kernel)
set_option maxRecDepth 20000 in
theorem gX3_dispatch_X3_takeServer : GoodIn wsX3_dispatch (wsV RX3 152 RX3 yX3_takeServer wsX3_takeServer) := goodIn_app (goodIn_of _ (by decide +kernel)) ggX3_dispatch_X3_takeServer
set_option maxRecDepth 20000 in
theorem ggX3_dispatch_X3_anyIdle : GoodIn wsX3_dispatch wsX3_anyIdle := goodIn_r _ [46, 47, 2, 48, 49, 50, 51, 52, 53, 54, 93, 94, 95, 96, 97, 98, 99, 100, 101, 102, 103, 104, 105, 106, 107, 108, 109] (by decide +kernel) (by decide +kernel)
set_option maxRecDepth 20000 in
theorem gX3_dispatch_X3_anyIdle : GoodIn wsX3_dispatch (wsV RX3 155 RX3 yX3_anyIdle wsX3_anyIdle) := goodIn_app (goodIn_of _ (by decide +kernel)) ggX3_dispatch_X3_anyIdle
set_option maxRecDepth 20000 in
theorem ggX3_dispatch_X3_leaveIdleList : GoodIn wsX3_dispatch wsX3_leaveIdleList := goodIn_r _ [58, 2, 59, 1, 60, 61, 62, 63, 64, 65, 66, 93, 94, 95, 96, 97, 98, 99, 100, 101, 102, 103, 104, 105, 106, 107, 108, 109, 120, 121, 122, 123, 124] (by decide +kernel) (by decide +kernel)
set_option maxRecDepth 20000 in
theorem gX3_dispatch_X3_leaveIdleList : GoodIn wsX3_dispatch (wsV RX3 83 RX3 yX3_leaveIdleList wsX3_leaveIdleList) := goodIn_app (goodIn_of _ (by decide +kernel)) ggX3_dispatch_X3_leaveIdleList
set_option maxRecDepth 20000 in
theorem ggX3_dispatch_X3_enqueue : GoodIn wsX3_dispatch wsX3_enqueue := goodIn_r _ [70, 4, 71, 2, 72, 73, 74, 3, 75, 76, 77, 78, 79, 80, 81, 82, 83, 84, 85, 86, 87, 88, 89, 90, 91, 92, 93, 94, 95, 96, 97, 98, 99, 100, 101, 102, 103, 104, 105, 106, 107, 108, 109, 110, 111, 112, 113, 114, 115, 116, 117, 118, 119] (by decide +kernel) (by decide +kernel)
set_option maxRecDepth 20000 in
theorem gX3_dispatch_X3_enqueue : GoodIn wsX3_dispatch (wsV RX3 162 RX3 yX3_enqueue wsX3_enqueue) := goodIn_app (goodIn_of _ (by decide +kernel)) ggX3_dispatch_X3_enqueue
theorem dX3_dispatch_0 : decode cX3_dispatch 0 = .ok (.aload_n 0, 1) := by decide +kernel
theorem dX3_dispatch_1 : decode cX3_dispatch 1 = .ok (.aload_n 0, 1) := by decide +kernel
theorem dX3_dispatch_2 : decode cX3_dispatch 2 = .ok (.getfield 40, 3) := by decide +kernel
theorem dX3_dispatch_5 : decode cX3_dispatch 5 = .ok (.iload_n 1, 1) := by decide +kernel
theorem dX3_dispatch_6 : decode cX3_dispatch 6 = .ok (.aaload, 1) := by decide +kernel
theorem dX3_dispatch_7 : decode cX3_dispatch 7 = .ok (.invokevirtual 152, 3) := by decide +kernel
theorem dX3_dispatch_10 : decode cX3_dispatch 10 = .ok (.istore_n 3, 1) := by decide +kernel
theorem dX3_dispatch_11 : decode cX3_dispatch 11 = .ok (.aload_n 0, 1) := by decide +kernel
theorem dX3_dispatch_12 : decode cX3_dispatch 12 = .ok (.getfield 33, 3) := by decide +kernel
theorem dX3_dispatch_15 : decode cX3_dispatch 15 = .ok (.iload_n 3, 1) := by decide +kernel
theorem dX3_dispatch_16 : decode cX3_dispatch 16 = .ok (.aaload, 1) := by decide +kernel
theorem dX3_dispatch_17 : decode cX3_dispatch 17 = .ok (.getfield 86, 3) := by decide +kernel
theorem dX3_dispatch_20 : decode cX3_dispatch 20 = .ok (.ifCond .le 23, 3) := by decide +kernel
theorem dX3_dispatch_23 : decode cX3_dispatch 23 = .ok (.aload_n 0, 1) := by decide +kernel
theorem dX3_dispatch_24 : decode cX3_dispatch 24 = .ok (.invokevirtual 155, 3) := by decide +kernel
theorem dX3_dispatch_27 : decode cX3_dispatch 27 = .ok (.ifCond .eq 16, 3) := by decide +kernel
theorem dX3_dispatch_30 : decode cX3_dispatch 30 = .ok (.aload_n 0, 1) := by decide +kernel
theorem dX3_dispatch_31 : decode cX3_dispatch 31 = .ok (.getfield 48, 3) := by decide +kernel
theorem dX3_dispatch_34 : decode cX3_dispatch 34 = .ok (.dup, 1) := by decide +kernel
theorem dX3_dispatch_35 : decode cX3_dispatch 35 = .ok (.getfield 159, 3) := by decide +kernel
theorem dX3_dispatch_38 : decode cX3_dispatch 38 = .ok (.iconst 1, 1) := by decide +kernel
theorem dX3_dispatch_39 : decode cX3_dispatch 39 = .ok (.iadd, 1) := by decide +kernel
theorem dX3_dispatch_40 : decode cX3_dispatch 40 = .ok (.putfield 159, 3) := by decide +kernel
theorem dX3_dispatch_43 : decode cX3_dispatch 43 = .ok (.aload_n 0, 1) := by decide +kernel
theorem dX3_dispatch_44 : decode cX3_dispatch 44 = .ok (.iload_n 3, 1) := by decide +kernel
theorem dX3_dispatch_45 : decode cX3_dispatch 45 = .ok (.invokevirtual 83, 3) := by decide +kernel
theorem dX3_dispatch_48 : decode cX3_dispatch 48 = .ok (.aload_n 0, 1) := by decide +kernel
theorem dX3_dispatch_49 : decode cX3_dispatch 49 = .ok (.iload_n 3, 1) := by decide +kernel
theorem dX3_dispatch_50 : decode cX3_dispatch 50 = .ok (.iload_n 2, 1) := by decide +kernel
theorem dX3_dispatch_51 : decode cX3_dispatch 51 = .ok (.invokevirtual 162, 3) := by decide +kernel
theorem dX3_dispatch_54 : decode cX3_dispatch 54 = .ok (.iload_n 3, 1) := by decide +kernel
theorem dX3_dispatch_55 : decode cX3_dispatch 55 = .ok (.ireturn, 1) := by decide +kernel
set_option maxRecDepth 20000 in
theorem ggX3_anyIdle_X2_isIdle : GoodIn wsX3_anyIdle wsX2_isIdle := goodIn_r _ [7, 8, 9, 21, 22, 23, 24, 25, 26] (by decide +kernel) (by decide +kernel)
set_option maxRecDepth 20000 in
theorem gX3_anyIdle_X2_isIdle : GoodIn wsX3_anyIdle (wsV RX3 166 RX2 yX2_isIdle wsX2_isIdle) := goodIn_app (goodIn_of _ (by decide +kernel)) ggX3_anyIdle_X2_isIdle
theorem dX3_anyIdle_0 : decode cX3_anyIdle 0 = .ok (.iconst 0, 1) := by decide +kernel
theorem dX3_anyIdle_1 : decode cX3_anyIdle 1 = .ok (.istore_n 1, 1) := by decide +kernel
theorem dX3_anyIdle_2 : decode cX3_anyIdle 2 = .ok (.iload_n 1, 1) := by decide +kernel
theorem dX3_anyIdle_3 : decode cX3_anyIdle 3 = .ok (.aload_n 0, 1) := by decide +kernel
theorem dX3_anyIdle_4 : decode cX3_anyIdle 4 = .ok (.getfield 25, 3) := by decide +kernel
theorem dX3_anyIdle_7 : decode cX3_anyIdle 7 = .ok (.if_icmp .ge 23, 3) := by decide +kernel
theorem dX3_anyIdle_10 : decode cX3_anyIdle 10 = .ok (.aload_n 0, 1) := by decide +kernel
theorem dX3_anyIdle_11 : decode cX3_anyIdle 11 = .ok (.getfield 33, 3) := by decide +kernel
theorem dX3_anyIdle_14 : decode cX3_anyIdle 14 = .ok (.iload_n 1, 1) := by decide +kernel
theorem dX3_anyIdle_15 : decode cX3_anyIdle 15 = .ok (.aaload, 1) := by decide +kernel
theorem dX3_anyIdle_16 : decode cX3_anyIdle 16 = .ok (.invokevirtual 166, 3) := by decide +kernel
theorem dX3_anyIdle_19 : decode cX3_anyIdle 19 = .ok (.ifCond .eq 5, 3) := by decide +kernel
theorem dX3_anyIdle_22 : decode cX3_anyIdle 22 = .ok (.iconst 1, 1) := by decide +kernel
theorem dX3_anyIdle_23 : decode cX3_anyIdle 23 = .ok (.ireturn, 1) := by decide +kernel
theorem dX3_anyIdle_24 : decode cX3_anyIdle 24 = .ok (.iinc 1 1, 3) := by decide +kernel
theorem dX3_anyIdle_27 : decode cX3_anyIdle 27 = .ok (.goto (-25), 3) := by decide +kernel
theorem dX3_anyIdle_30 : decode cX3_anyIdle 30 = .ok (.iconst 0, 1) := by decide +kernel
theorem dX3_anyIdle_31 : decode cX3_anyIdle 31 = .ok (.ireturn, 1) := by decide +kernel
set_option maxRecDepth 20000 in
theorem ggX3_enqueue_X1_append : GoodIn wsX3_enqueue wsX1_append := goodIn_r _ [13, 14, 15, 16, 17, 18, 19, 43, 44, 45, 46, 47, 48, 49, 50, 51, 52] (by decide +kernel) (by decide +kernel)
set_option maxRecDepth 20000 in
theorem gX3_enqueue_X1_append : GoodIn wsX3_enqueue (wsV RX3 169 RX1 yX1_append wsX1_append) := goodIn_app (goodIn_of _ (by decide +kernel)) ggX3_enqueue_X1_append
set_option maxRecDepth 20000 in
theorem ggX3_enqueue_X1_begin : GoodIn wsX3_enqueue wsX1_begin := goodIn_r _ [23, 18, 17, 24, 25, 43, 44, 45, 46, 47, 48, 49, 50, 51, 52] (by decide +kernel) (by decide +kernel)
set_option maxRecDepth 20000 in
theorem gX3_enqueue_X1_begin : GoodIn wsX3_enqueue (wsV RX3 179 RX1 yX1_begin wsX1_begin) := goodIn_app (goodIn_of _ (by decide +kernel)) ggX3_enqueue_X1_begin
theorem dX3_enqueue_0 : decode cX3_enqueue 0 = .ok (.aload_n 0, 1) := by decide +kernel
theorem dX3_enqueue_1 : decode cX3_enqueue 1 = .ok (.getfield 48, 3) := by decide +kernel
theorem dX3_enqueue_4 : decode cX3_enqueue 4 = .ok (.iload_n 1, 1) := by decide +kernel
theorem dX3_enqueue_5 : decode cX3_enqueue 5 = .ok (.iload_n 2, 1) := by decide +kernel
theorem dX3_enqueue_6 : decode cX3_enqueue 6 = .ok (.aload_n 0, 1) := by decide +kernel
theorem dX3_enqueue_7 : decode cX3_enqueue 7 = .ok (.getfield 9, 3) := by decide +kernel
theorem dX3_enqueue_10 : decode cX3_enqueue 10 = .ok (.invokevirtual 169, 3) := by decide +kernel
theorem dX3_enqueue_13 : decode cX3_enqueue 13 = .ok (.istore_n 3, 1) := by decide +kernel
theorem dX3_enqueue_14 : decode cX3_enqueue 14 = .ok (.iload_n 3, 1) := by decide +kernel
theorem dX3_enqueue_15 : decode cX3_enqueue 15 = .ok (.iconst (-1), 1) := by decide +kernel
theorem dX3_enqueue_16 : decode cX3_enqueue 16 = .ok (.if_icmp .ne 4, 3) := by decide +kernel
theorem dX3_enqueue_19 : decode cX3_enqueue 19 = .ok (.return_, 1) := by decide +kernel
theorem dX3_enqueue_20 : decode cX3_enqueue 20 = .ok (.aload_n 0, 1) := by decide +kernel
theorem dX3_enqueue_21 : decode cX3_enqueue 21 = .ok (.getfield 33, 3) := by decide +kernel
theorem dX3_enqueue_24 : decode cX3_enqueue 24 = .ok (.iload_n 1, 1) := by decide +kernel
theorem dX3_enqueue_25 : decode cX3_enqueue 25 = .ok (.aaload, 1) := by decide +kernel
theorem dX3_enqueue_26 : decode cX3_enqueue 26 = .ok (.astore 4, 2) := by decide +kernel
theorem dX3_enqueue_28 : decode cX3_enqueue 28 = .ok (.aload 4, 2) := by decide +kernel
theorem dX3_enqueue_30 : decode cX3_enqueue 30 = .ok (.getfield 173, 3) := by decide +kernel
theorem dX3_enqueue_33 : decode cX3_enqueue 33 = .ok (.iconst (-1), 1) := by decide +kernel
theorem dX3_enqueue_34 : decode cX3_enqueue 34 = .ok (.if_icmp .ne 24, 3) := by decide +kernel
theorem dX3_enqueue_37 : decode cX3_enqueue 37 = .ok (.aload 4, 2) := by decide +kernel
theorem dX3_enqueue_39 : decode cX3_enqueue 39 = .ok (.iload_n 3, 1) := by decide +kernel
theorem dX3_enqueue_40 : decode cX3_enqueue 40 = .ok (.putfield 176, 3) := by decide +kernel
theorem dX3_enqueue_43 : decode cX3_enqueue 43 = .ok (.aload_n 0, 1) := by decide +kernel
theorem dX3_enqueue_44 : decode cX3_enqueue 44 = .ok (.getfield 48, 3) := by decide +kernel
theorem dX3_enqueue_47 : decode cX3_enqueue 47 = .ok (.iload_n 3, 1) := by decide +kernel
theorem dX3_enqueue_48 : decode cX3_enqueue 48 = .ok (.aload_n 0, 1) := by decide +kernel
theorem dX3_enqueue_49 : decode cX3_enqueue 49 = .ok (.getfield 9, 3) := by decide +kernel
theorem dX3_enqueue_52 : decode cX3_enqueue 52 = .ok (.invokevirtual 179, 3) := by decide +kernel
theorem dX3_enqueue_55 : decode cX3_enqueue 55 = .ok (.goto 17, 3) := by decide +kernel
theorem dX3_enqueue_58 : decode cX3_enqueue 58 = .ok (.aload_n 0, 1) := by decide +kernel
theorem dX3_enqueue_59 : decode cX3_enqueue 59 = .ok (.getfield 48, 3) := by decide +kernel
theorem dX3_enqueue_62 : decode cX3_enqueue 62 = .ok (.getfield 182, 3) := by decide +kernel
theorem dX3_enqueue_65 : decode cX3_enqueue 65 = .ok (.aload 4, 2) := by decide +kernel
theorem dX3_enqueue_67 : decode cX3_enqueue 67 = .ok (.getfield 173, 3) := by decide +kernel
theorem dX3_enqueue_70 : decode cX3_enqueue 70 = .ok (.iload_n 3, 1) := by decide +kernel
theorem dX3_enqueue_71 : decode cX3_enqueue 71 = .ok (.iastore, 1) := by decide +kernel
theorem dX3_enqueue_72 : decode cX3_enqueue 72 = .ok (.aload 4, 2) := by decide +kernel
theorem dX3_enqueue_74 : decode cX3_enqueue 74 = .ok (.iload_n 3, 1) := by decide +kernel
theorem dX3_enqueue_75 : decode cX3_enqueue 75 = .ok (.putfield 173, 3) := by decide +kernel
theorem dX3_enqueue_78 : decode cX3_enqueue 78 = .ok (.aload 4, 2) := by decide +kernel
theorem dX3_enqueue_80 : decode cX3_enqueue 80 = .ok (.dup, 1) := by decide +kernel
theorem dX3_enqueue_81 : decode cX3_enqueue 81 = .ok (.getfield 86, 3) := by decide +kernel
theorem dX3_enqueue_84 : decode cX3_enqueue 84 = .ok (.iconst 1, 1) := by decide +kernel
theorem dX3_enqueue_85 : decode cX3_enqueue 85 = .ok (.iadd, 1) := by decide +kernel
theorem dX3_enqueue_86 : decode cX3_enqueue 86 = .ok (.putfield 86, 3) := by decide +kernel
theorem dX3_enqueue_89 : decode cX3_enqueue 89 = .ok (.aload 4, 2) := by decide +kernel
theorem dX3_enqueue_91 : decode cX3_enqueue 91 = .ok (.dup, 1) := by decide +kernel
theorem dX3_enqueue_92 : decode cX3_enqueue 92 = .ok (.getfield 185, 3) := by decide +kernel
theorem dX3_enqueue_95 : decode cX3_enqueue 95 = .ok (.iload_n 2, 1) := by decide +kernel
theorem dX3_enqueue_96 : decode cX3_enqueue 96 = .ok (.iadd, 1) := by decide +kernel
theorem dX3_enqueue_97 : decode cX3_enqueue 97 = .ok (.putfield 185, 3) := by decide +kernel
theorem dX3_enqueue_100 : decode cX3_enqueue 100 = .ok (.return_, 1) := by decide +kernel
set_option maxRecDepth 20000 in
theorem ggX3_passTick_X3_serve : GoodIn wsX3_passTick wsX3_serve := goodIn_r _ [8, 9, 10, 11, 12, 13, 14, 15, 16, 7, 17, 18, 19, 20, 21, 1, 22, 23, 24, 25, 26, 27, 28, 29, 30, 31, 32, 33, 34, 35, 36, 37, 38, 39, 40, 41, 42, 43, 44, 45, 46, 47, 48, 49, 50, 51, 52, 53, 54, 55, 56, 57, 58, 59, 60, 61, 62, 63, 64, 65, 66, 72, 73, 74, 75, 76, 77, 78, 79, 80, 81, 82, 83, 84, 85, 86, 87, 88, 89, 90, 91, 92, 93, 94, 95, 96, 97, 98, 99, 100, 101, 102, 103] (by decide +kernel) (by decide +kernel)
set_option maxRecDepth 20000 in
theorem gX3_passTick_X3_serve : GoodIn wsX3_passTick (wsV RX3 188 RX3 yX3_serve wsX3_serve) := goodIn_app (goodIn_of _ (by decide +kernel)) ggX3_passTick_X3_serve
set_option maxRecDepth 20000 in
theorem ggX3_passTick_X3_report : GoodIn wsX3_passTick wsX3_report := goodIn_r _ [70, 42, 2, 43, 71, 9, 19, 72, 73, 74, 75, 76, 77, 78, 79, 80, 81, 82, 99, 100, 101, 102, 103, 83, 84, 85, 86, 87, 88] (by decide +kernel) (by decide +kernel)
set_option maxRecDepth 20000 in
theorem gX3_passTick_X3_report : GoodIn wsX3_passTick (wsV RX3 191 RX3 yX3_report wsX3_report) := goodIn_app (goodIn_of _ (by decide +kernel)) ggX3_passTick_X3_report
theorem dX3_passTick_0 : decode cX3_passTick 0 = .ok (.aload_n 0, 1) := by decide +kernel
theorem dX3_passTick_1 : decode cX3_passTick 1 = .ok (.dup, 1) := by decide +kernel
theorem dX3_passTick_2 : decode cX3_passTick 2 = .ok (.getfield 9, 3) := by decide +kernel
theorem dX3_passTick_5 : decode cX3_passTick 5 = .ok (.iconst 1, 1) := by decide +kernel
theorem dX3_passTick_6 : decode cX3_passTick 6 = .ok (.iadd, 1) := by decide +kernel
theorem dX3_passTick_7 : decode cX3_passTick 7 = .ok (.putfield 9, 3) := by decide +kernel
theorem dX3_passTick_10 : decode cX3_passTick 10 = .ok (.iconst 0, 1) := by decide +kernel
theorem dX3_passTick_11 : decode cX3_passTick 11 = .ok (.istore_n 1, 1) := by decide +kernel
theorem dX3_passTick_12 : decode cX3_passTick 12 = .ok (.iload_n 1, 1) := by decide +kernel
theorem dX3_passTick_13 : decode cX3_passTick 13 = .ok (.aload_n 0, 1) := by decide +kernel
theorem dX3_passTick_14 : decode cX3_passTick 14 = .ok (.getfield 25, 3) := by decide +kernel
theorem dX3_passTick_17 : decode cX3_passTick 17 = .ok (.if_icmp .ge 14, 3) := by decide +kernel
theorem dX3_passTick_20 : decode cX3_passTick 20 = .ok (.aload_n 0, 1) := by decide +kernel
theorem dX3_passTick_21 : decode cX3_passTick 21 = .ok (.iload_n 1, 1) := by decide +kernel
theorem dX3_passTick_22 : decode cX3_passTick 22 = .ok (.invokevirtual 188, 3) := by decide +kernel
theorem dX3_passTick_25 : decode cX3_passTick 25 = .ok (.iinc 1 1, 3) := by decide +kernel
theorem dX3_passTick_28 : decode cX3_passTick 28 = .ok (.goto (-16), 3) := by decide +kernel
theorem dX3_passTick_31 : decode cX3_passTick 31 = .ok (.aload_n 0, 1) := by decide +kernel
theorem dX3_passTick_32 : decode cX3_passTick 32 = .ok (.getfield 22, 3) := by decide +kernel
theorem dX3_passTick_35 : decode cX3_passTick 35 = .ok (.ifCond .le 19, 3) := by decide +kernel
theorem dX3_passTick_38 : decode cX3_passTick 38 = .ok (.aload_n 0, 1) := by decide +kernel
theorem dX3_passTick_39 : decode cX3_passTick 39 = .ok (.getfield 9, 3) := by decide +kernel
theorem dX3_passTick_42 : decode cX3_passTick 42 = .ok (.aload_n 0, 1) := by decide +kernel
theorem dX3_passTick_43 : decode cX3_passTick 43 = .ok (.getfield 22, 3) := by decide +kernel
theorem dX3_passTick_46 : decode cX3_passTick 46 = .ok (.irem, 1) := by decide +kernel
theorem dX3_passTick_47 : decode cX3_passTick 47 = .ok (.ifCond .ne 7, 3) := by decide +kernel
theorem dX3_passTick_50 : decode cX3_passTick 50 = .ok (.aload_n 0, 1) := by decide +kernel
theorem dX3_passTick_51 : decode cX3_passTick 51 = .ok (.invokevirtual 191, 3) := by decide +kernel
theorem dX3_passTick_54 : decode cX3_passTick 54 = .ok (.return_, 1) := by decide +kernel
set_option maxRecDepth 20000 in
theorem ggX3_serve_X3_finish : GoodIn wsX3_serve wsX3_finish := goodIn_r _ [10, 4, 11, 12, 13, 2, 14, 15, 16, 17, 18, 19, 20, 21, 22, 23, 24, 61, 62, 63, 64, 65, 66, 67, 68, 69, 70, 71, 78, 79, 80, 81, 82, 83, 84, 85, 86, 87, 72, 73, 74, 75, 76, 77] (by decide +kernel) (by decide +kernel)
set_option maxRecDepth 20000 in
theorem gX3_serve_X3_finish : GoodIn wsX3_serve (wsV RX3 197 RX3 yX3_finish wsX3_finish) := goodIn_app (goodIn_of _ (by decide +kernel)) ggX3_serve_X3_finish
set_option maxRecDepth 20000 in
theorem ggX3_serve_X2_isIdle : GoodIn wsX3_serve wsX2_isIdle := goodIn_r _ [29, 30, 31, 72, 73, 74, 75, 76, 77] (by decide +kernel) (by decide +kernel)
set_option maxRecDepth 20000 in
theorem gX3_serve_X2_isIdle : GoodIn wsX3_serve (wsV RX3 166 RX2 yX2_isIdle wsX2_isIdle) := goodIn_app (goodIn_of _ (by decide +kernel)) ggX3_serve_X2_isIdle
set_option maxRecDepth 20000 in
theorem ggX3_serve_X3_register : GoodIn wsX3_serve wsX3_register := goodIn_r _ [35, 36, 37, 1, 38, 39, 40, 41, 9, 42, 43, 44, 45, 46, 47, 48, 49, 50, 51, 52, 53, 54, 55, 56, 57, 58, 59, 60, 61, 62, 63, 64, 65, 66, 67, 68, 69, 70, 71, 72, 73, 74, 75, 76, 77, 88, 89, 90, 91, 92] (by decide +kernel) (by decide +kernel)
set_option maxRecDepth 20000 in
theorem gX3_serve_X3_register : GoodIn wsX3_serve (wsV RX3 72 RX3 yX3_register wsX3_register) := goodIn_app (goodIn_of _ (by decide +kernel)) ggX3_serve_X3_register
theorem dX3_serve_0 : decode cX3_serve 0 = .ok (.aload_n 0, 1) := by decide +kernel
theorem dX3_serve_1 : decode cX3_serve 1 = .ok (.getfield 33, 3) := by decide +kernel
theorem dX3_serve_4 : decode cX3_serve 4 = .ok (.iload_n 1, 1) := by decide +kernel
theorem dX3_serve_5 : decode cX3_serve 5 = .ok (.aaload, 1) := by decide +kernel
theorem dX3_serve_6 : decode cX3_serve 6 = .ok (.astore_n 2, 1) := by decide +kernel
theorem dX3_serve_7 : decode cX3_serve 7 = .ok (.aload_n 2, 1) := by decide +kernel
theorem dX3_serve_8 : decode cX3_serve 8 = .ok (.getfield 176, 3) := by decide +kernel
theorem dX3_serve_11 : decode cX3_serve 11 = .ok (.istore_n 3, 1) := by decide +kernel
theorem dX3_serve_12 : decode cX3_serve 12 = .ok (.iload_n 3, 1) := by decide +kernel
theorem dX3_serve_13 : decode cX3_serve 13 = .ok (.iconst (-1), 1) := by decide +kernel
theorem dX3_serve_14 : decode cX3_serve 14 = .ok (.if_icmp .ne 4, 3) := by decide +kernel
theorem dX3_serve_17 : decode cX3_serve 17 = .ok (.return_, 1) := by decide +kernel
theorem dX3_serve_18 : decode cX3_serve 18 = .ok (.aload_n 2, 1) := by decide +kernel
theorem dX3_serve_19 : decode cX3_serve 19 = .ok (.dup, 1) := by decide +kernel
theorem dX3_serve_20 : decode cX3_serve 20 = .ok (.getfield 185, 3) := by decide +kernel
theorem dX3_serve_23 : decode cX3_serve 23 = .ok (.iconst 1, 1) := by decide +kernel
theorem dX3_serve_24 : decode cX3_serve 24 = .ok (.isub, 1) := by decide +kernel
theorem dX3_serve_25 : decode cX3_serve 25 = .ok (.putfield 185, 3) := by decide +kernel
theorem dX3_serve_28 : decode cX3_serve 28 = .ok (.aload_n 0, 1) := by decide +kernel
theorem dX3_serve_29 : decode cX3_serve 29 = .ok (.getfield 48, 3) := by decide +kernel
theorem dX3_serve_32 : decode cX3_serve 32 = .ok (.getfield 194, 3) := by decide +kernel
theorem dX3_serve_35 : decode cX3_serve 35 = .ok (.iload_n 3, 1) := by decide +kernel
theorem dX3_serve_36 : decode cX3_serve 36 = .ok (.dup2, 1) := by decide +kernel
theorem dX3_serve_37 : decode cX3_serve 37 = .ok (.iaload, 1) := by decide +kernel
theorem dX3_serve_38 : decode cX3_serve 38 = .ok (.iconst 1, 1) := by decide +kernel
theorem dX3_serve_39 : decode cX3_serve 39 = .ok (.isub, 1) := by decide +kernel
theorem dX3_serve_40 : decode cX3_serve 40 = .ok (.iastore, 1) := by decide +kernel
theorem dX3_serve_41 : decode cX3_serve 41 = .ok (.aload_n 0, 1) := by decide +kernel
theorem dX3_serve_42 : decode cX3_serve 42 = .ok (.getfield 48, 3) := by decide +kernel
theorem dX3_serve_45 : decode cX3_serve 45 = .ok (.getfield 194, 3) := by decide +kernel
theorem dX3_serve_48 : decode cX3_serve 48 = .ok (.iload_n 3, 1) := by decide +kernel
theorem dX3_serve_49 : decode cX3_serve 49 = .ok (.iaload, 1) := by decide +kernel
theorem dX3_serve_50 : decode cX3_serve 50 = .ok (.ifCond .gt 21, 3) := by decide +kernel
theorem dX3_serve_53 : decode cX3_serve 53 = .ok (.aload_n 0, 1) := by decide +kernel
theorem dX3_serve_54 : decode cX3_serve 54 = .ok (.aload_n 2, 1) := by decide +kernel
theorem dX3_serve_55 : decode cX3_serve 55 = .ok (.iload_n 3, 1) := by decide +kernel
theorem dX3_serve_56 : decode cX3_serve 56 = .ok (.invokevirtual 197, 3) := by decide +kernel
theorem dX3_serve_59 : decode cX3_serve 59 = .ok (.aload_n 2, 1) := by decide +kernel
theorem dX3_serve_60 : decode cX3_serve 60 = .ok (.invokevirtual 166, 3) := by decide +kernel
theorem dX3_serve_63 : decode cX3_serve 63 = .ok (.ifCond .eq 8, 3) := by decide +kernel
theorem dX3_serve_66 : decode cX3_serve 66 = .ok (.aload_n 0, 1) := by decide +kernel
theorem dX3_serve_67 : decode cX3_serve 67 = .ok (.iload_n 1, 1) := by decide +kernel
theorem dX3_serve_68 : decode cX3_serve 68 = .ok (.invokevirtual 72, 3) := by decide +kernel
theorem dX3_serve_71 : decode cX3_serve 71 = .ok (.return_, 1) := by decide +kernel
set_option maxRecDepth 20000 in
theorem ggX3_finish_X1_begin : GoodIn wsX3_finish wsX1_begin := goodIn_r _ [12, 13, 14, 15, 16, 28, 29, 30, 31, 32, 33, 34, 35, 36, 37] (by decide +kernel) (by decide +kernel)
set_option maxRecDepth 20000 in
theorem gX3_finish_X1_begin : GoodIn wsX3_finish (wsV RX3 179 RX1 yX1_begin wsX1_begin) := goodIn_app (goodIn_of _ (by decide +kernel)) ggX3_finish_X1_begin
theorem dX3_finish_0 : decode cX3_finish 0 = .ok (.aload_n 0, 1) := by decide +kernel
theorem dX3_finish_1 : decode cX3_finish 1 = .ok (.getfield 48, 3) := by decide +kernel
theorem dX3_finish_4 : decode cX3_finish 4 = .ok (.dup, 1) := by decide +kernel
theorem dX3_finish_5 : decode cX3_finish 5 = .ok (.getfield 201, 3) := by decide +kernel
theorem dX3_finish_8 : decode cX3_finish 8 = .ok (.iconst 1, 1) := by decide +kernel
theorem dX3_finish_9 : decode cX3_finish 9 = .ok (.iadd, 1) := by decide +kernel
theorem dX3_finish_10 : decode cX3_finish 10 = .ok (.putfield 201, 3) := by decide +kernel
theorem dX3_finish_13 : decode cX3_finish 13 = .ok (.aload_n 1, 1) := by decide +kernel
theorem dX3_finish_14 : decode cX3_finish 14 = .ok (.dup, 1) := by decide +kernel
theorem dX3_finish_15 : decode cX3_finish 15 = .ok (.getfield 86, 3) := by decide +kernel
theorem dX3_finish_18 : decode cX3_finish 18 = .ok (.iconst 1, 1) := by decide +kernel
theorem dX3_finish_19 : decode cX3_finish 19 = .ok (.isub, 1) := by decide +kernel
theorem dX3_finish_20 : decode cX3_finish 20 = .ok (.putfield 86, 3) := by decide +kernel
theorem dX3_finish_23 : decode cX3_finish 23 = .ok (.aload_n 1, 1) := by decide +kernel
theorem dX3_finish_24 : decode cX3_finish 24 = .ok (.aload_n 0, 1) := by decide +kernel
theorem dX3_finish_25 : decode cX3_finish 25 = .ok (.getfield 48, 3) := by decide +kernel
theorem dX3_finish_28 : decode cX3_finish 28 = .ok (.getfield 182, 3) := by decide +kernel
theorem dX3_finish_31 : decode cX3_finish 31 = .ok (.iload_n 2, 1) := by decide +kernel
theorem dX3_finish_32 : decode cX3_finish 32 = .ok (.iaload, 1) := by decide +kernel
theorem dX3_finish_33 : decode cX3_finish 33 = .ok (.putfield 176, 3) := by decide +kernel
theorem dX3_finish_36 : decode cX3_finish 36 = .ok (.aload_n 1, 1) := by decide +kernel
theorem dX3_finish_37 : decode cX3_finish 37 = .ok (.getfield 176, 3) := by decide +kernel
theorem dX3_finish_40 : decode cX3_finish 40 = .ok (.iconst (-1), 1) := by decide +kernel
theorem dX3_finish_41 : decode cX3_finish 41 = .ok (.if_icmp .ne 11, 3) := by decide +kernel
theorem dX3_finish_44 : decode cX3_finish 44 = .ok (.aload_n 1, 1) := by decide +kernel
theorem dX3_finish_45 : decode cX3_finish 45 = .ok (.iconst (-1), 1) := by decide +kernel
theorem dX3_finish_46 : decode cX3_finish 46 = .ok (.putfield 173, 3) := by decide +kernel
theorem dX3_finish_49 : decode cX3_finish 49 = .ok (.goto 18, 3) := by decide +kernel
theorem dX3_finish_52 : decode cX3_finish 52 = .ok (.aload_n 0, 1) := by decide +kernel
theorem dX3_finish_53 : decode cX3_finish 53 = .ok (.getfield 48, 3) := by decide +kernel
theorem dX3_finish_56 : decode cX3_finish 56 = .ok (.aload_n 1, 1) := by decide +kernel
theorem dX3_finish_57 : decode cX3_finish 57 = .ok (.getfield 176, 3) := by decide +kernel
theorem dX3_finish_60 : decode cX3_finish 60 = .ok (.aload_n 0, 1) := by decide +kernel
theorem dX3_finish_61 : decode cX3_finish 61 = .ok (.getfield 9, 3) := by decide +kernel
theorem dX3_finish_64 : decode cX3_finish 64 = .ok (.invokevirtual 179, 3) := by decide +kernel
theorem dX3_finish_67 : decode cX3_finish 67 = .ok (.return_, 1) := by decide +kernel
theorem dX3_report_0 : decode cX3_report 0 = .ok (.iconst 0, 1) := by decide +kernel
theorem dX3_report_1 : decode cX3_report 1 = .ok (.istore_n 1, 1) := by decide +kernel
theorem dX3_report_2 : decode cX3_report 2 = .ok (.iload_n 1, 1) := by decide +kernel
theorem dX3_report_3 : decode cX3_report 3 = .ok (.aload_n 0, 1) := by decide +kernel
theorem dX3_report_4 : decode cX3_report 4 = .ok (.getfield 28, 3) := by decide +kernel
theorem dX3_report_7 : decode cX3_report 7 = .ok (.if_icmp .ge 45, 3) := by decide +kernel
theorem dX3_report_10 : decode cX3_report 10 = .ok (.iconst 0, 1) := by decide +kernel
theorem dX3_report_11 : decode cX3_report 11 = .ok (.istore_n 2, 1) := by decide +kernel
theorem dX3_report_12 : decode cX3_report 12 = .ok (.iload_n 2, 1) := by decide +kernel
theorem dX3_report_13 : decode cX3_report 13 = .ok (.aload_n 0, 1) := by decide +kernel
theorem dX3_report_14 : decode cX3_report 14 = .ok (.getfield 25, 3) := by decide +kernel
theorem dX3_report_17 : decode cX3_report 17 = .ok (.if_icmp .ge 29, 3) := by decide +kernel
theorem dX3_report_20 : decode cX3_report 20 = .ok (.aload_n 0, 1) := by decide +kernel
theorem dX3_report_21 : decode cX3_report 21 = .ok (.getfield 40, 3) := by decide +kernel
theorem dX3_report_24 : decode cX3_report 24 = .ok (.iload_n 1, 1) := by decide +kernel
theorem dX3_report_25 : decode cX3_report 25 = .ok (.aaload, 1) := by decide +kernel
theorem dX3_report_26 : decode cX3_report 26 = .ok (.getfield 125, 3) := by decide +kernel
theorem dX3_report_29 : decode cX3_report 29 = .ok (.iload_n 2, 1) := by decide +kernel
theorem dX3_report_30 : decode cX3_report 30 = .ok (.aload_n 0, 1) := by decide +kernel
theorem dX3_report_31 : decode cX3_report 31 = .ok (.getfield 33, 3) := by decide +kernel
theorem dX3_report_34 : decode cX3_report 34 = .ok (.iload_n 2, 1) := by decide +kernel
theorem dX3_report_35 : decode cX3_report 35 = .ok (.aaload, 1) := by decide +kernel
theorem dX3_report_36 : decode cX3_report 36 = .ok (.getfield 86, 3) := by decide +kernel
theorem dX3_report_39 : decode cX3_report 39 = .ok (.iastore, 1) := by decide +kernel
theorem dX3_report_40 : decode cX3_report 40 = .ok (.iinc 2 1, 3) := by decide +kernel
theorem dX3_report_43 : decode cX3_report 43 = .ok (.goto (-31), 3) := by decide +kernel
theorem dX3_report_46 : decode cX3_report 46 = .ok (.iinc 1 1, 3) := by decide +kernel
theorem dX3_report_49 : decode cX3_report 49 = .ok (.goto (-47), 3) := by decide +kernel
theorem dX3_report_52 : decode cX3_report 52 = .ok (.return_, 1) := by decide +kernel
set_option maxRecDepth 20000 in
theorem ggX3_mixAll_X4_mix : GoodIn wsX3_mixAll wsX4_mix := goodIn_r _ [16, 17] (by decide +kernel) (by decide +kernel)
set_option maxRecDepth 20000 in
theorem gX3_mixAll_X4_mix_n204 : GoodIn wsX3_mixAll (wsX4_mix) := ggX3_mixAll_X4_mix
set_option maxRecDepth 20000 in
theorem ggX3_mixAll_X2_mixAll : GoodIn wsX3_mixAll wsX2_mixAll := goodIn_r _ [22, 23, 24, 25, 26, 14, 15, 16, 17, 58, 59, 60, 61, 62, 63] (by decide +kernel) (by decide +kernel)
set_option maxRecDepth 20000 in
theorem gX3_mixAll_X2_mixAll : GoodIn wsX3_mixAll (wsV RX3 208 RX2 yX2_mixAll wsX2_mixAll) := goodIn_app (goodIn_of _ (by decide +kernel)) ggX3_mixAll_X2_mixAll
set_option maxRecDepth 20000 in
theorem ggX3_mixAll_X0_mixAll : GoodIn wsX3_mixAll wsX0_mixAll := goodIn_r _ [31, 32, 33, 34, 35, 36, 14, 15, 16, 17, 64, 65, 66, 67, 68] (by decide +kernel) (by decide +kernel)
set_option maxRecDepth 20000 in
theorem gX3_mixAll_X0_mixAll : GoodIn wsX3_mixAll (wsV RX3 212 RX0 yX0_mixAll wsX0_mixAll) := goodIn_app (goodIn_of _ (by decide +kernel)) ggX3_mixAll_X0_mixAll
theorem dX3_mixAll_0 : decode cX3_mixAll 0 = .ok (.lload_n 1, 1) := by decide +kernel
theorem dX3_mixAll_1 : decode cX3_mixAll 1 = .ok (.aload_n 0, 1) := by decide +kernel
theorem dX3_mixAll_2 : decode cX3_mixAll 2 = .ok (.getfield 9, 3) := by decide +kernel
theorem dX3_mixAll_5 : decode cX3_mixAll 5 = .ok (.i2l, 1) := by decide +kernel
theorem dX3_mixAll_6 : decode cX3_mixAll 6 = .ok (.invokestatic 204, 3) := by decide +kernel
theorem dX3_mixAll_9 : decode cX3_mixAll 9 = .ok (.lstore_n 3, 1) := by decide +kernel
theorem dX3_mixAll_10 : decode cX3_mixAll 10 = .ok (.lload_n 3, 1) := by decide +kernel
theorem dX3_mixAll_11 : decode cX3_mixAll 11 = .ok (.aload_n 0, 1) := by decide +kernel
theorem dX3_mixAll_12 : decode cX3_mixAll 12 = .ok (.getfield 15, 3) := by decide +kernel
theorem dX3_mixAll_15 : decode cX3_mixAll 15 = .ok (.invokestatic 204, 3) := by decide +kernel
theorem dX3_mixAll_18 : decode cX3_mixAll 18 = .ok (.lstore_n 3, 1) := by decide +kernel
theorem dX3_mixAll_19 : decode cX3_mixAll 19 = .ok (.lload_n 3, 1) := by decide +kernel
theorem dX3_mixAll_20 : decode cX3_mixAll 20 = .ok (.aload_n 0, 1) := by decide +kernel
theorem dX3_mixAll_21 : decode cX3_mixAll 21 = .ok (.getfield 19, 3) := by decide +kernel
theorem dX3_mixAll_24 : decode cX3_mixAll 24 = .ok (.i2l, 1) := by decide +kernel
theorem dX3_mixAll_25 : decode cX3_mixAll 25 = .ok (.invokestatic 204, 3) := by decide +kernel
theorem dX3_mixAll_28 : decode cX3_mixAll 28 = .ok (.lstore_n 3, 1) := by decide +kernel
theorem dX3_mixAll_29 : decode cX3_mixAll 29 = .ok (.lload_n 3, 1) := by decide +kernel
theorem dX3_mixAll_30 : decode cX3_mixAll 30 = .ok (.aload_n 0, 1) := by decide +kernel
theorem dX3_mixAll_31 : decode cX3_mixAll 31 = .ok (.getfield 22, 3) := by decide +kernel
theorem dX3_mixAll_34 : decode cX3_mixAll 34 = .ok (.i2l, 1) := by decide +kernel
theorem dX3_mixAll_35 : decode cX3_mixAll 35 = .ok (.invokestatic 204, 3) := by decide +kernel
theorem dX3_mixAll_38 : decode cX3_mixAll 38 = .ok (.lstore_n 3, 1) := by decide +kernel
theorem dX3_mixAll_39 : decode cX3_mixAll 39 = .ok (.lload_n 3, 1) := by decide +kernel
theorem dX3_mixAll_40 : decode cX3_mixAll 40 = .ok (.aload_n 0, 1) := by decide +kernel
theorem dX3_mixAll_41 : decode cX3_mixAll 41 = .ok (.getfield 25, 3) := by decide +kernel
theorem dX3_mixAll_44 : decode cX3_mixAll 44 = .ok (.i2l, 1) := by decide +kernel
theorem dX3_mixAll_45 : decode cX3_mixAll 45 = .ok (.invokestatic 204, 3) := by decide +kernel
theorem dX3_mixAll_48 : decode cX3_mixAll 48 = .ok (.lstore_n 3, 1) := by decide +kernel
theorem dX3_mixAll_49 : decode cX3_mixAll 49 = .ok (.iconst 0, 1) := by decide +kernel
theorem dX3_mixAll_50 : decode cX3_mixAll 50 = .ok (.istore 5, 2) := by decide +kernel
theorem dX3_mixAll_52 : decode cX3_mixAll 52 = .ok (.iload 5, 2) := by decide +kernel
theorem dX3_mixAll_54 : decode cX3_mixAll 54 = .ok (.aload_n 0, 1) := by decide +kernel
theorem dX3_mixAll_55 : decode cX3_mixAll 55 = .ok (.getfield 25, 3) := by decide +kernel
theorem dX3_mixAll_58 : decode cX3_mixAll 58 = .ok (.if_icmp .ge 21, 3) := by decide +kernel
theorem dX3_mixAll_61 : decode cX3_mixAll 61 = .ok (.aload_n 0, 1) := by decide +kernel
theorem dX3_mixAll_62 : decode cX3_mixAll 62 = .ok (.getfield 33, 3) := by decide +kernel
theorem dX3_mixAll_65 : decode cX3_mixAll 65 = .ok (.iload 5, 2) := by decide +kernel
theorem dX3_mixAll_67 : decode cX3_mixAll 67 = .ok (.aaload, 1) := by decide +kernel
theorem dX3_mixAll_68 : decode cX3_mixAll 68 = .ok (.lload_n 3, 1) := by decide +kernel
theorem dX3_mixAll_69 : decode cX3_mixAll 69 = .ok (.invokevirtual 208, 3) := by decide +kernel
theorem dX3_mixAll_72 : decode cX3_mixAll 72 = .ok (.lstore_n 3, 1) := by decide +kernel
theorem dX3_mixAll_73 : decode cX3_mixAll 73 = .ok (.iinc 5 1, 3) := by decide +kernel
theorem dX3_mixAll_76 : decode cX3_mixAll 76 = .ok (.goto (-24), 3) := by decide +kernel
theorem dX3_mixAll_79 : decode cX3_mixAll 79 = .ok (.lload_n 3, 1) := by decide +kernel
theorem dX3_mixAll_80 : decode cX3_mixAll 80 = .ok (.aload_n 0, 1) := by decide +kernel
theorem dX3_mixAll_81 : decode cX3_mixAll 81 = .ok (.getfield 28, 3) := by decide +kernel
theorem dX3_mixAll_84 : decode cX3_mixAll 84 = .ok (.i2l, 1) := by decide +kernel
theorem dX3_mixAll_85 : decode cX3_mixAll 85 = .ok (.invokestatic 204, 3) := by decide +kernel
theorem dX3_mixAll_88 : decode cX3_mixAll 88 = .ok (.lstore_n 3, 1) := by decide +kernel
theorem dX3_mixAll_89 : decode cX3_mixAll 89 = .ok (.iconst 0, 1) := by decide +kernel
theorem dX3_mixAll_90 : decode cX3_mixAll 90 = .ok (.istore 5, 2) := by decide +kernel
theorem dX3_mixAll_92 : decode cX3_mixAll 92 = .ok (.iload 5, 2) := by decide +kernel
theorem dX3_mixAll_94 : decode cX3_mixAll 94 = .ok (.aload_n 0, 1) := by decide +kernel
theorem dX3_mixAll_95 : decode cX3_mixAll 95 = .ok (.getfield 28, 3) := by decide +kernel
theorem dX3_mixAll_98 : decode cX3_mixAll 98 = .ok (.if_icmp .ge 25, 3) := by decide +kernel
theorem dX3_mixAll_101 : decode cX3_mixAll 101 = .ok (.aload_n 0, 1) := by decide +kernel
theorem dX3_mixAll_102 : decode cX3_mixAll 102 = .ok (.getfield 40, 3) := by decide +kernel
theorem dX3_mixAll_105 : decode cX3_mixAll 105 = .ok (.iload 5, 2) := by decide +kernel
theorem dX3_mixAll_107 : decode cX3_mixAll 107 = .ok (.aaload, 1) := by decide +kernel
theorem dX3_mixAll_108 : decode cX3_mixAll 108 = .ok (.lload_n 3, 1) := by decide +kernel
theorem dX3_mixAll_109 : decode cX3_mixAll 109 = .ok (.aload_n 0, 1) := by decide +kernel
theorem dX3_mixAll_110 : decode cX3_mixAll 110 = .ok (.getfield 25, 3) := by decide +kernel
theorem dX3_mixAll_113 : decode cX3_mixAll 113 = .ok (.invokevirtual 212, 3) := by decide +kernel
theorem dX3_mixAll_116 : decode cX3_mixAll 116 = .ok (.lstore_n 3, 1) := by decide +kernel
theorem dX3_mixAll_117 : decode cX3_mixAll 117 = .ok (.iinc 5 1, 3) := by decide +kernel
theorem dX3_mixAll_120 : decode cX3_mixAll 120 = .ok (.goto (-28), 3) := by decide +kernel
theorem dX3_mixAll_123 : decode cX3_mixAll 123 = .ok (.lload_n 3, 1) := by decide +kernel
theorem dX3_mixAll_124 : decode cX3_mixAll 124 = .ok (.aload_n 0, 1) := by decide +kernel
theorem dX3_mixAll_125 : decode cX3_mixAll 125 = .ok (.getfield 48, 3) := by decide +kernel
theorem dX3_mixAll_128 : decode cX3_mixAll 128 = .ok (.getfield 215, 3) := by decide +kernel
theorem dX3_mixAll_131 : decode cX3_mixAll 131 = .ok (.i2l, 1) := by decide +kernel
theorem dX3_mixAll_132 : decode cX3_mixAll 132 = .ok (.invokestatic 204, 3) := by decide +kernel
theorem dX3_mixAll_135 : decode cX3_mixAll 135 = .ok (.lstore_n 3, 1) := by decide +kernel
theorem dX3_mixAll_136 : decode cX3_mixAll 136 = .ok (.lload_n 3, 1) := by decide +kernel

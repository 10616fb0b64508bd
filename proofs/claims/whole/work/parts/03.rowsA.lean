theorem dX0_init_0 : decode cX0_init 0 = .ok (.aload_n 0, 1) := by decide +kernel
theorem dX0_init_1 : decode cX0_init 1 = .ok (.invokespecial 1, 3) := by decide +kernel
theorem dX0_init_4 : decode cX0_init 4 = .ok (.aload_n 0, 1) := by decide +kernel
theorem dX0_init_5 : decode cX0_init 5 = .ok (.new 7, 3) := by decide +kernel
theorem dX0_init_8 : decode cX0_init 8 = .ok (.dup, 1) := by decide +kernel
theorem dX0_init_9 : decode cX0_init 9 = .ok (.invokespecial 9, 3) := by decide +kernel
theorem dX0_init_12 : decode cX0_init 12 = .ok (.putfield 10, 3) := by decide +kernel
theorem dX0_init_15 : decode cX0_init 15 = .ok (.aload_n 0, 1) := by decide +kernel
theorem dX0_init_16 : decode cX0_init 16 = .ok (.new 16, 3) := by decide +kernel
theorem dX0_init_19 : decode cX0_init 19 = .ok (.dup, 1) := by decide +kernel
theorem dX0_init_20 : decode cX0_init 20 = .ok (.invokespecial 18, 3) := by decide +kernel
theorem dX0_init_23 : decode cX0_init 23 = .ok (.putfield 19, 3) := by decide +kernel
theorem dX0_init_26 : decode cX0_init 26 = .ok (.aload_n 0, 1) := by decide +kernel
theorem dX0_init_27 : decode cX0_init 27 = .ok (.iconst 0, 1) := by decide +kernel
theorem dX0_init_28 : decode cX0_init 28 = .ok (.putfield 23, 3) := by decide +kernel
theorem dX0_init_31 : decode cX0_init 31 = .ok (.return_, 1) := by decide +kernel
theorem dX0_entries_0 : decode cX0_entries 0 = .ok (.aload_n 0, 1) := by decide +kernel
theorem dX0_entries_1 : decode cX0_entries 1 = .ok (.getfield 10, 3) := by decide +kernel
theorem dX0_entries_4 : decode cX0_entries 4 = .ok (.getfield 27, 3) := by decide +kernel
theorem dX0_entries_7 : decode cX0_entries 7 = .ok (.aload_n 0, 1) := by decide +kernel
theorem dX0_entries_8 : decode cX0_entries 8 = .ok (.getfield 19, 3) := by decide +kernel
theorem dX0_entries_11 : decode cX0_entries 11 = .ok (.getfield 31, 3) := by decide +kernel
theorem dX0_entries_14 : decode cX0_entries 14 = .ok (.iadd, 1) := by decide +kernel
theorem dX0_entries_15 : decode cX0_entries 15 = .ok (.ireturn, 1) := by decide +kernel
set_option maxRecDepth 20000 in
theorem ggX0_copyFrom_X2_copyFrom : GoodIn wsX0_copyFrom wsX2_copyFrom := goodIn_r _ [7, 8, 9, 10, 11, 12, 13, 14, 15, 16, 31, 32, 33, 34, 35] (by decide +kernel) (by decide +kernel)
set_option maxRecDepth 20000 in
theorem gX0_copyFrom_X2_copyFrom : GoodIn wsX0_copyFrom (wsV RX0 32 RX2 yX2_copyFrom wsX2_copyFrom) := goodIn_app (goodIn_of _ (by decide +kernel)) ggX0_copyFrom_X2_copyFrom
set_option maxRecDepth 20000 in
theorem ggX0_copyFrom_X1_copyFrom : GoodIn wsX0_copyFrom wsX1_copyFrom := goodIn_r _ [21, 22, 23, 10, 11, 12, 24, 25, 26, 27, 36, 37, 38, 39, 40] (by decide +kernel) (by decide +kernel)
set_option maxRecDepth 20000 in
theorem gX0_copyFrom_X1_copyFrom : GoodIn wsX0_copyFrom (wsV RX0 36 RX1 yX1_copyFrom wsX1_copyFrom) := goodIn_app (goodIn_of _ (by decide +kernel)) ggX0_copyFrom_X1_copyFrom
theorem dX0_copyFrom_0 : decode cX0_copyFrom 0 = .ok (.aload_n 0, 1) := by decide +kernel
theorem dX0_copyFrom_1 : decode cX0_copyFrom 1 = .ok (.getfield 10, 3) := by decide +kernel
theorem dX0_copyFrom_4 : decode cX0_copyFrom 4 = .ok (.aload_n 1, 1) := by decide +kernel
theorem dX0_copyFrom_5 : decode cX0_copyFrom 5 = .ok (.getfield 10, 3) := by decide +kernel
theorem dX0_copyFrom_8 : decode cX0_copyFrom 8 = .ok (.invokevirtual 32, 3) := by decide +kernel
theorem dX0_copyFrom_11 : decode cX0_copyFrom 11 = .ok (.aload_n 0, 1) := by decide +kernel
theorem dX0_copyFrom_12 : decode cX0_copyFrom 12 = .ok (.getfield 19, 3) := by decide +kernel
theorem dX0_copyFrom_15 : decode cX0_copyFrom 15 = .ok (.aload_n 1, 1) := by decide +kernel
theorem dX0_copyFrom_16 : decode cX0_copyFrom 16 = .ok (.getfield 19, 3) := by decide +kernel
theorem dX0_copyFrom_19 : decode cX0_copyFrom 19 = .ok (.invokevirtual 36, 3) := by decide +kernel
theorem dX0_copyFrom_22 : decode cX0_copyFrom 22 = .ok (.return_, 1) := by decide +kernel
theorem dX1_init_0 : decode cX1_init 0 = .ok (.aload_n 0, 1) := by decide +kernel
theorem dX1_init_1 : decode cX1_init 1 = .ok (.invokespecial 1, 3) := by decide +kernel
theorem dX1_init_4 : decode cX1_init 4 = .ok (.aload_n 0, 1) := by decide +kernel
theorem dX1_init_5 : decode cX1_init 5 = .ok (.bipush 16, 2) := by decide +kernel
theorem dX1_init_7 : decode cX1_init 7 = .ok (.newarray .int, 2) := by decide +kernel
theorem dX1_init_9 : decode cX1_init 9 = .ok (.putfield 9, 3) := by decide +kernel
theorem dX1_init_12 : decode cX1_init 12 = .ok (.aload_n 0, 1) := by decide +kernel
theorem dX1_init_13 : decode cX1_init 13 = .ok (.bipush 16, 2) := by decide +kernel
theorem dX1_init_15 : decode cX1_init 15 = .ok (.newarray .int, 2) := by decide +kernel
theorem dX1_init_17 : decode cX1_init 17 = .ok (.putfield 13, 3) := by decide +kernel
theorem dX1_init_20 : decode cX1_init 20 = .ok (.aload_n 0, 1) := by decide +kernel
theorem dX1_init_21 : decode cX1_init 21 = .ok (.bipush 16, 2) := by decide +kernel
theorem dX1_init_23 : decode cX1_init 23 = .ok (.newarray .int, 2) := by decide +kernel
theorem dX1_init_25 : decode cX1_init 25 = .ok (.putfield 16, 3) := by decide +kernel
theorem dX1_init_28 : decode cX1_init 28 = .ok (.aload_n 0, 1) := by decide +kernel
theorem dX1_init_29 : decode cX1_init 29 = .ok (.bipush 16, 2) := by decide +kernel
theorem dX1_init_31 : decode cX1_init 31 = .ok (.newarray .int, 2) := by decide +kernel
theorem dX1_init_33 : decode cX1_init 33 = .ok (.putfield 19, 3) := by decide +kernel
theorem dX1_init_36 : decode cX1_init 36 = .ok (.aload_n 0, 1) := by decide +kernel
theorem dX1_init_37 : decode cX1_init 37 = .ok (.iconst 0, 1) := by decide +kernel
theorem dX1_init_38 : decode cX1_init 38 = .ok (.putfield 22, 3) := by decide +kernel
theorem dX1_init_41 : decode cX1_init 41 = .ok (.return_, 1) := by decide +kernel
theorem dX1_copyFrom_0 : decode cX1_copyFrom 0 = .ok (.aload_n 1, 1) := by decide +kernel
theorem dX1_copyFrom_1 : decode cX1_copyFrom 1 = .ok (.getfield 9, 3) := by decide +kernel
theorem dX1_copyFrom_4 : decode cX1_copyFrom 4 = .ok (.iconst 0, 1) := by decide +kernel
theorem dX1_copyFrom_5 : decode cX1_copyFrom 5 = .ok (.aload_n 0, 1) := by decide +kernel
theorem dX1_copyFrom_6 : decode cX1_copyFrom 6 = .ok (.getfield 9, 3) := by decide +kernel
theorem dX1_copyFrom_9 : decode cX1_copyFrom 9 = .ok (.iconst 0, 1) := by decide +kernel
theorem dX1_copyFrom_10 : decode cX1_copyFrom 10 = .ok (.bipush 16, 2) := by decide +kernel
theorem dX1_copyFrom_12 : decode cX1_copyFrom 12 = .ok (.invokestatic 26, 3) := by decide +kernel
theorem dX1_copyFrom_15 : decode cX1_copyFrom 15 = .ok (.aload_n 1, 1) := by decide +kernel
theorem dX1_copyFrom_16 : decode cX1_copyFrom 16 = .ok (.getfield 13, 3) := by decide +kernel
theorem dX1_copyFrom_19 : decode cX1_copyFrom 19 = .ok (.iconst 0, 1) := by decide +kernel
theorem dX1_copyFrom_20 : decode cX1_copyFrom 20 = .ok (.aload_n 0, 1) := by decide +kernel
theorem dX1_copyFrom_21 : decode cX1_copyFrom 21 = .ok (.getfield 13, 3) := by decide +kernel
theorem dX1_copyFrom_24 : decode cX1_copyFrom 24 = .ok (.iconst 0, 1) := by decide +kernel
theorem dX1_copyFrom_25 : decode cX1_copyFrom 25 = .ok (.bipush 16, 2) := by decide +kernel
theorem dX1_copyFrom_27 : decode cX1_copyFrom 27 = .ok (.invokestatic 26, 3) := by decide +kernel
theorem dX1_copyFrom_30 : decode cX1_copyFrom 30 = .ok (.aload_n 1, 1) := by decide +kernel
theorem dX1_copyFrom_31 : decode cX1_copyFrom 31 = .ok (.getfield 16, 3) := by decide +kernel
theorem dX1_copyFrom_34 : decode cX1_copyFrom 34 = .ok (.iconst 0, 1) := by decide +kernel
theorem dX1_copyFrom_35 : decode cX1_copyFrom 35 = .ok (.aload_n 0, 1) := by decide +kernel
theorem dX1_copyFrom_36 : decode cX1_copyFrom 36 = .ok (.getfield 16, 3) := by decide +kernel
theorem dX1_copyFrom_39 : decode cX1_copyFrom 39 = .ok (.iconst 0, 1) := by decide +kernel
theorem dX1_copyFrom_40 : decode cX1_copyFrom 40 = .ok (.bipush 16, 2) := by decide +kernel
theorem dX1_copyFrom_42 : decode cX1_copyFrom 42 = .ok (.invokestatic 26, 3) := by decide +kernel
theorem dX1_copyFrom_45 : decode cX1_copyFrom 45 = .ok (.aload_n 1, 1) := by decide +kernel
theorem dX1_copyFrom_46 : decode cX1_copyFrom 46 = .ok (.getfield 19, 3) := by decide +kernel
theorem dX1_copyFrom_49 : decode cX1_copyFrom 49 = .ok (.iconst 0, 1) := by decide +kernel
theorem dX1_copyFrom_50 : decode cX1_copyFrom 50 = .ok (.aload_n 0, 1) := by decide +kernel
theorem dX1_copyFrom_51 : decode cX1_copyFrom 51 = .ok (.getfield 19, 3) := by decide +kernel
theorem dX1_copyFrom_54 : decode cX1_copyFrom 54 = .ok (.iconst 0, 1) := by decide +kernel
theorem dX1_copyFrom_55 : decode cX1_copyFrom 55 = .ok (.bipush 16, 2) := by decide +kernel
theorem dX1_copyFrom_57 : decode cX1_copyFrom 57 = .ok (.invokestatic 26, 3) := by decide +kernel
theorem dX1_copyFrom_60 : decode cX1_copyFrom 60 = .ok (.aload_n 0, 1) := by decide +kernel
theorem dX1_copyFrom_61 : decode cX1_copyFrom 61 = .ok (.aload_n 1, 1) := by decide +kernel
theorem dX1_copyFrom_62 : decode cX1_copyFrom 62 = .ok (.getfield 22, 3) := by decide +kernel
theorem dX1_copyFrom_65 : decode cX1_copyFrom 65 = .ok (.putfield 22, 3) := by decide +kernel
theorem dX1_copyFrom_68 : decode cX1_copyFrom 68 = .ok (.return_, 1) := by decide +kernel
theorem dX1_isFull_0 : decode cX1_isFull 0 = .ok (.aload_n 0, 1) := by decide +kernel
theorem dX1_isFull_1 : decode cX1_isFull 1 = .ok (.getfield 22, 3) := by decide +kernel
theorem dX1_isFull_4 : decode cX1_isFull 4 = .ok (.bipush 16, 2) := by decide +kernel
theorem dX1_isFull_6 : decode cX1_isFull 6 = .ok (.if_icmp .lt 7, 3) := by decide +kernel
theorem dX1_isFull_9 : decode cX1_isFull 9 = .ok (.iconst 1, 1) := by decide +kernel
theorem dX1_isFull_10 : decode cX1_isFull 10 = .ok (.goto 4, 3) := by decide +kernel
theorem dX1_isFull_13 : decode cX1_isFull 13 = .ok (.iconst 0, 1) := by decide +kernel
theorem dX1_isFull_14 : decode cX1_isFull 14 = .ok (.ireturn, 1) := by decide +kernel
theorem dX1_has_0 : decode cX1_has 0 = .ok (.iload_n 1, 1) := by decide +kernel
theorem dX1_has_1 : decode cX1_has 1 = .ok (.ifCond .lt 15, 3) := by decide +kernel
theorem dX1_has_4 : decode cX1_has 4 = .ok (.iload_n 1, 1) := by decide +kernel
theorem dX1_has_5 : decode cX1_has 5 = .ok (.aload_n 0, 1) := by decide +kernel
theorem dX1_has_6 : decode cX1_has 6 = .ok (.getfield 22, 3) := by decide +kernel
theorem dX1_has_9 : decode cX1_has 9 = .ok (.if_icmp .ge 7, 3) := by decide +kernel
theorem dX1_has_12 : decode cX1_has 12 = .ok (.iconst 1, 1) := by decide +kernel
theorem dX1_has_13 : decode cX1_has 13 = .ok (.goto 4, 3) := by decide +kernel
theorem dX1_has_16 : decode cX1_has 16 = .ok (.iconst 0, 1) := by decide +kernel
theorem dX1_has_17 : decode cX1_has 17 = .ok (.ireturn, 1) := by decide +kernel
theorem dX1_add_0 : decode cX1_add 0 = .ok (.aload_n 0, 1) := by decide +kernel
theorem dX1_add_1 : decode cX1_add 1 = .ok (.getfield 9, 3) := by decide +kernel
theorem dX1_add_4 : decode cX1_add 4 = .ok (.aload_n 0, 1) := by decide +kernel
theorem dX1_add_5 : decode cX1_add 5 = .ok (.getfield 22, 3) := by decide +kernel
theorem dX1_add_8 : decode cX1_add 8 = .ok (.iload_n 1, 1) := by decide +kernel
theorem dX1_add_9 : decode cX1_add 9 = .ok (.iastore, 1) := by decide +kernel
theorem dX1_add_10 : decode cX1_add 10 = .ok (.aload_n 0, 1) := by decide +kernel
theorem dX1_add_11 : decode cX1_add 11 = .ok (.getfield 13, 3) := by decide +kernel
theorem dX1_add_14 : decode cX1_add 14 = .ok (.aload_n 0, 1) := by decide +kernel
theorem dX1_add_15 : decode cX1_add 15 = .ok (.getfield 22, 3) := by decide +kernel
theorem dX1_add_18 : decode cX1_add 18 = .ok (.iload_n 2, 1) := by decide +kernel
theorem dX1_add_19 : decode cX1_add 19 = .ok (.iastore, 1) := by decide +kernel
theorem dX1_add_20 : decode cX1_add 20 = .ok (.aload_n 0, 1) := by decide +kernel
theorem dX1_add_21 : decode cX1_add 21 = .ok (.getfield 16, 3) := by decide +kernel
theorem dX1_add_24 : decode cX1_add 24 = .ok (.aload_n 0, 1) := by decide +kernel
theorem dX1_add_25 : decode cX1_add 25 = .ok (.getfield 22, 3) := by decide +kernel
theorem dX1_add_28 : decode cX1_add 28 = .ok (.iload_n 3, 1) := by decide +kernel
theorem dX1_add_29 : decode cX1_add 29 = .ok (.iastore, 1) := by decide +kernel
theorem dX1_add_30 : decode cX1_add 30 = .ok (.aload_n 0, 1) := by decide +kernel
theorem dX1_add_31 : decode cX1_add 31 = .ok (.getfield 19, 3) := by decide +kernel
theorem dX1_add_34 : decode cX1_add 34 = .ok (.aload_n 0, 1) := by decide +kernel
theorem dX1_add_35 : decode cX1_add 35 = .ok (.getfield 22, 3) := by decide +kernel
theorem dX1_add_38 : decode cX1_add 38 = .ok (.iconst 0, 1) := by decide +kernel
theorem dX1_add_39 : decode cX1_add 39 = .ok (.iastore, 1) := by decide +kernel
theorem dX1_add_40 : decode cX1_add 40 = .ok (.aload_n 0, 1) := by decide +kernel
theorem dX1_add_41 : decode cX1_add 41 = .ok (.dup, 1) := by decide +kernel
theorem dX1_add_42 : decode cX1_add 42 = .ok (.getfield 22, 3) := by decide +kernel
theorem dX1_add_45 : decode cX1_add 45 = .ok (.iconst 1, 1) := by decide +kernel
theorem dX1_add_46 : decode cX1_add 46 = .ok (.iadd, 1) := by decide +kernel
theorem dX1_add_47 : decode cX1_add 47 = .ok (.putfield 22, 3) := by decide +kernel
theorem dX1_add_50 : decode cX1_add 50 = .ok (.aload_n 0, 1) := by decide +kernel
theorem dX1_add_51 : decode cX1_add 51 = .ok (.getfield 22, 3) := by decide +kernel
theorem dX1_add_54 : decode cX1_add 54 = .ok (.iconst 1, 1) := by decide +kernel
theorem dX1_add_55 : decode cX1_add 55 = .ok (.isub, 1) := by decide +kernel
theorem dX1_add_56 : decode cX1_add 56 = .ok (.ireturn, 1) := by decide +kernel
theorem dX1_cameCount_0 : decode cX1_cameCount 0 = .ok (.iconst 0, 1) := by decide +kernel
theorem dX1_cameCount_1 : decode cX1_cameCount 1 = .ok (.istore_n 1, 1) := by decide +kernel
theorem dX1_cameCount_2 : decode cX1_cameCount 2 = .ok (.iconst 0, 1) := by decide +kernel
theorem dX1_cameCount_3 : decode cX1_cameCount 3 = .ok (.istore_n 2, 1) := by decide +kernel
theorem dX1_cameCount_4 : decode cX1_cameCount 4 = .ok (.iload_n 2, 1) := by decide +kernel
theorem dX1_cameCount_5 : decode cX1_cameCount 5 = .ok (.aload_n 0, 1) := by decide +kernel
theorem dX1_cameCount_6 : decode cX1_cameCount 6 = .ok (.getfield 22, 3) := by decide +kernel
theorem dX1_cameCount_9 : decode cX1_cameCount 9 = .ok (.if_icmp .ge 18, 3) := by decide +kernel
theorem dX1_cameCount_12 : decode cX1_cameCount 12 = .ok (.iload_n 1, 1) := by decide +kernel
theorem dX1_cameCount_13 : decode cX1_cameCount 13 = .ok (.aload_n 0, 1) := by decide +kernel
theorem dX1_cameCount_14 : decode cX1_cameCount 14 = .ok (.getfield 16, 3) := by decide +kernel
theorem dX1_cameCount_17 : decode cX1_cameCount 17 = .ok (.iload_n 2, 1) := by decide +kernel
theorem dX1_cameCount_18 : decode cX1_cameCount 18 = .ok (.iaload, 1) := by decide +kernel
theorem dX1_cameCount_19 : decode cX1_cameCount 19 = .ok (.iadd, 1) := by decide +kernel
theorem dX1_cameCount_20 : decode cX1_cameCount 20 = .ok (.istore_n 1, 1) := by decide +kernel
theorem dX1_cameCount_21 : decode cX1_cameCount 21 = .ok (.iinc 2 1, 3) := by decide +kernel
theorem dX1_cameCount_24 : decode cX1_cameCount 24 = .ok (.goto (-20), 3) := by decide +kernel
theorem dX1_cameCount_27 : decode cX1_cameCount 27 = .ok (.iload_n 1, 1) := by decide +kernel
theorem dX1_cameCount_28 : decode cX1_cameCount 28 = .ok (.ireturn, 1) := by decide +kernel
theorem dX1_squaresOff_0 : decode cX1_squaresOff 0 = .ok (.iconst 0, 1) := by decide +kernel
theorem dX1_squaresOff_1 : decode cX1_squaresOff 1 = .ok (.istore_n 2, 1) := by decide +kernel
theorem dX1_squaresOff_2 : decode cX1_squaresOff 2 = .ok (.iconst 0, 1) := by decide +kernel
theorem dX1_squaresOff_3 : decode cX1_squaresOff 3 = .ok (.istore_n 3, 1) := by decide +kernel
theorem dX1_squaresOff_4 : decode cX1_squaresOff 4 = .ok (.iload_n 3, 1) := by decide +kernel
theorem dX1_squaresOff_5 : decode cX1_squaresOff 5 = .ok (.aload_n 0, 1) := by decide +kernel
theorem dX1_squaresOff_6 : decode cX1_squaresOff 6 = .ok (.getfield 22, 3) := by decide +kernel
theorem dX1_squaresOff_9 : decode cX1_squaresOff 9 = .ok (.if_icmp .ge 32, 3) := by decide +kernel
theorem dX1_squaresOff_12 : decode cX1_squaresOff 12 = .ok (.aload_n 1, 1) := by decide +kernel
theorem dX1_squaresOff_13 : decode cX1_squaresOff 13 = .ok (.iload_n 3, 1) := by decide +kernel
theorem dX1_squaresOff_14 : decode cX1_squaresOff 14 = .ok (.iaload, 1) := by decide +kernel
theorem dX1_squaresOff_15 : decode cX1_squaresOff 15 = .ok (.bipush 100, 2) := by decide +kernel
theorem dX1_squaresOff_17 : decode cX1_squaresOff 17 = .ok (.aload_n 0, 1) := by decide +kernel
theorem dX1_squaresOff_18 : decode cX1_squaresOff 18 = .ok (.getfield 16, 3) := by decide +kernel
theorem dX1_squaresOff_21 : decode cX1_squaresOff 21 = .ok (.iload_n 3, 1) := by decide +kernel
theorem dX1_squaresOff_22 : decode cX1_squaresOff 22 = .ok (.iaload, 1) := by decide +kernel
theorem dX1_squaresOff_23 : decode cX1_squaresOff 23 = .ok (.imul, 1) := by decide +kernel
theorem dX1_squaresOff_24 : decode cX1_squaresOff 24 = .ok (.isub, 1) := by decide +kernel
theorem dX1_squaresOff_25 : decode cX1_squaresOff 25 = .ok (.istore 4, 2) := by decide +kernel
theorem dX1_squaresOff_27 : decode cX1_squaresOff 27 = .ok (.iload_n 2, 1) := by decide +kernel
theorem dX1_squaresOff_28 : decode cX1_squaresOff 28 = .ok (.iload 4, 2) := by decide +kernel
theorem dX1_squaresOff_30 : decode cX1_squaresOff 30 = .ok (.iload 4, 2) := by decide +kernel
theorem dX1_squaresOff_32 : decode cX1_squaresOff 32 = .ok (.imul, 1) := by decide +kernel
theorem dX1_squaresOff_33 : decode cX1_squaresOff 33 = .ok (.iadd, 1) := by decide +kernel
theorem dX1_squaresOff_34 : decode cX1_squaresOff 34 = .ok (.istore_n 2, 1) := by decide +kernel
theorem dX1_squaresOff_35 : decode cX1_squaresOff 35 = .ok (.iinc 3 1, 3) := by decide +kernel
theorem dX1_squaresOff_38 : decode cX1_squaresOff 38 = .ok (.goto (-34), 3) := by decide +kernel
theorem dX1_squaresOff_41 : decode cX1_squaresOff 41 = .ok (.iload_n 2, 1) := by decide +kernel
theorem dX1_squaresOff_42 : decode cX1_squaresOff 42 = .ok (.ireturn, 1) := by decide +kernel
set_option maxRecDepth 20000 in
theorem ggX1_pairsRight_J6_compare_7cf53 : GoodIn wsX1_pairsRight wsJ6_compare_7cf53 := goodIn_r _ [6] (by decide +kernel) (by decide +kernel)
set_option maxRecDepth 20000 in
theorem gX1_pairsRight_J6_compare_7cf53 : GoodIn wsX1_pairsRight (va_wsS RX1 32 yJ6_compare_7cf53 wsJ6_compare_7cf53) := goodIn_app (goodIn_of _ (by decide +kernel)) ggX1_pairsRight_J6_compare_7cf53
theorem dX1_pairsRight_0 : decode cX1_pairsRight 0 = .ok (.iconst 0, 1) := by decide +kernel
theorem dX1_pairsRight_1 : decode cX1_pairsRight 1 = .ok (.istore_n 2, 1) := by decide +kernel
theorem dX1_pairsRight_2 : decode cX1_pairsRight 2 = .ok (.iconst 0, 1) := by decide +kernel
theorem dX1_pairsRight_3 : decode cX1_pairsRight 3 = .ok (.istore_n 3, 1) := by decide +kernel
theorem dX1_pairsRight_4 : decode cX1_pairsRight 4 = .ok (.iload_n 3, 1) := by decide +kernel
theorem dX1_pairsRight_5 : decode cX1_pairsRight 5 = .ok (.aload_n 0, 1) := by decide +kernel
theorem dX1_pairsRight_6 : decode cX1_pairsRight 6 = .ok (.getfield 22, 3) := by decide +kernel
theorem dX1_pairsRight_9 : decode cX1_pairsRight 9 = .ok (.if_icmp .ge 62, 3) := by decide +kernel
theorem dX1_pairsRight_12 : decode cX1_pairsRight 12 = .ok (.iconst 0, 1) := by decide +kernel
theorem dX1_pairsRight_13 : decode cX1_pairsRight 13 = .ok (.istore 4, 2) := by decide +kernel
theorem dX1_pairsRight_15 : decode cX1_pairsRight 15 = .ok (.iload 4, 2) := by decide +kernel
theorem dX1_pairsRight_17 : decode cX1_pairsRight 17 = .ok (.aload_n 0, 1) := by decide +kernel
theorem dX1_pairsRight_18 : decode cX1_pairsRight 18 = .ok (.getfield 22, 3) := by decide +kernel
theorem dX1_pairsRight_21 : decode cX1_pairsRight 21 = .ok (.if_icmp .ge 44, 3) := by decide +kernel
theorem dX1_pairsRight_24 : decode cX1_pairsRight 24 = .ok (.aload_n 0, 1) := by decide +kernel
theorem dX1_pairsRight_25 : decode cX1_pairsRight 25 = .ok (.getfield 16, 3) := by decide +kernel
theorem dX1_pairsRight_28 : decode cX1_pairsRight 28 = .ok (.iload_n 3, 1) := by decide +kernel
theorem dX1_pairsRight_29 : decode cX1_pairsRight 29 = .ok (.iaload, 1) := by decide +kernel
theorem dX1_pairsRight_30 : decode cX1_pairsRight 30 = .ok (.iconst 1, 1) := by decide +kernel
theorem dX1_pairsRight_31 : decode cX1_pairsRight 31 = .ok (.if_icmp .ne 28, 3) := by decide +kernel
theorem dX1_pairsRight_34 : decode cX1_pairsRight 34 = .ok (.aload_n 0, 1) := by decide +kernel
theorem dX1_pairsRight_35 : decode cX1_pairsRight 35 = .ok (.getfield 16, 3) := by decide +kernel
theorem dX1_pairsRight_38 : decode cX1_pairsRight 38 = .ok (.iload 4, 2) := by decide +kernel
theorem dX1_pairsRight_40 : decode cX1_pairsRight 40 = .ok (.iaload, 1) := by decide +kernel
theorem dX1_pairsRight_41 : decode cX1_pairsRight 41 = .ok (.ifCond .ne 18, 3) := by decide +kernel
theorem dX1_pairsRight_44 : decode cX1_pairsRight 44 = .ok (.iload_n 2, 1) := by decide +kernel
theorem dX1_pairsRight_45 : decode cX1_pairsRight 45 = .ok (.iconst 1, 1) := by decide +kernel
theorem dX1_pairsRight_46 : decode cX1_pairsRight 46 = .ok (.aload_n 1, 1) := by decide +kernel
theorem dX1_pairsRight_47 : decode cX1_pairsRight 47 = .ok (.iload_n 3, 1) := by decide +kernel
theorem dX1_pairsRight_48 : decode cX1_pairsRight 48 = .ok (.iaload, 1) := by decide +kernel
theorem dX1_pairsRight_49 : decode cX1_pairsRight 49 = .ok (.aload_n 1, 1) := by decide +kernel
theorem dX1_pairsRight_50 : decode cX1_pairsRight 50 = .ok (.iload 4, 2) := by decide +kernel
theorem dX1_pairsRight_52 : decode cX1_pairsRight 52 = .ok (.iaload, 1) := by decide +kernel
theorem dX1_pairsRight_53 : decode cX1_pairsRight 53 = .ok (.invokestatic 32, 3) := by decide +kernel
theorem dX1_pairsRight_56 : decode cX1_pairsRight 56 = .ok (.iadd, 1) := by decide +kernel
theorem dX1_pairsRight_57 : decode cX1_pairsRight 57 = .ok (.iadd, 1) := by decide +kernel
theorem dX1_pairsRight_58 : decode cX1_pairsRight 58 = .ok (.istore_n 2, 1) := by decide +kernel
theorem dX1_pairsRight_59 : decode cX1_pairsRight 59 = .ok (.iinc 4 1, 3) := by decide +kernel
theorem dX1_pairsRight_62 : decode cX1_pairsRight 62 = .ok (.goto (-47), 3) := by decide +kernel
theorem dX1_pairsRight_65 : decode cX1_pairsRight 65 = .ok (.iinc 3 1, 3) := by decide +kernel
theorem dX1_pairsRight_68 : decode cX1_pairsRight 68 = .ok (.goto (-64), 3) := by decide +kernel
theorem dX1_pairsRight_71 : decode cX1_pairsRight 71 = .ok (.iload_n 2, 1) := by decide +kernel
theorem dX1_pairsRight_72 : decode cX1_pairsRight 72 = .ok (.ireturn, 1) := by decide +kernel
theorem dX1_rightBy_0 : decode cX1_rightBy 0 = .ok (.iconst 0, 1) := by decide +kernel
theorem dX1_rightBy_1 : decode cX1_rightBy 1 = .ok (.istore_n 3, 1) := by decide +kernel
theorem dX1_rightBy_2 : decode cX1_rightBy 2 = .ok (.iconst 0, 1) := by decide +kernel
theorem dX1_rightBy_3 : decode cX1_rightBy 3 = .ok (.istore 4, 2) := by decide +kernel
theorem dX1_rightBy_5 : decode cX1_rightBy 5 = .ok (.iload 4, 2) := by decide +kernel
theorem dX1_rightBy_7 : decode cX1_rightBy 7 = .ok (.aload_n 0, 1) := by decide +kernel
theorem dX1_rightBy_8 : decode cX1_rightBy 8 = .ok (.getfield 22, 3) := by decide +kernel
theorem dX1_rightBy_11 : decode cX1_rightBy 11 = .ok (.if_icmp .ge 44, 3) := by decide +kernel
theorem dX1_rightBy_14 : decode cX1_rightBy 14 = .ok (.aload_n 1, 1) := by decide +kernel
theorem dX1_rightBy_15 : decode cX1_rightBy 15 = .ok (.iload 4, 2) := by decide +kernel
theorem dX1_rightBy_17 : decode cX1_rightBy 17 = .ok (.iaload, 1) := by decide +kernel
theorem dX1_rightBy_18 : decode cX1_rightBy 18 = .ok (.iload_n 2, 1) := by decide +kernel
theorem dX1_rightBy_19 : decode cX1_rightBy 19 = .ok (.if_icmp .lt 7, 3) := by decide +kernel
theorem dX1_rightBy_22 : decode cX1_rightBy 22 = .ok (.iconst 1, 1) := by decide +kernel
theorem dX1_rightBy_23 : decode cX1_rightBy 23 = .ok (.goto 4, 3) := by decide +kernel
theorem dX1_rightBy_26 : decode cX1_rightBy 26 = .ok (.iconst 0, 1) := by decide +kernel
theorem dX1_rightBy_27 : decode cX1_rightBy 27 = .ok (.istore 5, 2) := by decide +kernel
theorem dX1_rightBy_29 : decode cX1_rightBy 29 = .ok (.iload_n 3, 1) := by decide +kernel
theorem dX1_rightBy_30 : decode cX1_rightBy 30 = .ok (.iload 5, 2) := by decide +kernel
theorem dX1_rightBy_32 : decode cX1_rightBy 32 = .ok (.aload_n 0, 1) := by decide +kernel
theorem dX1_rightBy_33 : decode cX1_rightBy 33 = .ok (.getfield 16, 3) := by decide +kernel
theorem dX1_rightBy_36 : decode cX1_rightBy 36 = .ok (.iload 4, 2) := by decide +kernel
theorem dX1_rightBy_38 : decode cX1_rightBy 38 = .ok (.iaload, 1) := by decide +kernel
theorem dX1_rightBy_39 : decode cX1_rightBy 39 = .ok (.if_icmp .ne 7, 3) := by decide +kernel
theorem dX1_rightBy_42 : decode cX1_rightBy 42 = .ok (.iconst 1, 1) := by decide +kernel
theorem dX1_rightBy_43 : decode cX1_rightBy 43 = .ok (.goto 4, 3) := by decide +kernel
theorem dX1_rightBy_46 : decode cX1_rightBy 46 = .ok (.iconst 0, 1) := by decide +kernel
theorem dX1_rightBy_47 : decode cX1_rightBy 47 = .ok (.iadd, 1) := by decide +kernel
theorem dX1_rightBy_48 : decode cX1_rightBy 48 = .ok (.istore_n 3, 1) := by decide +kernel
theorem dX1_rightBy_49 : decode cX1_rightBy 49 = .ok (.iinc 4 1, 3) := by decide +kernel
theorem dX1_rightBy_52 : decode cX1_rightBy 52 = .ok (.goto (-47), 3) := by decide +kernel
theorem dX1_rightBy_55 : decode cX1_rightBy 55 = .ok (.iload_n 3, 1) := by decide +kernel
theorem dX1_rightBy_56 : decode cX1_rightBy 56 = .ok (.ireturn, 1) := by decide +kernel
set_option maxRecDepth 20000 in
theorem ggX1_cut_X1_rightBy : GoodIn wsX1_cut wsX1_rightBy := goodIn_r _ [5, 6, 7, 8, 9, 10, 11, 12] (by decide +kernel) (by decide +kernel)
set_option maxRecDepth 20000 in
theorem gX1_cut_X1_rightBy : GoodIn wsX1_cut (wsV RX1 38 RX1 yX1_rightBy wsX1_rightBy) := goodIn_app (goodIn_of _ (by decide +kernel)) ggX1_cut_X1_rightBy
theorem dX1_cut_0 : decode cX1_cut 0 = .ok (.iconst 0, 1) := by decide +kernel
theorem dX1_cut_1 : decode cX1_cut 1 = .ok (.istore_n 2, 1) := by decide +kernel
theorem dX1_cut_2 : decode cX1_cut 2 = .ok (.iconst (-1), 1) := by decide +kernel
theorem dX1_cut_3 : decode cX1_cut 3 = .ok (.istore_n 3, 1) := by decide +kernel
theorem dX1_cut_4 : decode cX1_cut 4 = .ok (.iconst 0, 1) := by decide +kernel
theorem dX1_cut_5 : decode cX1_cut 5 = .ok (.istore 4, 2) := by decide +kernel
theorem dX1_cut_7 : decode cX1_cut 7 = .ok (.iload 4, 2) := by decide +kernel
theorem dX1_cut_9 : decode cX1_cut 9 = .ok (.bipush 101, 2) := by decide +kernel
theorem dX1_cut_11 : decode cX1_cut 11 = .ok (.if_icmp .gt 30, 3) := by decide +kernel
theorem dX1_cut_14 : decode cX1_cut 14 = .ok (.aload_n 0, 1) := by decide +kernel
theorem dX1_cut_15 : decode cX1_cut 15 = .ok (.aload_n 1, 1) := by decide +kernel
theorem dX1_cut_16 : decode cX1_cut 16 = .ok (.iload 4, 2) := by decide +kernel
theorem dX1_cut_18 : decode cX1_cut 18 = .ok (.invokevirtual 38, 3) := by decide +kernel
theorem dX1_cut_21 : decode cX1_cut 21 = .ok (.istore 5, 2) := by decide +kernel
theorem dX1_cut_23 : decode cX1_cut 23 = .ok (.iload 5, 2) := by decide +kernel
theorem dX1_cut_25 : decode cX1_cut 25 = .ok (.iload_n 3, 1) := by decide +kernel
theorem dX1_cut_26 : decode cX1_cut 26 = .ok (.if_icmp .le 9, 3) := by decide +kernel
theorem dX1_cut_29 : decode cX1_cut 29 = .ok (.iload 4, 2) := by decide +kernel
theorem dX1_cut_31 : decode cX1_cut 31 = .ok (.istore_n 2, 1) := by decide +kernel
theorem dX1_cut_32 : decode cX1_cut 32 = .ok (.iload 5, 2) := by decide +kernel
theorem dX1_cut_34 : decode cX1_cut 34 = .ok (.istore_n 3, 1) := by decide +kernel
theorem dX1_cut_35 : decode cX1_cut 35 = .ok (.iinc 4 1, 3) := by decide +kernel
theorem dX1_cut_38 : decode cX1_cut 38 = .ok (.goto (-31), 3) := by decide +kernel
theorem dX1_cut_41 : decode cX1_cut 41 = .ok (.iload_n 2, 1) := by decide +kernel
theorem dX1_cut_42 : decode cX1_cut 42 = .ok (.ireturn, 1) := by decide +kernel
theorem dX1_isOn_0 : decode cX1_isOn 0 = .ok (.aload_n 0, 1) := by decide +kernel
theorem dX1_isOn_1 : decode cX1_isOn 1 = .ok (.getfield 19, 3) := by decide +kernel
theorem dX1_isOn_4 : decode cX1_isOn 4 = .ok (.iload_n 1, 1) := by decide +kernel
theorem dX1_isOn_5 : decode cX1_isOn 5 = .ok (.iaload, 1) := by decide +kernel
theorem dX1_isOn_6 : decode cX1_isOn 6 = .ok (.iload_n 2, 1) := by decide +kernel
theorem dX1_isOn_7 : decode cX1_isOn 7 = .ok (.ishr, 1) := by decide +kernel
theorem dX1_isOn_8 : decode cX1_isOn 8 = .ok (.iconst 1, 1) := by decide +kernel
theorem dX1_isOn_9 : decode cX1_isOn 9 = .ok (.iand, 1) := by decide +kernel
theorem dX1_isOn_10 : decode cX1_isOn 10 = .ok (.iconst 1, 1) := by decide +kernel
theorem dX1_isOn_11 : decode cX1_isOn 11 = .ok (.if_icmp .ne 7, 3) := by decide +kernel
theorem dX1_isOn_14 : decode cX1_isOn 14 = .ok (.iconst 1, 1) := by decide +kernel
theorem dX1_isOn_15 : decode cX1_isOn 15 = .ok (.goto 4, 3) := by decide +kernel
theorem dX1_isOn_18 : decode cX1_isOn 18 = .ok (.iconst 0, 1) := by decide +kernel
theorem dX1_isOn_19 : decode cX1_isOn 19 = .ok (.ireturn, 1) := by decide +kernel
set_option maxRecDepth 20000 in
theorem ggX1_isLaden_J6_bitCount_0f7a4 : GoodIn wsX1_isLaden wsJ6_bitCount_0f7a4 := goodIn_r _ [5, 6, 7, 8] (by decide +kernel) (by decide +kernel)
set_option maxRecDepth 20000 in
theorem gX1_isLaden_J6_bitCount_0f7a4 : GoodIn wsX1_isLaden (va_wsS RX1 42 yJ6_bitCount_0f7a4 wsJ6_bitCount_0f7a4) := goodIn_app (goodIn_of _ (by decide +kernel)) ggX1_isLaden_J6_bitCount_0f7a4
theorem dX1_isLaden_0 : decode cX1_isLaden 0 = .ok (.aload_n 0, 1) := by decide +kernel
theorem dX1_isLaden_1 : decode cX1_isLaden 1 = .ok (.getfield 19, 3) := by decide +kernel
theorem dX1_isLaden_4 : decode cX1_isLaden 4 = .ok (.iload_n 1, 1) := by decide +kernel
theorem dX1_isLaden_5 : decode cX1_isLaden 5 = .ok (.iaload, 1) := by decide +kernel
theorem dX1_isLaden_6 : decode cX1_isLaden 6 = .ok (.invokestatic 42, 3) := by decide +kernel
theorem dX1_isLaden_9 : decode cX1_isLaden 9 = .ok (.iconst 3, 1) := by decide +kernel
theorem dX1_isLaden_10 : decode cX1_isLaden 10 = .ok (.if_icmp .lt 7, 3) := by decide +kernel
theorem dX1_isLaden_13 : decode cX1_isLaden 13 = .ok (.iconst 1, 1) := by decide +kernel
theorem dX1_isLaden_14 : decode cX1_isLaden 14 = .ok (.goto 4, 3) := by decide +kernel
theorem dX1_isLaden_17 : decode cX1_isLaden 17 = .ok (.iconst 0, 1) := by decide +kernel
theorem dX1_isLaden_18 : decode cX1_isLaden 18 = .ok (.ireturn, 1) := by decide +kernel
set_option maxRecDepth 20000 in
theorem ggX1_setOn_J6_bitCount_0f7a4 : GoodIn wsX1_setOn wsJ6_bitCount_0f7a4 := goodIn_r _ [5, 6, 7, 8] (by decide +kernel) (by decide +kernel)
set_option maxRecDepth 20000 in
theorem gX1_setOn_J6_bitCount_0f7a4 : GoodIn wsX1_setOn (va_wsS RX1 42 yJ6_bitCount_0f7a4 wsJ6_bitCount_0f7a4) := goodIn_app (goodIn_of _ (by decide +kernel)) ggX1_setOn_J6_bitCount_0f7a4
theorem dX1_setOn_0 : decode cX1_setOn 0 = .ok (.aload_n 0, 1) := by decide +kernel
theorem dX1_setOn_1 : decode cX1_setOn 1 = .ok (.getfield 19, 3) := by decide +kernel
theorem dX1_setOn_4 : decode cX1_setOn 4 = .ok (.iload_n 1, 1) := by decide +kernel
theorem dX1_setOn_5 : decode cX1_setOn 5 = .ok (.dup2, 1) := by decide +kernel
theorem dX1_setOn_6 : decode cX1_setOn 6 = .ok (.iaload, 1) := by decide +kernel
theorem dX1_setOn_7 : decode cX1_setOn 7 = .ok (.iconst 1, 1) := by decide +kernel
theorem dX1_setOn_8 : decode cX1_setOn 8 = .ok (.iload_n 2, 1) := by decide +kernel
theorem dX1_setOn_9 : decode cX1_setOn 9 = .ok (.ishl, 1) := by decide +kernel
theorem dX1_setOn_10 : decode cX1_setOn 10 = .ok (.ior, 1) := by decide +kernel
theorem dX1_setOn_11 : decode cX1_setOn 11 = .ok (.iastore, 1) := by decide +kernel
theorem dX1_setOn_12 : decode cX1_setOn 12 = .ok (.aload_n 0, 1) := by decide +kernel
theorem dX1_setOn_13 : decode cX1_setOn 13 = .ok (.getfield 19, 3) := by decide +kernel
theorem dX1_setOn_16 : decode cX1_setOn 16 = .ok (.iload_n 1, 1) := by decide +kernel
theorem dX1_setOn_17 : decode cX1_setOn 17 = .ok (.iaload, 1) := by decide +kernel
theorem dX1_setOn_18 : decode cX1_setOn 18 = .ok (.invokestatic 42, 3) := by decide +kernel
theorem dX1_setOn_21 : decode cX1_setOn 21 = .ok (.ireturn, 1) := by decide +kernel
theorem dX1_there_0 : decode cX1_there 0 = .ok (.iload_n 1, 1) := by decide +kernel
theorem dX1_there_1 : decode cX1_there 1 = .ok (.iconst 1, 1) := by decide +kernel
theorem dX1_there_2 : decode cX1_there 2 = .ok (.aload_n 0, 1) := by decide +kernel
theorem dX1_there_3 : decode cX1_there 3 = .ok (.getfield 22, 3) := by decide +kernel
theorem dX1_there_6 : decode cX1_there 6 = .ok (.ishl, 1) := by decide +kernel
theorem dX1_there_7 : decode cX1_there 7 = .ok (.iconst 1, 1) := by decide +kernel
theorem dX1_there_8 : decode cX1_there 8 = .ok (.isub, 1) := by decide +kernel
theorem dX1_there_9 : decode cX1_there 9 = .ok (.iand, 1) := by decide +kernel
theorem dX1_there_10 : decode cX1_there 10 = .ok (.ireturn, 1) := by decide +kernel
theorem dX1_afterRound_0 : decode cX1_afterRound 0 = .ok (.iload_n 1, 1) := by decide +kernel
theorem dX1_afterRound_1 : decode cX1_afterRound 1 = .ok (.istore_n 2, 1) := by decide +kernel
theorem dX1_afterRound_2 : decode cX1_afterRound 2 = .ok (.iconst 0, 1) := by decide +kernel
theorem dX1_afterRound_3 : decode cX1_afterRound 3 = .ok (.istore_n 3, 1) := by decide +kernel
theorem dX1_afterRound_4 : decode cX1_afterRound 4 = .ok (.iload_n 3, 1) := by decide +kernel
theorem dX1_afterRound_5 : decode cX1_afterRound 5 = .ok (.aload_n 0, 1) := by decide +kernel
theorem dX1_afterRound_6 : decode cX1_afterRound 6 = .ok (.getfield 22, 3) := by decide +kernel
theorem dX1_afterRound_9 : decode cX1_afterRound 9 = .ok (.if_icmp .ge 26, 3) := by decide +kernel
theorem dX1_afterRound_12 : decode cX1_afterRound 12 = .ok (.aload_n 0, 1) := by decide +kernel
theorem dX1_afterRound_13 : decode cX1_afterRound 13 = .ok (.getfield 19, 3) := by decide +kernel
theorem dX1_afterRound_16 : decode cX1_afterRound 16 = .ok (.iload_n 3, 1) := by decide +kernel
theorem dX1_afterRound_17 : decode cX1_afterRound 17 = .ok (.iaload, 1) := by decide +kernel
theorem dX1_afterRound_18 : decode cX1_afterRound 18 = .ok (.iload_n 1, 1) := by decide +kernel
theorem dX1_afterRound_19 : decode cX1_afterRound 19 = .ok (.iand, 1) := by decide +kernel
theorem dX1_afterRound_20 : decode cX1_afterRound 20 = .ok (.ifCond .eq 9, 3) := by decide +kernel
theorem dX1_afterRound_23 : decode cX1_afterRound 23 = .ok (.iload_n 2, 1) := by decide +kernel
theorem dX1_afterRound_24 : decode cX1_afterRound 24 = .ok (.iconst 1, 1) := by decide +kernel
theorem dX1_afterRound_25 : decode cX1_afterRound 25 = .ok (.iload_n 3, 1) := by decide +kernel
theorem dX1_afterRound_26 : decode cX1_afterRound 26 = .ok (.ishl, 1) := by decide +kernel
theorem dX1_afterRound_27 : decode cX1_afterRound 27 = .ok (.ior, 1) := by decide +kernel
theorem dX1_afterRound_28 : decode cX1_afterRound 28 = .ok (.istore_n 2, 1) := by decide +kernel
theorem dX1_afterRound_29 : decode cX1_afterRound 29 = .ok (.iinc 3 1, 3) := by decide +kernel
theorem dX1_afterRound_32 : decode cX1_afterRound 32 = .ok (.goto (-28), 3) := by decide +kernel
theorem dX1_afterRound_35 : decode cX1_afterRound 35 = .ok (.iload_n 2, 1) := by decide +kernel
theorem dX1_afterRound_36 : decode cX1_afterRound 36 = .ok (.ireturn, 1) := by decide +kernel
set_option maxRecDepth 20000 in
theorem ggX1_down_X1_there : GoodIn wsX1_down wsX1_there := goodIn_r _ [6, 1, 12, 13, 14, 15, 16] (by decide +kernel) (by decide +kernel)
set_option maxRecDepth 20000 in
theorem gX1_down_X1_there : GoodIn wsX1_down (wsV RX1 46 RX1 yX1_there wsX1_there) := goodIn_app (goodIn_of _ (by decide +kernel)) ggX1_down_X1_there
set_option maxRecDepth 20000 in
theorem ggX1_down_X1_afterRound : GoodIn wsX1_down wsX1_afterRound := goodIn_r _ [10, 1, 11, 12, 13, 14, 15, 16] (by decide +kernel) (by decide +kernel)
set_option maxRecDepth 20000 in
theorem gX1_down_X1_afterRound : GoodIn wsX1_down (wsV RX1 49 RX1 yX1_afterRound wsX1_afterRound) := goodIn_app (goodIn_of _ (by decide +kernel)) ggX1_down_X1_afterRound
theorem dX1_down_0 : decode cX1_down 0 = .ok (.aload_n 0, 1) := by decide +kernel
theorem dX1_down_1 : decode cX1_down 1 = .ok (.iload_n 1, 1) := by decide +kernel
theorem dX1_down_2 : decode cX1_down 2 = .ok (.invokevirtual 46, 3) := by decide +kernel
theorem dX1_down_5 : decode cX1_down 5 = .ok (.istore_n 2, 1) := by decide +kernel
theorem dX1_down_6 : decode cX1_down 6 = .ok (.iconst 0, 1) := by decide +kernel
theorem dX1_down_7 : decode cX1_down 7 = .ok (.istore_n 3, 1) := by decide +kernel
theorem dX1_down_8 : decode cX1_down 8 = .ok (.iload_n 3, 1) := by decide +kernel
theorem dX1_down_9 : decode cX1_down 9 = .ok (.aload_n 0, 1) := by decide +kernel
theorem dX1_down_10 : decode cX1_down 10 = .ok (.getfield 22, 3) := by decide +kernel
theorem dX1_down_13 : decode cX1_down 13 = .ok (.if_icmp .ge 15, 3) := by decide +kernel
theorem dX1_down_16 : decode cX1_down 16 = .ok (.aload_n 0, 1) := by decide +kernel
theorem dX1_down_17 : decode cX1_down 17 = .ok (.iload_n 2, 1) := by decide +kernel
theorem dX1_down_18 : decode cX1_down 18 = .ok (.invokevirtual 49, 3) := by decide +kernel
theorem dX1_down_21 : decode cX1_down 21 = .ok (.istore_n 2, 1) := by decide +kernel
theorem dX1_down_22 : decode cX1_down 22 = .ok (.iinc 3 1, 3) := by decide +kernel
theorem dX1_down_25 : decode cX1_down 25 = .ok (.goto (-17), 3) := by decide +kernel
theorem dX1_down_28 : decode cX1_down 28 = .ok (.iload_n 2, 1) := by decide +kernel
theorem dX1_down_29 : decode cX1_down 29 = .ok (.ireturn, 1) := by decide +kernel
set_option maxRecDepth 20000 in
theorem ggX1_rounds_X1_there : GoodIn wsX1_rounds wsX1_there := goodIn_r _ [6, 1, 12, 13, 14, 15, 16] (by decide +kernel) (by decide +kernel)
set_option maxRecDepth 20000 in
theorem gX1_rounds_X1_there : GoodIn wsX1_rounds (wsV RX1 46 RX1 yX1_there wsX1_there) := goodIn_app (goodIn_of _ (by decide +kernel)) ggX1_rounds_X1_there
set_option maxRecDepth 20000 in
theorem ggX1_rounds_X1_afterRound : GoodIn wsX1_rounds wsX1_afterRound := goodIn_r _ [10, 1, 11, 12, 13, 14, 15, 16] (by decide +kernel) (by decide +kernel)
set_option maxRecDepth 20000 in
theorem gX1_rounds_X1_afterRound : GoodIn wsX1_rounds (wsV RX1 49 RX1 yX1_afterRound wsX1_afterRound) := goodIn_app (goodIn_of _ (by decide +kernel)) ggX1_rounds_X1_afterRound
theorem dX1_rounds_0 : decode cX1_rounds 0 = .ok (.aload_n 0, 1) := by decide +kernel
theorem dX1_rounds_1 : decode cX1_rounds 1 = .ok (.iload_n 1, 1) := by decide +kernel
theorem dX1_rounds_2 : decode cX1_rounds 2 = .ok (.invokevirtual 46, 3) := by decide +kernel
theorem dX1_rounds_5 : decode cX1_rounds 5 = .ok (.istore_n 2, 1) := by decide +kernel
theorem dX1_rounds_6 : decode cX1_rounds 6 = .ok (.iconst 0, 1) := by decide +kernel
theorem dX1_rounds_7 : decode cX1_rounds 7 = .ok (.istore_n 3, 1) := by decide +kernel
theorem dX1_rounds_8 : decode cX1_rounds 8 = .ok (.iload_n 3, 1) := by decide +kernel
theorem dX1_rounds_9 : decode cX1_rounds 9 = .ok (.aload_n 0, 1) := by decide +kernel
theorem dX1_rounds_10 : decode cX1_rounds 10 = .ok (.getfield 22, 3) := by decide +kernel
theorem dX1_rounds_13 : decode cX1_rounds 13 = .ok (.if_icmp .ge 27, 3) := by decide +kernel
theorem dX1_rounds_16 : decode cX1_rounds 16 = .ok (.aload_n 0, 1) := by decide +kernel
theorem dX1_rounds_17 : decode cX1_rounds 17 = .ok (.iload_n 2, 1) := by decide +kernel
theorem dX1_rounds_18 : decode cX1_rounds 18 = .ok (.invokevirtual 49, 3) := by decide +kernel
theorem dX1_rounds_21 : decode cX1_rounds 21 = .ok (.istore 4, 2) := by decide +kernel
theorem dX1_rounds_23 : decode cX1_rounds 23 = .ok (.iload 4, 2) := by decide +kernel
theorem dX1_rounds_25 : decode cX1_rounds 25 = .ok (.iload_n 2, 1) := by decide +kernel
theorem dX1_rounds_26 : decode cX1_rounds 26 = .ok (.if_icmp .ne 5, 3) := by decide +kernel
theorem dX1_rounds_29 : decode cX1_rounds 29 = .ok (.iload_n 3, 1) := by decide +kernel
theorem dX1_rounds_30 : decode cX1_rounds 30 = .ok (.ireturn, 1) := by decide +kernel
theorem dX1_rounds_31 : decode cX1_rounds 31 = .ok (.iload 4, 2) := by decide +kernel
theorem dX1_rounds_33 : decode cX1_rounds 33 = .ok (.istore_n 2, 1) := by decide +kernel
theorem dX1_rounds_34 : decode cX1_rounds 34 = .ok (.iinc 3 1, 3) := by decide +kernel
theorem dX1_rounds_37 : decode cX1_rounds 37 = .ok (.goto (-29), 3) := by decide +kernel
theorem dX1_rounds_40 : decode cX1_rounds 40 = .ok (.aload_n 0, 1) := by decide +kernel
theorem dX1_rounds_41 : decode cX1_rounds 41 = .ok (.getfield 22, 3) := by decide +kernel
theorem dX1_rounds_44 : decode cX1_rounds 44 = .ok (.ireturn, 1) := by decide +kernel
set_option maxRecDepth 20000 in
theorem ggX1_mostBearing_X1_down : GoodIn wsX1_mostBearing wsX1_down := goodIn_r _ [6, 1, 7, 8, 9, 5, 10, 11, 12, 13, 14, 15, 23, 24, 25, 26, 27] (by decide +kernel) (by decide +kernel)
set_option maxRecDepth 20000 in
theorem gX1_mostBearing_X1_down : GoodIn wsX1_mostBearing (wsV RX1 52 RX1 yX1_down wsX1_down) := goodIn_app (goodIn_of _ (by decide +kernel)) ggX1_mostBearing_X1_down
set_option maxRecDepth 20000 in
theorem ggX1_mostBearing_J6_bitCount_0f7a4 : GoodIn wsX1_mostBearing wsJ6_bitCount_0f7a4 := goodIn_r _ [19, 20, 21, 22] (by decide +kernel) (by decide +kernel)
set_option maxRecDepth 20000 in
theorem gX1_mostBearing_J6_bitCount_0f7a4 : GoodIn wsX1_mostBearing (va_wsS RX1 42 yJ6_bitCount_0f7a4 wsJ6_bitCount_0f7a4) := goodIn_app (goodIn_of _ (by decide +kernel)) ggX1_mostBearing_J6_bitCount_0f7a4
theorem dX1_mostBearing_0 : decode cX1_mostBearing 0 = .ok (.iconst 0, 1) := by decide +kernel
theorem dX1_mostBearing_1 : decode cX1_mostBearing 1 = .ok (.istore_n 1, 1) := by decide +kernel
theorem dX1_mostBearing_2 : decode cX1_mostBearing 2 = .ok (.iconst 0, 1) := by decide +kernel
theorem dX1_mostBearing_3 : decode cX1_mostBearing 3 = .ok (.istore_n 2, 1) := by decide +kernel
theorem dX1_mostBearing_4 : decode cX1_mostBearing 4 = .ok (.iconst 0, 1) := by decide +kernel
theorem dX1_mostBearing_5 : decode cX1_mostBearing 5 = .ok (.istore_n 3, 1) := by decide +kernel
theorem dX1_mostBearing_6 : decode cX1_mostBearing 6 = .ok (.iload_n 3, 1) := by decide +kernel
theorem dX1_mostBearing_7 : decode cX1_mostBearing 7 = .ok (.aload_n 0, 1) := by decide +kernel
theorem dX1_mostBearing_8 : decode cX1_mostBearing 8 = .ok (.getfield 22, 3) := by decide +kernel
theorem dX1_mostBearing_11 : decode cX1_mostBearing 11 = .ok (.if_icmp .ge 32, 3) := by decide +kernel
theorem dX1_mostBearing_14 : decode cX1_mostBearing 14 = .ok (.aload_n 0, 1) := by decide +kernel
theorem dX1_mostBearing_15 : decode cX1_mostBearing 15 = .ok (.iconst 1, 1) := by decide +kernel
theorem dX1_mostBearing_16 : decode cX1_mostBearing 16 = .ok (.iload_n 3, 1) := by decide +kernel
theorem dX1_mostBearing_17 : decode cX1_mostBearing 17 = .ok (.ishl, 1) := by decide +kernel
theorem dX1_mostBearing_18 : decode cX1_mostBearing 18 = .ok (.invokevirtual 52, 3) := by decide +kernel
theorem dX1_mostBearing_21 : decode cX1_mostBearing 21 = .ok (.invokestatic 42, 3) := by decide +kernel
theorem dX1_mostBearing_24 : decode cX1_mostBearing 24 = .ok (.istore 4, 2) := by decide +kernel
theorem dX1_mostBearing_26 : decode cX1_mostBearing 26 = .ok (.iload 4, 2) := by decide +kernel
theorem dX1_mostBearing_28 : decode cX1_mostBearing 28 = .ok (.iload_n 2, 1) := by decide +kernel
theorem dX1_mostBearing_29 : decode cX1_mostBearing 29 = .ok (.if_icmp .le 8, 3) := by decide +kernel
theorem dX1_mostBearing_32 : decode cX1_mostBearing 32 = .ok (.iload_n 3, 1) := by decide +kernel
theorem dX1_mostBearing_33 : decode cX1_mostBearing 33 = .ok (.istore_n 1, 1) := by decide +kernel
theorem dX1_mostBearing_34 : decode cX1_mostBearing 34 = .ok (.iload 4, 2) := by decide +kernel
theorem dX1_mostBearing_36 : decode cX1_mostBearing 36 = .ok (.istore_n 2, 1) := by decide +kernel
theorem dX1_mostBearing_37 : decode cX1_mostBearing 37 = .ok (.iinc 3 1, 3) := by decide +kernel
theorem dX1_mostBearing_40 : decode cX1_mostBearing 40 = .ok (.goto (-34), 3) := by decide +kernel
theorem dX1_mostBearing_43 : decode cX1_mostBearing 43 = .ok (.iload_n 1, 1) := by decide +kernel
theorem dX1_mostBearing_44 : decode cX1_mostBearing 44 = .ok (.ireturn, 1) := by decide +kernel
theorem dX2_init_0 : decode cX2_init 0 = .ok (.aload_n 0, 1) := by decide +kernel
theorem dX2_init_1 : decode cX2_init 1 = .ok (.invokespecial 3, 3) := by decide +kernel
theorem dX2_init_4 : decode cX2_init 4 = .ok (.aload_n 0, 1) := by decide +kernel
theorem dX2_init_5 : decode cX2_init 5 = .ok (.bipush 12, 2) := by decide +kernel
theorem dX2_init_7 : decode cX2_init 7 = .ok (.newarray .int, 2) := by decide +kernel
theorem dX2_init_9 : decode cX2_init 9 = .ok (.putfield 11, 3) := by decide +kernel
theorem dX2_init_12 : decode cX2_init 12 = .ok (.aload_n 0, 1) := by decide +kernel
theorem dX2_init_13 : decode cX2_init 13 = .ok (.bipush 12, 2) := by decide +kernel
theorem dX2_init_15 : decode cX2_init 15 = .ok (.newarray .int, 2) := by decide +kernel
theorem dX2_init_17 : decode cX2_init 17 = .ok (.putfield 15, 3) := by decide +kernel
theorem dX2_init_20 : decode cX2_init 20 = .ok (.aload_n 0, 1) := by decide +kernel
theorem dX2_init_21 : decode cX2_init 21 = .ok (.bipush 12, 2) := by decide +kernel
theorem dX2_init_23 : decode cX2_init 23 = .ok (.newarray .int, 2) := by decide +kernel
theorem dX2_init_25 : decode cX2_init 25 = .ok (.putfield 18, 3) := by decide +kernel
theorem dX2_init_28 : decode cX2_init 28 = .ok (.aload_n 0, 1) := by decide +kernel
theorem dX2_init_29 : decode cX2_init 29 = .ok (.bipush 12, 2) := by decide +kernel
theorem dX2_init_31 : decode cX2_init 31 = .ok (.newarray .int, 2) := by decide +kernel
theorem dX2_init_33 : decode cX2_init 33 = .ok (.putfield 21, 3) := by decide +kernel
theorem dX2_init_36 : decode cX2_init 36 = .ok (.aload_n 0, 1) := by decide +kernel
theorem dX2_init_37 : decode cX2_init 37 = .ok (.iconst 0, 1) := by decide +kernel
theorem dX2_init_38 : decode cX2_init 38 = .ok (.putfield 24, 3) := by decide +kernel
theorem dX2_init_41 : decode cX2_init 41 = .ok (.return_, 1) := by decide +kernel
theorem dX2_copyFrom_0 : decode cX2_copyFrom 0 = .ok (.aload_n 1, 1) := by decide +kernel
theorem dX2_copyFrom_1 : decode cX2_copyFrom 1 = .ok (.getfield 11, 3) := by decide +kernel
theorem dX2_copyFrom_4 : decode cX2_copyFrom 4 = .ok (.iconst 0, 1) := by decide +kernel
theorem dX2_copyFrom_5 : decode cX2_copyFrom 5 = .ok (.aload_n 0, 1) := by decide +kernel
theorem dX2_copyFrom_6 : decode cX2_copyFrom 6 = .ok (.getfield 11, 3) := by decide +kernel
theorem dX2_copyFrom_9 : decode cX2_copyFrom 9 = .ok (.iconst 0, 1) := by decide +kernel
theorem dX2_copyFrom_10 : decode cX2_copyFrom 10 = .ok (.bipush 12, 2) := by decide +kernel
theorem dX2_copyFrom_12 : decode cX2_copyFrom 12 = .ok (.invokestatic 28, 3) := by decide +kernel
theorem dX2_copyFrom_15 : decode cX2_copyFrom 15 = .ok (.aload_n 1, 1) := by decide +kernel
theorem dX2_copyFrom_16 : decode cX2_copyFrom 16 = .ok (.getfield 15, 3) := by decide +kernel
theorem dX2_copyFrom_19 : decode cX2_copyFrom 19 = .ok (.iconst 0, 1) := by decide +kernel
theorem dX2_copyFrom_20 : decode cX2_copyFrom 20 = .ok (.aload_n 0, 1) := by decide +kernel
theorem dX2_copyFrom_21 : decode cX2_copyFrom 21 = .ok (.getfield 15, 3) := by decide +kernel
theorem dX2_copyFrom_24 : decode cX2_copyFrom 24 = .ok (.iconst 0, 1) := by decide +kernel
theorem dX2_copyFrom_25 : decode cX2_copyFrom 25 = .ok (.bipush 12, 2) := by decide +kernel
theorem dX2_copyFrom_27 : decode cX2_copyFrom 27 = .ok (.invokestatic 28, 3) := by decide +kernel
theorem dX2_copyFrom_30 : decode cX2_copyFrom 30 = .ok (.aload_n 1, 1) := by decide +kernel
theorem dX2_copyFrom_31 : decode cX2_copyFrom 31 = .ok (.getfield 18, 3) := by decide +kernel
theorem dX2_copyFrom_34 : decode cX2_copyFrom 34 = .ok (.iconst 0, 1) := by decide +kernel
theorem dX2_copyFrom_35 : decode cX2_copyFrom 35 = .ok (.aload_n 0, 1) := by decide +kernel
theorem dX2_copyFrom_36 : decode cX2_copyFrom 36 = .ok (.getfield 18, 3) := by decide +kernel
theorem dX2_copyFrom_39 : decode cX2_copyFrom 39 = .ok (.iconst 0, 1) := by decide +kernel
theorem dX2_copyFrom_40 : decode cX2_copyFrom 40 = .ok (.bipush 12, 2) := by decide +kernel
theorem dX2_copyFrom_42 : decode cX2_copyFrom 42 = .ok (.invokestatic 28, 3) := by decide +kernel
theorem dX2_copyFrom_45 : decode cX2_copyFrom 45 = .ok (.aload_n 1, 1) := by decide +kernel
theorem dX2_copyFrom_46 : decode cX2_copyFrom 46 = .ok (.getfield 21, 3) := by decide +kernel
theorem dX2_copyFrom_49 : decode cX2_copyFrom 49 = .ok (.iconst 0, 1) := by decide +kernel
theorem dX2_copyFrom_50 : decode cX2_copyFrom 50 = .ok (.aload_n 0, 1) := by decide +kernel
theorem dX2_copyFrom_51 : decode cX2_copyFrom 51 = .ok (.getfield 21, 3) := by decide +kernel
theorem dX2_copyFrom_54 : decode cX2_copyFrom 54 = .ok (.iconst 0, 1) := by decide +kernel
theorem dX2_copyFrom_55 : decode cX2_copyFrom 55 = .ok (.bipush 12, 2) := by decide +kernel
theorem dX2_copyFrom_57 : decode cX2_copyFrom 57 = .ok (.invokestatic 28, 3) := by decide +kernel
theorem dX2_copyFrom_60 : decode cX2_copyFrom 60 = .ok (.aload_n 0, 1) := by decide +kernel
theorem dX2_copyFrom_61 : decode cX2_copyFrom 61 = .ok (.aload_n 1, 1) := by decide +kernel
theorem dX2_copyFrom_62 : decode cX2_copyFrom 62 = .ok (.getfield 24, 3) := by decide +kernel
theorem dX2_copyFrom_65 : decode cX2_copyFrom 65 = .ok (.putfield 24, 3) := by decide +kernel
theorem dX2_copyFrom_68 : decode cX2_copyFrom 68 = .ok (.return_, 1) := by decide +kernel
theorem dX2_isFull_0 : decode cX2_isFull 0 = .ok (.aload_n 0, 1) := by decide +kernel
theorem dX2_isFull_1 : decode cX2_isFull 1 = .ok (.getfield 24, 3) := by decide +kernel
theorem dX2_isFull_4 : decode cX2_isFull 4 = .ok (.bipush 12, 2) := by decide +kernel
theorem dX2_isFull_6 : decode cX2_isFull 6 = .ok (.if_icmp .lt 7, 3) := by decide +kernel
theorem dX2_isFull_9 : decode cX2_isFull 9 = .ok (.iconst 1, 1) := by decide +kernel
theorem dX2_isFull_10 : decode cX2_isFull 10 = .ok (.goto 4, 3) := by decide +kernel
theorem dX2_isFull_13 : decode cX2_isFull 13 = .ok (.iconst 0, 1) := by decide +kernel
theorem dX2_isFull_14 : decode cX2_isFull 14 = .ok (.ireturn, 1) := by decide +kernel
theorem dX2_has_0 : decode cX2_has 0 = .ok (.iload_n 1, 1) := by decide +kernel
theorem dX2_has_1 : decode cX2_has 1 = .ok (.ifCond .lt 15, 3) := by decide +kernel
theorem dX2_has_4 : decode cX2_has 4 = .ok (.iload_n 1, 1) := by decide +kernel
theorem dX2_has_5 : decode cX2_has 5 = .ok (.aload_n 0, 1) := by decide +kernel
theorem dX2_has_6 : decode cX2_has 6 = .ok (.getfield 24, 3) := by decide +kernel
theorem dX2_has_9 : decode cX2_has 9 = .ok (.if_icmp .ge 7, 3) := by decide +kernel
theorem dX2_has_12 : decode cX2_has 12 = .ok (.iconst 1, 1) := by decide +kernel
theorem dX2_has_13 : decode cX2_has 13 = .ok (.goto 4, 3) := by decide +kernel
theorem dX2_has_16 : decode cX2_has 16 = .ok (.iconst 0, 1) := by decide +kernel
theorem dX2_has_17 : decode cX2_has 17 = .ok (.ireturn, 1) := by decide +kernel
theorem dX2_add_0 : decode cX2_add 0 = .ok (.aload_n 0, 1) := by decide +kernel
theorem dX2_add_1 : decode cX2_add 1 = .ok (.getfield 11, 3) := by decide +kernel
theorem dX2_add_4 : decode cX2_add 4 = .ok (.aload_n 0, 1) := by decide +kernel
theorem dX2_add_5 : decode cX2_add 5 = .ok (.getfield 24, 3) := by decide +kernel
theorem dX2_add_8 : decode cX2_add 8 = .ok (.iload_n 1, 1) := by decide +kernel
theorem dX2_add_9 : decode cX2_add 9 = .ok (.iastore, 1) := by decide +kernel
theorem dX2_add_10 : decode cX2_add 10 = .ok (.aload_n 0, 1) := by decide +kernel
theorem dX2_add_11 : decode cX2_add 11 = .ok (.getfield 15, 3) := by decide +kernel
theorem dX2_add_14 : decode cX2_add 14 = .ok (.aload_n 0, 1) := by decide +kernel
theorem dX2_add_15 : decode cX2_add 15 = .ok (.getfield 24, 3) := by decide +kernel
theorem dX2_add_18 : decode cX2_add 18 = .ok (.iload_n 2, 1) := by decide +kernel
theorem dX2_add_19 : decode cX2_add 19 = .ok (.iastore, 1) := by decide +kernel
theorem dX2_add_20 : decode cX2_add 20 = .ok (.aload_n 0, 1) := by decide +kernel
theorem dX2_add_21 : decode cX2_add 21 = .ok (.getfield 18, 3) := by decide +kernel
theorem dX2_add_24 : decode cX2_add 24 = .ok (.aload_n 0, 1) := by decide +kernel
theorem dX2_add_25 : decode cX2_add 25 = .ok (.getfield 24, 3) := by decide +kernel
theorem dX2_add_28 : decode cX2_add 28 = .ok (.iload_n 3, 1) := by decide +kernel
theorem dX2_add_29 : decode cX2_add 29 = .ok (.iastore, 1) := by decide +kernel
theorem dX2_add_30 : decode cX2_add 30 = .ok (.aload_n 0, 1) := by decide +kernel
theorem dX2_add_31 : decode cX2_add 31 = .ok (.getfield 21, 3) := by decide +kernel
theorem dX2_add_34 : decode cX2_add 34 = .ok (.aload_n 0, 1) := by decide +kernel
theorem dX2_add_35 : decode cX2_add 35 = .ok (.getfield 24, 3) := by decide +kernel
theorem dX2_add_38 : decode cX2_add 38 = .ok (.iload 4, 2) := by decide +kernel
theorem dX2_add_40 : decode cX2_add 40 = .ok (.iastore, 1) := by decide +kernel
theorem dX2_add_41 : decode cX2_add 41 = .ok (.aload_n 0, 1) := by decide +kernel
theorem dX2_add_42 : decode cX2_add 42 = .ok (.dup, 1) := by decide +kernel
theorem dX2_add_43 : decode cX2_add 43 = .ok (.getfield 24, 3) := by decide +kernel
theorem dX2_add_46 : decode cX2_add 46 = .ok (.iconst 1, 1) := by decide +kernel
theorem dX2_add_47 : decode cX2_add 47 = .ok (.iadd, 1) := by decide +kernel
theorem dX2_add_48 : decode cX2_add 48 = .ok (.putfield 24, 3) := by decide +kernel
theorem dX2_add_51 : decode cX2_add 51 = .ok (.aload_n 0, 1) := by decide +kernel
theorem dX2_add_52 : decode cX2_add 52 = .ok (.getfield 24, 3) := by decide +kernel
theorem dX2_add_55 : decode cX2_add 55 = .ok (.iconst 1, 1) := by decide +kernel
theorem dX2_add_56 : decode cX2_add 56 = .ok (.isub, 1) := by decide +kernel
theorem dX2_add_57 : decode cX2_add 57 = .ok (.ireturn, 1) := by decide +kernel
theorem dX2_all_0 : decode cX2_all 0 = .ok (.iconst 1, 1) := by decide +kernel
theorem dX2_all_1 : decode cX2_all 1 = .ok (.aload_n 0, 1) := by decide +kernel
theorem dX2_all_2 : decode cX2_all 2 = .ok (.getfield 24, 3) := by decide +kernel
theorem dX2_all_5 : decode cX2_all 5 = .ok (.ishl, 1) := by decide +kernel
theorem dX2_all_6 : decode cX2_all 6 = .ok (.iconst 1, 1) := by decide +kernel
theorem dX2_all_7 : decode cX2_all 7 = .ok (.isub, 1) := by decide +kernel
theorem dX2_all_8 : decode cX2_all 8 = .ok (.ireturn, 1) := by decide +kernel
theorem dX2_having_0 : decode cX2_having 0 = .ok (.iconst 0, 1) := by decide +kernel
theorem dX2_having_1 : decode cX2_having 1 = .ok (.istore_n 2, 1) := by decide +kernel
theorem dX2_having_2 : decode cX2_having 2 = .ok (.iconst 0, 1) := by decide +kernel
theorem dX2_having_3 : decode cX2_having 3 = .ok (.istore_n 3, 1) := by decide +kernel
theorem dX2_having_4 : decode cX2_having 4 = .ok (.iload_n 3, 1) := by decide +kernel
theorem dX2_having_5 : decode cX2_having 5 = .ok (.aload_n 0, 1) := by decide +kernel
theorem dX2_having_6 : decode cX2_having 6 = .ok (.getfield 24, 3) := by decide +kernel
theorem dX2_having_9 : decode cX2_having 9 = .ok (.if_icmp .ge 24, 3) := by decide +kernel
theorem dX2_having_12 : decode cX2_having 12 = .ok (.iload_n 2, 1) := by decide +kernel
theorem dX2_having_13 : decode cX2_having 13 = .ok (.aload_n 0, 1) := by decide +kernel
theorem dX2_having_14 : decode cX2_having 14 = .ok (.getfield 21, 3) := by decide +kernel
theorem dX2_having_17 : decode cX2_having 17 = .ok (.iload_n 3, 1) := by decide +kernel
theorem dX2_having_18 : decode cX2_having 18 = .ok (.iaload, 1) := by decide +kernel
theorem dX2_having_19 : decode cX2_having 19 = .ok (.iload_n 1, 1) := by decide +kernel
theorem dX2_having_20 : decode cX2_having 20 = .ok (.ishr, 1) := by decide +kernel
theorem dX2_having_21 : decode cX2_having 21 = .ok (.iconst 1, 1) := by decide +kernel
theorem dX2_having_22 : decode cX2_having 22 = .ok (.iand, 1) := by decide +kernel
theorem dX2_having_23 : decode cX2_having 23 = .ok (.iload_n 3, 1) := by decide +kernel
theorem dX2_having_24 : decode cX2_having 24 = .ok (.ishl, 1) := by decide +kernel
theorem dX2_having_25 : decode cX2_having 25 = .ok (.ior, 1) := by decide +kernel
theorem dX2_having_26 : decode cX2_having 26 = .ok (.istore_n 2, 1) := by decide +kernel
theorem dX2_having_27 : decode cX2_having 27 = .ok (.iinc 3 1, 3) := by decide +kernel
theorem dX2_having_30 : decode cX2_having 30 = .ok (.goto (-26), 3) := by decide +kernel
theorem dX2_having_33 : decode cX2_having 33 = .ok (.iload_n 2, 1) := by decide +kernel
theorem dX2_having_34 : decode cX2_having 34 = .ok (.ireturn, 1) := by decide +kernel
set_option maxRecDepth 20000 in
theorem ggX2_isParted_X2_having : GoodIn wsX2_isParted wsX2_having := goodIn_r _ [5, 6, 7, 12, 13, 14, 15, 16] (by decide +kernel) (by decide +kernel)
set_option maxRecDepth 20000 in
theorem gX2_isParted_X2_having : GoodIn wsX2_isParted (wsV RX2 34 RX2 yX2_having wsX2_having) := goodIn_app (goodIn_of _ (by decide +kernel)) ggX2_isParted_X2_having
set_option maxRecDepth 20000 in
theorem ggX2_isParted_X2_all : GoodIn wsX2_isParted wsX2_all := goodIn_r _ [11, 6, 12, 13, 14, 15, 16] (by decide +kernel) (by decide +kernel)
set_option maxRecDepth 20000 in
theorem gX2_isParted_X2_all : GoodIn wsX2_isParted (wsV RX2 38 RX2 yX2_all wsX2_all) := goodIn_app (goodIn_of _ (by decide +kernel)) ggX2_isParted_X2_all
theorem dX2_isParted_0 : decode cX2_isParted 0 = .ok (.aload_n 0, 1) := by decide +kernel
theorem dX2_isParted_1 : decode cX2_isParted 1 = .ok (.iload_n 1, 1) := by decide +kernel
theorem dX2_isParted_2 : decode cX2_isParted 2 = .ok (.invokevirtual 34, 3) := by decide +kernel
theorem dX2_isParted_5 : decode cX2_isParted 5 = .ok (.istore_n 2, 1) := by decide +kernel
theorem dX2_isParted_6 : decode cX2_isParted 6 = .ok (.iload_n 2, 1) := by decide +kernel
theorem dX2_isParted_7 : decode cX2_isParted 7 = .ok (.ifCond .eq 15, 3) := by decide +kernel
theorem dX2_isParted_10 : decode cX2_isParted 10 = .ok (.iload_n 2, 1) := by decide +kernel
theorem dX2_isParted_11 : decode cX2_isParted 11 = .ok (.aload_n 0, 1) := by decide +kernel
theorem dX2_isParted_12 : decode cX2_isParted 12 = .ok (.invokevirtual 38, 3) := by decide +kernel
theorem dX2_isParted_15 : decode cX2_isParted 15 = .ok (.if_icmp .eq 7, 3) := by decide +kernel
theorem dX2_isParted_18 : decode cX2_isParted 18 = .ok (.iconst 1, 1) := by decide +kernel
theorem dX2_isParted_19 : decode cX2_isParted 19 = .ok (.goto 4, 3) := by decide +kernel
theorem dX2_isParted_22 : decode cX2_isParted 22 = .ok (.iconst 0, 1) := by decide +kernel
theorem dX2_isParted_23 : decode cX2_isParted 23 = .ok (.ireturn, 1) := by decide +kernel
theorem dX2_peopleOf_0 : decode cX2_peopleOf 0 = .ok (.iconst 0, 1) := by decide +kernel
theorem dX2_peopleOf_1 : decode cX2_peopleOf 1 = .ok (.istore_n 2, 1) := by decide +kernel
theorem dX2_peopleOf_2 : decode cX2_peopleOf 2 = .ok (.iconst 0, 1) := by decide +kernel
theorem dX2_peopleOf_3 : decode cX2_peopleOf 3 = .ok (.istore_n 3, 1) := by decide +kernel
theorem dX2_peopleOf_4 : decode cX2_peopleOf 4 = .ok (.iload_n 3, 1) := by decide +kernel
theorem dX2_peopleOf_5 : decode cX2_peopleOf 5 = .ok (.aload_n 0, 1) := by decide +kernel
theorem dX2_peopleOf_6 : decode cX2_peopleOf 6 = .ok (.getfield 24, 3) := by decide +kernel
theorem dX2_peopleOf_9 : decode cX2_peopleOf 9 = .ok (.if_icmp .ge 27, 3) := by decide +kernel
theorem dX2_peopleOf_12 : decode cX2_peopleOf 12 = .ok (.iload_n 1, 1) := by decide +kernel
theorem dX2_peopleOf_13 : decode cX2_peopleOf 13 = .ok (.iload_n 3, 1) := by decide +kernel
theorem dX2_peopleOf_14 : decode cX2_peopleOf 14 = .ok (.ishr, 1) := by decide +kernel
theorem dX2_peopleOf_15 : decode cX2_peopleOf 15 = .ok (.iconst 1, 1) := by decide +kernel
theorem dX2_peopleOf_16 : decode cX2_peopleOf 16 = .ok (.iand, 1) := by decide +kernel
theorem dX2_peopleOf_17 : decode cX2_peopleOf 17 = .ok (.iconst 1, 1) := by decide +kernel
theorem dX2_peopleOf_18 : decode cX2_peopleOf 18 = .ok (.if_icmp .ne 12, 3) := by decide +kernel
theorem dX2_peopleOf_21 : decode cX2_peopleOf 21 = .ok (.iload_n 2, 1) := by decide +kernel
theorem dX2_peopleOf_22 : decode cX2_peopleOf 22 = .ok (.aload_n 0, 1) := by decide +kernel
theorem dX2_peopleOf_23 : decode cX2_peopleOf 23 = .ok (.getfield 11, 3) := by decide +kernel
theorem dX2_peopleOf_26 : decode cX2_peopleOf 26 = .ok (.iload_n 3, 1) := by decide +kernel
theorem dX2_peopleOf_27 : decode cX2_peopleOf 27 = .ok (.iaload, 1) := by decide +kernel
theorem dX2_peopleOf_28 : decode cX2_peopleOf 28 = .ok (.iadd, 1) := by decide +kernel
theorem dX2_peopleOf_29 : decode cX2_peopleOf 29 = .ok (.istore_n 2, 1) := by decide +kernel
theorem dX2_peopleOf_30 : decode cX2_peopleOf 30 = .ok (.iinc 3 1, 3) := by decide +kernel
theorem dX2_peopleOf_33 : decode cX2_peopleOf 33 = .ok (.goto (-29), 3) := by decide +kernel
theorem dX2_peopleOf_36 : decode cX2_peopleOf 36 = .ok (.iload_n 2, 1) := by decide +kernel
theorem dX2_peopleOf_37 : decode cX2_peopleOf 37 = .ok (.ireturn, 1) := by decide +kernel
theorem dX2_excessOf_0 : decode cX2_excessOf 0 = .ok (.iconst 0, 1) := by decide +kernel
theorem dX2_excessOf_1 : decode cX2_excessOf 1 = .ok (.istore_n 2, 1) := by decide +kernel
theorem dX2_excessOf_2 : decode cX2_excessOf 2 = .ok (.iconst 0, 1) := by decide +kernel
theorem dX2_excessOf_3 : decode cX2_excessOf 3 = .ok (.istore_n 3, 1) := by decide +kernel
theorem dX2_excessOf_4 : decode cX2_excessOf 4 = .ok (.iload_n 3, 1) := by decide +kernel
theorem dX2_excessOf_5 : decode cX2_excessOf 5 = .ok (.aload_n 0, 1) := by decide +kernel
theorem dX2_excessOf_6 : decode cX2_excessOf 6 = .ok (.getfield 24, 3) := by decide +kernel
theorem dX2_excessOf_9 : decode cX2_excessOf 9 = .ok (.if_icmp .ge 34, 3) := by decide +kernel
theorem dX2_excessOf_12 : decode cX2_excessOf 12 = .ok (.iload_n 1, 1) := by decide +kernel
theorem dX2_excessOf_13 : decode cX2_excessOf 13 = .ok (.iload_n 3, 1) := by decide +kernel
theorem dX2_excessOf_14 : decode cX2_excessOf 14 = .ok (.ishr, 1) := by decide +kernel
theorem dX2_excessOf_15 : decode cX2_excessOf 15 = .ok (.iconst 1, 1) := by decide +kernel
theorem dX2_excessOf_16 : decode cX2_excessOf 16 = .ok (.iand, 1) := by decide +kernel
theorem dX2_excessOf_17 : decode cX2_excessOf 17 = .ok (.iconst 1, 1) := by decide +kernel
theorem dX2_excessOf_18 : decode cX2_excessOf 18 = .ok (.if_icmp .ne 19, 3) := by decide +kernel
theorem dX2_excessOf_21 : decode cX2_excessOf 21 = .ok (.iload_n 2, 1) := by decide +kernel
theorem dX2_excessOf_22 : decode cX2_excessOf 22 = .ok (.aload_n 0, 1) := by decide +kernel
theorem dX2_excessOf_23 : decode cX2_excessOf 23 = .ok (.getfield 15, 3) := by decide +kernel
theorem dX2_excessOf_26 : decode cX2_excessOf 26 = .ok (.iload_n 3, 1) := by decide +kernel
theorem dX2_excessOf_27 : decode cX2_excessOf 27 = .ok (.iaload, 1) := by decide +kernel
theorem dX2_excessOf_28 : decode cX2_excessOf 28 = .ok (.aload_n 0, 1) := by decide +kernel
theorem dX2_excessOf_29 : decode cX2_excessOf 29 = .ok (.getfield 18, 3) := by decide +kernel
theorem dX2_excessOf_32 : decode cX2_excessOf 32 = .ok (.iload_n 3, 1) := by decide +kernel
theorem dX2_excessOf_33 : decode cX2_excessOf 33 = .ok (.iaload, 1) := by decide +kernel
theorem dX2_excessOf_34 : decode cX2_excessOf 34 = .ok (.isub, 1) := by decide +kernel
theorem dX2_excessOf_35 : decode cX2_excessOf 35 = .ok (.iadd, 1) := by decide +kernel
theorem dX2_excessOf_36 : decode cX2_excessOf 36 = .ok (.istore_n 2, 1) := by decide +kernel
theorem dX2_excessOf_37 : decode cX2_excessOf 37 = .ok (.iinc 3 1, 3) := by decide +kernel
theorem dX2_excessOf_40 : decode cX2_excessOf 40 = .ok (.goto (-36), 3) := by decide +kernel
theorem dX2_excessOf_43 : decode cX2_excessOf 43 = .ok (.iload_n 2, 1) := by decide +kernel
theorem dX2_excessOf_44 : decode cX2_excessOf 44 = .ok (.ireturn, 1) := by decide +kernel
theorem dX2_areAlike_0 : decode cX2_areAlike 0 = .ok (.aload_n 0, 1) := by decide +kernel
theorem dX2_areAlike_1 : decode cX2_areAlike 1 = .ok (.getfield 11, 3) := by decide +kernel
theorem dX2_areAlike_4 : decode cX2_areAlike 4 = .ok (.iload_n 1, 1) := by decide +kernel
theorem dX2_areAlike_5 : decode cX2_areAlike 5 = .ok (.iaload, 1) := by decide +kernel
theorem dX2_areAlike_6 : decode cX2_areAlike 6 = .ok (.aload_n 0, 1) := by decide +kernel
theorem dX2_areAlike_7 : decode cX2_areAlike 7 = .ok (.getfield 11, 3) := by decide +kernel
theorem dX2_areAlike_10 : decode cX2_areAlike 10 = .ok (.iload_n 2, 1) := by decide +kernel
theorem dX2_areAlike_11 : decode cX2_areAlike 11 = .ok (.iaload, 1) := by decide +kernel
theorem dX2_areAlike_12 : decode cX2_areAlike 12 = .ok (.if_icmp .ne 37, 3) := by decide +kernel
theorem dX2_areAlike_15 : decode cX2_areAlike 15 = .ok (.aload_n 0, 1) := by decide +kernel
theorem dX2_areAlike_16 : decode cX2_areAlike 16 = .ok (.getfield 15, 3) := by decide +kernel
theorem dX2_areAlike_19 : decode cX2_areAlike 19 = .ok (.iload_n 1, 1) := by decide +kernel
theorem dX2_areAlike_20 : decode cX2_areAlike 20 = .ok (.iaload, 1) := by decide +kernel
theorem dX2_areAlike_21 : decode cX2_areAlike 21 = .ok (.aload_n 0, 1) := by decide +kernel
theorem dX2_areAlike_22 : decode cX2_areAlike 22 = .ok (.getfield 15, 3) := by decide +kernel
theorem dX2_areAlike_25 : decode cX2_areAlike 25 = .ok (.iload_n 2, 1) := by decide +kernel
theorem dX2_areAlike_26 : decode cX2_areAlike 26 = .ok (.iaload, 1) := by decide +kernel
theorem dX2_areAlike_27 : decode cX2_areAlike 27 = .ok (.if_icmp .ne 22, 3) := by decide +kernel
theorem dX2_areAlike_30 : decode cX2_areAlike 30 = .ok (.aload_n 0, 1) := by decide +kernel
theorem dX2_areAlike_31 : decode cX2_areAlike 31 = .ok (.getfield 18, 3) := by decide +kernel
theorem dX2_areAlike_34 : decode cX2_areAlike 34 = .ok (.iload_n 1, 1) := by decide +kernel
theorem dX2_areAlike_35 : decode cX2_areAlike 35 = .ok (.iaload, 1) := by decide +kernel
theorem dX2_areAlike_36 : decode cX2_areAlike 36 = .ok (.aload_n 0, 1) := by decide +kernel
theorem dX2_areAlike_37 : decode cX2_areAlike 37 = .ok (.getfield 18, 3) := by decide +kernel
theorem dX2_areAlike_40 : decode cX2_areAlike 40 = .ok (.iload_n 2, 1) := by decide +kernel
theorem dX2_areAlike_41 : decode cX2_areAlike 41 = .ok (.iaload, 1) := by decide +kernel
theorem dX2_areAlike_42 : decode cX2_areAlike 42 = .ok (.if_icmp .ne 7, 3) := by decide +kernel
theorem dX2_areAlike_45 : decode cX2_areAlike 45 = .ok (.iconst 1, 1) := by decide +kernel
theorem dX2_areAlike_46 : decode cX2_areAlike 46 = .ok (.goto 4, 3) := by decide +kernel
theorem dX2_areAlike_49 : decode cX2_areAlike 49 = .ok (.iconst 0, 1) := by decide +kernel
theorem dX2_areAlike_50 : decode cX2_areAlike 50 = .ok (.ireturn, 1) := by decide +kernel
set_option maxRecDepth 20000 in
theorem ggX2_alikeTo_X2_areAlike : GoodIn wsX2_alikeTo wsX2_areAlike := goodIn_r _ [6, 7, 8, 9, 10, 11, 12, 13, 14] (by decide +kernel) (by decide +kernel)
set_option maxRecDepth 20000 in
theorem gX2_alikeTo_X2_areAlike : GoodIn wsX2_alikeTo (wsV RX2 42 RX2 yX2_areAlike wsX2_areAlike) := goodIn_app (goodIn_of _ (by decide +kernel)) ggX2_alikeTo_X2_areAlike
theorem dX2_alikeTo_0 : decode cX2_alikeTo 0 = .ok (.iconst 0, 1) := by decide +kernel
theorem dX2_alikeTo_1 : decode cX2_alikeTo 1 = .ok (.istore_n 2, 1) := by decide +kernel
theorem dX2_alikeTo_2 : decode cX2_alikeTo 2 = .ok (.iconst 0, 1) := by decide +kernel
theorem dX2_alikeTo_3 : decode cX2_alikeTo 3 = .ok (.istore_n 3, 1) := by decide +kernel
theorem dX2_alikeTo_4 : decode cX2_alikeTo 4 = .ok (.iload_n 3, 1) := by decide +kernel
theorem dX2_alikeTo_5 : decode cX2_alikeTo 5 = .ok (.aload_n 0, 1) := by decide +kernel
theorem dX2_alikeTo_6 : decode cX2_alikeTo 6 = .ok (.getfield 24, 3) := by decide +kernel
theorem dX2_alikeTo_9 : decode cX2_alikeTo 9 = .ok (.if_icmp .ge 26, 3) := by decide +kernel
theorem dX2_alikeTo_12 : decode cX2_alikeTo 12 = .ok (.iload_n 2, 1) := by decide +kernel
theorem dX2_alikeTo_13 : decode cX2_alikeTo 13 = .ok (.aload_n 0, 1) := by decide +kernel
theorem dX2_alikeTo_14 : decode cX2_alikeTo 14 = .ok (.iload_n 1, 1) := by decide +kernel
theorem dX2_alikeTo_15 : decode cX2_alikeTo 15 = .ok (.iload_n 3, 1) := by decide +kernel
theorem dX2_alikeTo_16 : decode cX2_alikeTo 16 = .ok (.invokevirtual 42, 3) := by decide +kernel
theorem dX2_alikeTo_19 : decode cX2_alikeTo 19 = .ok (.ifCond .eq 7, 3) := by decide +kernel
theorem dX2_alikeTo_22 : decode cX2_alikeTo 22 = .ok (.iconst 1, 1) := by decide +kernel
theorem dX2_alikeTo_23 : decode cX2_alikeTo 23 = .ok (.goto 4, 3) := by decide +kernel
theorem dX2_alikeTo_26 : decode cX2_alikeTo 26 = .ok (.iconst 0, 1) := by decide +kernel
theorem dX2_alikeTo_27 : decode cX2_alikeTo 27 = .ok (.iadd, 1) := by decide +kernel
theorem dX2_alikeTo_28 : decode cX2_alikeTo 28 = .ok (.istore_n 2, 1) := by decide +kernel
theorem dX2_alikeTo_29 : decode cX2_alikeTo 29 = .ok (.iinc 3 1, 3) := by decide +kernel
theorem dX2_alikeTo_32 : decode cX2_alikeTo 32 = .ok (.goto (-28), 3) := by decide +kernel
theorem dX2_alikeTo_35 : decode cX2_alikeTo 35 = .ok (.iload_n 2, 1) := by decide +kernel
theorem dX2_alikeTo_36 : decode cX2_alikeTo 36 = .ok (.ireturn, 1) := by decide +kernel
set_option maxRecDepth 20000 in
theorem ggX2_alikePairs_X2_alikeTo : GoodIn wsX2_alikePairs wsX2_alikeTo := goodIn_r _ [6, 1, 7, 8, 9, 5, 10, 11, 12, 13, 14, 15, 16, 17, 18] (by decide +kernel) (by decide +kernel)
set_option maxRecDepth 20000 in
theorem gX2_alikePairs_X2_alikeTo : GoodIn wsX2_alikePairs (wsV RX2 46 RX2 yX2_alikeTo wsX2_alikeTo) := goodIn_app (goodIn_of _ (by decide +kernel)) ggX2_alikePairs_X2_alikeTo
theorem dX2_alikePairs_0 : decode cX2_alikePairs 0 = .ok (.iconst 0, 1) := by decide +kernel
theorem dX2_alikePairs_1 : decode cX2_alikePairs 1 = .ok (.istore_n 1, 1) := by decide +kernel
theorem dX2_alikePairs_2 : decode cX2_alikePairs 2 = .ok (.iconst 0, 1) := by decide +kernel
theorem dX2_alikePairs_3 : decode cX2_alikePairs 3 = .ok (.istore_n 2, 1) := by decide +kernel
theorem dX2_alikePairs_4 : decode cX2_alikePairs 4 = .ok (.iload_n 2, 1) := by decide +kernel
theorem dX2_alikePairs_5 : decode cX2_alikePairs 5 = .ok (.aload_n 0, 1) := by decide +kernel
theorem dX2_alikePairs_6 : decode cX2_alikePairs 6 = .ok (.getfield 24, 3) := by decide +kernel
theorem dX2_alikePairs_9 : decode cX2_alikePairs 9 = .ok (.if_icmp .ge 19, 3) := by decide +kernel
theorem dX2_alikePairs_12 : decode cX2_alikePairs 12 = .ok (.iload_n 1, 1) := by decide +kernel
theorem dX2_alikePairs_13 : decode cX2_alikePairs 13 = .ok (.aload_n 0, 1) := by decide +kernel
theorem dX2_alikePairs_14 : decode cX2_alikePairs 14 = .ok (.iload_n 2, 1) := by decide +kernel
theorem dX2_alikePairs_15 : decode cX2_alikePairs 15 = .ok (.invokevirtual 46, 3) := by decide +kernel
theorem dX2_alikePairs_18 : decode cX2_alikePairs 18 = .ok (.iconst 1, 1) := by decide +kernel
theorem dX2_alikePairs_19 : decode cX2_alikePairs 19 = .ok (.isub, 1) := by decide +kernel
theorem dX2_alikePairs_20 : decode cX2_alikePairs 20 = .ok (.iadd, 1) := by decide +kernel
theorem dX2_alikePairs_21 : decode cX2_alikePairs 21 = .ok (.istore_n 1, 1) := by decide +kernel
theorem dX2_alikePairs_22 : decode cX2_alikePairs 22 = .ok (.iinc 2 1, 3) := by decide +kernel
theorem dX2_alikePairs_25 : decode cX2_alikePairs 25 = .ok (.goto (-21), 3) := by decide +kernel
theorem dX2_alikePairs_28 : decode cX2_alikePairs 28 = .ok (.iload_n 1, 1) := by decide +kernel
theorem dX2_alikePairs_29 : decode cX2_alikePairs 29 = .ok (.iconst 2, 1) := by decide +kernel
theorem dX2_alikePairs_30 : decode cX2_alikePairs 30 = .ok (.idiv, 1) := by decide +kernel
theorem dX2_alikePairs_31 : decode cX2_alikePairs 31 = .ok (.ireturn, 1) := by decide +kernel
set_option maxRecDepth 20000 in
theorem ggX2_allWaysOfLuck_X5_choose : GoodIn wsX2_allWaysOfLuck wsX5_choose := goodIn_r _ [4] (by decide +kernel) (by decide +kernel)
set_option maxRecDepth 20000 in
theorem gX2_allWaysOfLuck_X5_choose_n49 : GoodIn wsX2_allWaysOfLuck (wsX5_choose) := ggX2_allWaysOfLuck_X5_choose
theorem dX2_allWaysOfLuck_0 : decode cX2_allWaysOfLuck 0 = .ok (.iconst 2, 1) := by decide +kernel
theorem dX2_allWaysOfLuck_1 : decode cX2_allWaysOfLuck 1 = .ok (.aload_n 0, 1) := by decide +kernel
theorem dX2_allWaysOfLuck_2 : decode cX2_allWaysOfLuck 2 = .ok (.getfield 11, 3) := by decide +kernel
theorem dX2_allWaysOfLuck_5 : decode cX2_allWaysOfLuck 5 = .ok (.iload_n 1, 1) := by decide +kernel
theorem dX2_allWaysOfLuck_6 : decode cX2_allWaysOfLuck 6 = .ok (.iaload, 1) := by decide +kernel
theorem dX2_allWaysOfLuck_7 : decode cX2_allWaysOfLuck 7 = .ok (.imul, 1) := by decide +kernel
theorem dX2_allWaysOfLuck_8 : decode cX2_allWaysOfLuck 8 = .ok (.aload_n 0, 1) := by decide +kernel
theorem dX2_allWaysOfLuck_9 : decode cX2_allWaysOfLuck 9 = .ok (.getfield 11, 3) := by decide +kernel
theorem dX2_allWaysOfLuck_12 : decode cX2_allWaysOfLuck 12 = .ok (.iload_n 1, 1) := by decide +kernel
theorem dX2_allWaysOfLuck_13 : decode cX2_allWaysOfLuck 13 = .ok (.iaload, 1) := by decide +kernel
theorem dX2_allWaysOfLuck_14 : decode cX2_allWaysOfLuck 14 = .ok (.invokestatic 49, 3) := by decide +kernel
theorem dX2_allWaysOfLuck_17 : decode cX2_allWaysOfLuck 17 = .ok (.l2i, 1) := by decide +kernel
theorem dX2_allWaysOfLuck_18 : decode cX2_allWaysOfLuck 18 = .ok (.ireturn, 1) := by decide +kernel
set_option maxRecDepth 20000 in
theorem ggX2_waysOfLuck_X5_choose : GoodIn wsX2_waysOfLuck wsX5_choose := goodIn_r _ [6] (by decide +kernel) (by decide +kernel)
set_option maxRecDepth 20000 in
theorem gX2_waysOfLuck_X5_choose_n49 : GoodIn wsX2_waysOfLuck (wsX5_choose) := ggX2_waysOfLuck_X5_choose
theorem dX2_waysOfLuck_0 : decode cX2_waysOfLuck 0 = .ok (.aload_n 0, 1) := by decide +kernel
theorem dX2_waysOfLuck_1 : decode cX2_waysOfLuck 1 = .ok (.getfield 11, 3) := by decide +kernel
theorem dX2_waysOfLuck_4 : decode cX2_waysOfLuck 4 = .ok (.iload_n 1, 1) := by decide +kernel
theorem dX2_waysOfLuck_5 : decode cX2_waysOfLuck 5 = .ok (.iaload, 1) := by decide +kernel
theorem dX2_waysOfLuck_6 : decode cX2_waysOfLuck 6 = .ok (.istore_n 2, 1) := by decide +kernel
theorem dX2_waysOfLuck_7 : decode cX2_waysOfLuck 7 = .ok (.aload_n 0, 1) := by decide +kernel
theorem dX2_waysOfLuck_8 : decode cX2_waysOfLuck 8 = .ok (.getfield 15, 3) := by decide +kernel
theorem dX2_waysOfLuck_11 : decode cX2_waysOfLuck 11 = .ok (.iload_n 1, 1) := by decide +kernel
theorem dX2_waysOfLuck_12 : decode cX2_waysOfLuck 12 = .ok (.iaload, 1) := by decide +kernel
theorem dX2_waysOfLuck_13 : decode cX2_waysOfLuck 13 = .ok (.aload_n 0, 1) := by decide +kernel
theorem dX2_waysOfLuck_14 : decode cX2_waysOfLuck 14 = .ok (.getfield 18, 3) := by decide +kernel
theorem dX2_waysOfLuck_17 : decode cX2_waysOfLuck 17 = .ok (.iload_n 1, 1) := by decide +kernel
theorem dX2_waysOfLuck_18 : decode cX2_waysOfLuck 18 = .ok (.iaload, 1) := by decide +kernel
theorem dX2_waysOfLuck_19 : decode cX2_waysOfLuck 19 = .ok (.iadd, 1) := by decide +kernel
theorem dX2_waysOfLuck_20 : decode cX2_waysOfLuck 20 = .ok (.istore_n 3, 1) := by decide +kernel
theorem dX2_waysOfLuck_21 : decode cX2_waysOfLuck 21 = .ok (.lconst 0, 1) := by decide +kernel
theorem dX2_waysOfLuck_22 : decode cX2_waysOfLuck 22 = .ok (.lstore 4, 2) := by decide +kernel
theorem dX2_waysOfLuck_24 : decode cX2_waysOfLuck 24 = .ok (.aload_n 0, 1) := by decide +kernel
theorem dX2_waysOfLuck_25 : decode cX2_waysOfLuck 25 = .ok (.getfield 15, 3) := by decide +kernel
theorem dX2_waysOfLuck_28 : decode cX2_waysOfLuck 28 = .ok (.iload_n 1, 1) := by decide +kernel
theorem dX2_waysOfLuck_29 : decode cX2_waysOfLuck 29 = .ok (.iaload, 1) := by decide +kernel
theorem dX2_waysOfLuck_30 : decode cX2_waysOfLuck 30 = .ok (.istore 6, 2) := by decide +kernel
theorem dX2_waysOfLuck_32 : decode cX2_waysOfLuck 32 = .ok (.iload 6, 2) := by decide +kernel
theorem dX2_waysOfLuck_34 : decode cX2_waysOfLuck 34 = .ok (.iload_n 2, 1) := by decide +kernel
theorem dX2_waysOfLuck_35 : decode cX2_waysOfLuck 35 = .ok (.if_icmp .gt 33, 3) := by decide +kernel
theorem dX2_waysOfLuck_38 : decode cX2_waysOfLuck 38 = .ok (.lload 4, 2) := by decide +kernel
theorem dX2_waysOfLuck_40 : decode cX2_waysOfLuck 40 = .ok (.iload_n 3, 1) := by decide +kernel
theorem dX2_waysOfLuck_41 : decode cX2_waysOfLuck 41 = .ok (.iload 6, 2) := by decide +kernel
theorem dX2_waysOfLuck_43 : decode cX2_waysOfLuck 43 = .ok (.invokestatic 49, 3) := by decide +kernel
theorem dX2_waysOfLuck_46 : decode cX2_waysOfLuck 46 = .ok (.iconst 2, 1) := by decide +kernel
theorem dX2_waysOfLuck_47 : decode cX2_waysOfLuck 47 = .ok (.iload_n 2, 1) := by decide +kernel
theorem dX2_waysOfLuck_48 : decode cX2_waysOfLuck 48 = .ok (.imul, 1) := by decide +kernel
theorem dX2_waysOfLuck_49 : decode cX2_waysOfLuck 49 = .ok (.iload_n 3, 1) := by decide +kernel
theorem dX2_waysOfLuck_50 : decode cX2_waysOfLuck 50 = .ok (.isub, 1) := by decide +kernel
theorem dX2_waysOfLuck_51 : decode cX2_waysOfLuck 51 = .ok (.iload_n 2, 1) := by decide +kernel
theorem dX2_waysOfLuck_52 : decode cX2_waysOfLuck 52 = .ok (.iload 6, 2) := by decide +kernel
theorem dX2_waysOfLuck_54 : decode cX2_waysOfLuck 54 = .ok (.isub, 1) := by decide +kernel
theorem dX2_waysOfLuck_55 : decode cX2_waysOfLuck 55 = .ok (.invokestatic 49, 3) := by decide +kernel
theorem dX2_waysOfLuck_58 : decode cX2_waysOfLuck 58 = .ok (.lmul, 1) := by decide +kernel
theorem dX2_waysOfLuck_59 : decode cX2_waysOfLuck 59 = .ok (.ladd, 1) := by decide +kernel
theorem dX2_waysOfLuck_60 : decode cX2_waysOfLuck 60 = .ok (.lstore 4, 2) := by decide +kernel
theorem dX2_waysOfLuck_62 : decode cX2_waysOfLuck 62 = .ok (.iinc 6 1, 3) := by decide +kernel
theorem dX2_waysOfLuck_65 : decode cX2_waysOfLuck 65 = .ok (.goto (-33), 3) := by decide +kernel
theorem dX2_waysOfLuck_68 : decode cX2_waysOfLuck 68 = .ok (.lload 4, 2) := by decide +kernel
theorem dX2_waysOfLuck_70 : decode cX2_waysOfLuck 70 = .ok (.l2i, 1) := by decide +kernel
theorem dX2_waysOfLuck_71 : decode cX2_waysOfLuck 71 = .ok (.ireturn, 1) := by decide +kernel
set_option maxRecDepth 20000 in
theorem ggX2_leftOut_X2_all : GoodIn wsX2_leftOut wsX2_all := goodIn_r _ [11, 2, 23, 24, 25, 26, 27] (by decide +kernel) (by decide +kernel)
set_option maxRecDepth 20000 in
theorem gX2_leftOut_X2_all : GoodIn wsX2_leftOut (wsV RX2 38 RX2 yX2_all wsX2_all) := goodIn_app (goodIn_of _ (by decide +kernel)) ggX2_leftOut_X2_all
set_option maxRecDepth 20000 in
theorem ggX2_leftOut_X2_peopleOf : GoodIn wsX2_leftOut wsX2_peopleOf := goodIn_r _ [15, 2, 16, 23, 24, 25, 26, 27] (by decide +kernel) (by decide +kernel)
set_option maxRecDepth 20000 in
theorem gX2_leftOut_X2_peopleOf : GoodIn wsX2_leftOut (wsV RX2 53 RX2 yX2_peopleOf wsX2_peopleOf) := goodIn_app (goodIn_of _ (by decide +kernel)) ggX2_leftOut_X2_peopleOf
set_option maxRecDepth 20000 in
theorem ggX2_leftOut_X2_excessOf : GoodIn wsX2_leftOut wsX2_excessOf := goodIn_r _ [20, 2, 21, 22, 23, 24, 25, 26, 27] (by decide +kernel) (by decide +kernel)
set_option maxRecDepth 20000 in
theorem gX2_leftOut_X2_excessOf : GoodIn wsX2_leftOut (wsV RX2 56 RX2 yX2_excessOf wsX2_excessOf) := goodIn_app (goodIn_of _ (by decide +kernel)) ggX2_leftOut_X2_excessOf
theorem dX2_leftOut_0 : decode cX2_leftOut 0 = .ok (.aload_n 0, 1) := by decide +kernel
theorem dX2_leftOut_1 : decode cX2_leftOut 1 = .ok (.aload_n 0, 1) := by decide +kernel
theorem dX2_leftOut_2 : decode cX2_leftOut 2 = .ok (.invokevirtual 38, 3) := by decide +kernel
theorem dX2_leftOut_5 : decode cX2_leftOut 5 = .ok (.invokevirtual 53, 3) := by decide +kernel
theorem dX2_leftOut_8 : decode cX2_leftOut 8 = .ok (.istore_n 1, 1) := by decide +kernel
theorem dX2_leftOut_9 : decode cX2_leftOut 9 = .ok (.aload_n 0, 1) := by decide +kernel
theorem dX2_leftOut_10 : decode cX2_leftOut 10 = .ok (.aload_n 0, 1) := by decide +kernel
theorem dX2_leftOut_11 : decode cX2_leftOut 11 = .ok (.invokevirtual 38, 3) := by decide +kernel
theorem dX2_leftOut_14 : decode cX2_leftOut 14 = .ok (.invokevirtual 56, 3) := by decide +kernel
theorem dX2_leftOut_17 : decode cX2_leftOut 17 = .ok (.istore_n 2, 1) := by decide +kernel
theorem dX2_leftOut_18 : decode cX2_leftOut 18 = .ok (.iconst 0, 1) := by decide +kernel
theorem dX2_leftOut_19 : decode cX2_leftOut 19 = .ok (.istore_n 3, 1) := by decide +kernel
theorem dX2_leftOut_20 : decode cX2_leftOut 20 = .ok (.ldc2_w 59, 3) := by decide +kernel
theorem dX2_leftOut_23 : decode cX2_leftOut 23 = .ok (.lstore 4, 2) := by decide +kernel
theorem dX2_leftOut_25 : decode cX2_leftOut 25 = .ok (.lconst 1, 1) := by decide +kernel
theorem dX2_leftOut_26 : decode cX2_leftOut 26 = .ok (.lstore 6, 2) := by decide +kernel
theorem dX2_leftOut_28 : decode cX2_leftOut 28 = .ok (.iconst 0, 1) := by decide +kernel
theorem dX2_leftOut_29 : decode cX2_leftOut 29 = .ok (.istore 8, 2) := by decide +kernel
theorem dX2_leftOut_31 : decode cX2_leftOut 31 = .ok (.iload 8, 2) := by decide +kernel
theorem dX2_leftOut_33 : decode cX2_leftOut 33 = .ok (.aload_n 0, 1) := by decide +kernel
theorem dX2_leftOut_34 : decode cX2_leftOut 34 = .ok (.getfield 24, 3) := by decide +kernel
theorem dX2_leftOut_37 : decode cX2_leftOut 37 = .ok (.if_icmp .ge 77, 3) := by decide +kernel
theorem dX2_leftOut_40 : decode cX2_leftOut 40 = .ok (.aload_n 0, 1) := by decide +kernel
theorem dX2_leftOut_41 : decode cX2_leftOut 41 = .ok (.invokevirtual 38, 3) := by decide +kernel
theorem dX2_leftOut_44 : decode cX2_leftOut 44 = .ok (.iconst 1, 1) := by decide +kernel
theorem dX2_leftOut_45 : decode cX2_leftOut 45 = .ok (.iload 8, 2) := by decide +kernel
theorem dX2_leftOut_47 : decode cX2_leftOut 47 = .ok (.ishl, 1) := by decide +kernel
theorem dX2_leftOut_48 : decode cX2_leftOut 48 = .ok (.iconst (-1), 1) := by decide +kernel
theorem dX2_leftOut_49 : decode cX2_leftOut 49 = .ok (.ixor, 1) := by decide +kernel
theorem dX2_leftOut_50 : decode cX2_leftOut 50 = .ok (.iand, 1) := by decide +kernel
theorem dX2_leftOut_51 : decode cX2_leftOut 51 = .ok (.istore 9, 2) := by decide +kernel
theorem dX2_leftOut_53 : decode cX2_leftOut 53 = .ok (.aload_n 0, 1) := by decide +kernel
theorem dX2_leftOut_54 : decode cX2_leftOut 54 = .ok (.iload 9, 2) := by decide +kernel
theorem dX2_leftOut_56 : decode cX2_leftOut 56 = .ok (.invokevirtual 53, 3) := by decide +kernel
theorem dX2_leftOut_59 : decode cX2_leftOut 59 = .ok (.i2l, 1) := by decide +kernel
theorem dX2_leftOut_60 : decode cX2_leftOut 60 = .ok (.lstore 10, 2) := by decide +kernel
theorem dX2_leftOut_62 : decode cX2_leftOut 62 = .ok (.aload_n 0, 1) := by decide +kernel
theorem dX2_leftOut_63 : decode cX2_leftOut 63 = .ok (.iload 9, 2) := by decide +kernel
theorem dX2_leftOut_65 : decode cX2_leftOut 65 = .ok (.invokevirtual 56, 3) := by decide +kernel
theorem dX2_leftOut_68 : decode cX2_leftOut 68 = .ok (.i2l, 1) := by decide +kernel
theorem dX2_leftOut_69 : decode cX2_leftOut 69 = .ok (.iload_n 1, 1) := by decide +kernel
theorem dX2_leftOut_70 : decode cX2_leftOut 70 = .ok (.i2l, 1) := by decide +kernel
theorem dX2_leftOut_71 : decode cX2_leftOut 71 = .ok (.lmul, 1) := by decide +kernel
theorem dX2_leftOut_72 : decode cX2_leftOut 72 = .ok (.iload_n 2, 1) := by decide +kernel
theorem dX2_leftOut_73 : decode cX2_leftOut 73 = .ok (.i2l, 1) := by decide +kernel
theorem dX2_leftOut_74 : decode cX2_leftOut 74 = .ok (.lload 10, 2) := by decide +kernel
theorem dX2_leftOut_76 : decode cX2_leftOut 76 = .ok (.lmul, 1) := by decide +kernel
theorem dX2_leftOut_77 : decode cX2_leftOut 77 = .ok (.lsub, 1) := by decide +kernel
theorem dX2_leftOut_78 : decode cX2_leftOut 78 = .ok (.invokestatic 61, 3) := by decide +kernel
theorem dX2_leftOut_81 : decode cX2_leftOut 81 = .ok (.lstore 12, 2) := by decide +kernel
theorem dX2_leftOut_83 : decode cX2_leftOut 83 = .ok (.lload 12, 2) := by decide +kernel
theorem dX2_leftOut_85 : decode cX2_leftOut 85 = .ok (.lload 6, 2) := by decide +kernel
theorem dX2_leftOut_87 : decode cX2_leftOut 87 = .ok (.lmul, 1) := by decide +kernel
theorem dX2_leftOut_88 : decode cX2_leftOut 88 = .ok (.lload 4, 2) := by decide +kernel
theorem dX2_leftOut_90 : decode cX2_leftOut 90 = .ok (.lload 10, 2) := by decide +kernel
theorem dX2_leftOut_92 : decode cX2_leftOut 92 = .ok (.lmul, 1) := by decide +kernel
theorem dX2_leftOut_93 : decode cX2_leftOut 93 = .ok (.lcmp, 1) := by decide +kernel
theorem dX2_leftOut_94 : decode cX2_leftOut 94 = .ok (.ifCond .le 14, 3) := by decide +kernel
theorem dX2_leftOut_97 : decode cX2_leftOut 97 = .ok (.iload 8, 2) := by decide +kernel
theorem dX2_leftOut_99 : decode cX2_leftOut 99 = .ok (.istore_n 3, 1) := by decide +kernel
theorem dX2_leftOut_100 : decode cX2_leftOut 100 = .ok (.lload 12, 2) := by decide +kernel
theorem dX2_leftOut_102 : decode cX2_leftOut 102 = .ok (.lstore 4, 2) := by decide +kernel
theorem dX2_leftOut_104 : decode cX2_leftOut 104 = .ok (.lload 10, 2) := by decide +kernel
theorem dX2_leftOut_106 : decode cX2_leftOut 106 = .ok (.lstore 6, 2) := by decide +kernel
theorem dX2_leftOut_108 : decode cX2_leftOut 108 = .ok (.iinc 8 1, 3) := by decide +kernel
theorem dX2_leftOut_111 : decode cX2_leftOut 111 = .ok (.goto (-80), 3) := by decide +kernel
theorem dX2_leftOut_114 : decode cX2_leftOut 114 = .ok (.iload_n 3, 1) := by decide +kernel
theorem dX2_leftOut_115 : decode cX2_leftOut 115 = .ok (.ireturn, 1) := by decide +kernel
set_option maxRecDepth 20000 in
theorem ggX2_gapUpper_X2_excessOf : GoodIn wsX2_gapUpper wsX2_excessOf := goodIn_r _ [5, 6, 7, 8, 18, 19, 20, 21, 22] (by decide +kernel) (by decide +kernel)
set_option maxRecDepth 20000 in
theorem gX2_gapUpper_X2_excessOf : GoodIn wsX2_gapUpper (wsV RX2 56 RX2 yX2_excessOf wsX2_excessOf) := goodIn_app (goodIn_of _ (by decide +kernel)) ggX2_gapUpper_X2_excessOf
set_option maxRecDepth 20000 in
theorem ggX2_gapUpper_X2_all : GoodIn wsX2_gapUpper wsX2_all := goodIn_r _ [12, 6, 18, 19, 20, 21, 22] (by decide +kernel) (by decide +kernel)
set_option maxRecDepth 20000 in
theorem gX2_gapUpper_X2_all : GoodIn wsX2_gapUpper (wsV RX2 38 RX2 yX2_all wsX2_all) := goodIn_app (goodIn_of _ (by decide +kernel)) ggX2_gapUpper_X2_all
set_option maxRecDepth 20000 in
theorem ggX2_gapUpper_X2_peopleOf : GoodIn wsX2_gapUpper wsX2_peopleOf := goodIn_r _ [16, 6, 17, 18, 19, 20, 21, 22] (by decide +kernel) (by decide +kernel)
set_option maxRecDepth 20000 in
theorem gX2_gapUpper_X2_peopleOf : GoodIn wsX2_gapUpper (wsV RX2 53 RX2 yX2_peopleOf wsX2_peopleOf) := goodIn_app (goodIn_of _ (by decide +kernel)) ggX2_gapUpper_X2_peopleOf
theorem dX2_gapUpper_0 : decode cX2_gapUpper 0 = .ok (.aload_n 0, 1) := by decide +kernel
theorem dX2_gapUpper_1 : decode cX2_gapUpper 1 = .ok (.iload_n 1, 1) := by decide +kernel
theorem dX2_gapUpper_2 : decode cX2_gapUpper 2 = .ok (.invokevirtual 56, 3) := by decide +kernel
theorem dX2_gapUpper_5 : decode cX2_gapUpper 5 = .ok (.aload_n 0, 1) := by decide +kernel
theorem dX2_gapUpper_6 : decode cX2_gapUpper 6 = .ok (.aload_n 0, 1) := by decide +kernel
theorem dX2_gapUpper_7 : decode cX2_gapUpper 7 = .ok (.invokevirtual 38, 3) := by decide +kernel
theorem dX2_gapUpper_10 : decode cX2_gapUpper 10 = .ok (.invokevirtual 53, 3) := by decide +kernel
theorem dX2_gapUpper_13 : decode cX2_gapUpper 13 = .ok (.imul, 1) := by decide +kernel
theorem dX2_gapUpper_14 : decode cX2_gapUpper 14 = .ok (.aload_n 0, 1) := by decide +kernel
theorem dX2_gapUpper_15 : decode cX2_gapUpper 15 = .ok (.aload_n 0, 1) := by decide +kernel
theorem dX2_gapUpper_16 : decode cX2_gapUpper 16 = .ok (.invokevirtual 38, 3) := by decide +kernel
theorem dX2_gapUpper_19 : decode cX2_gapUpper 19 = .ok (.invokevirtual 56, 3) := by decide +kernel
theorem dX2_gapUpper_22 : decode cX2_gapUpper 22 = .ok (.aload_n 0, 1) := by decide +kernel
theorem dX2_gapUpper_23 : decode cX2_gapUpper 23 = .ok (.iload_n 1, 1) := by decide +kernel
theorem dX2_gapUpper_24 : decode cX2_gapUpper 24 = .ok (.invokevirtual 53, 3) := by decide +kernel
theorem dX2_gapUpper_27 : decode cX2_gapUpper 27 = .ok (.imul, 1) := by decide +kernel
theorem dX2_gapUpper_28 : decode cX2_gapUpper 28 = .ok (.isub, 1) := by decide +kernel
theorem dX2_gapUpper_29 : decode cX2_gapUpper 29 = .ok (.ireturn, 1) := by decide +kernel
set_option maxRecDepth 20000 in
theorem ggX2_gapLower_X2_peopleOf : GoodIn wsX2_gapLower wsX2_peopleOf := goodIn_r _ [5, 6, 7, 12, 13, 14, 15, 16] (by decide +kernel) (by decide +kernel)
set_option maxRecDepth 20000 in
theorem gX2_gapLower_X2_peopleOf : GoodIn wsX2_gapLower (wsV RX2 53 RX2 yX2_peopleOf wsX2_peopleOf) := goodIn_app (goodIn_of _ (by decide +kernel)) ggX2_gapLower_X2_peopleOf
set_option maxRecDepth 20000 in
theorem ggX2_gapLower_X2_all : GoodIn wsX2_gapLower wsX2_all := goodIn_r _ [11, 6, 12, 13, 14, 15, 16] (by decide +kernel) (by decide +kernel)
set_option maxRecDepth 20000 in
theorem gX2_gapLower_X2_all : GoodIn wsX2_gapLower (wsV RX2 38 RX2 yX2_all wsX2_all) := goodIn_app (goodIn_of _ (by decide +kernel)) ggX2_gapLower_X2_all
theorem dX2_gapLower_0 : decode cX2_gapLower 0 = .ok (.aload_n 0, 1) := by decide +kernel
theorem dX2_gapLower_1 : decode cX2_gapLower 1 = .ok (.iload_n 1, 1) := by decide +kernel
theorem dX2_gapLower_2 : decode cX2_gapLower 2 = .ok (.invokevirtual 53, 3) := by decide +kernel
theorem dX2_gapLower_5 : decode cX2_gapLower 5 = .ok (.aload_n 0, 1) := by decide +kernel
theorem dX2_gapLower_6 : decode cX2_gapLower 6 = .ok (.aload_n 0, 1) := by decide +kernel
theorem dX2_gapLower_7 : decode cX2_gapLower 7 = .ok (.invokevirtual 38, 3) := by decide +kernel
theorem dX2_gapLower_10 : decode cX2_gapLower 10 = .ok (.invokevirtual 53, 3) := by decide +kernel
theorem dX2_gapLower_13 : decode cX2_gapLower 13 = .ok (.aload_n 0, 1) := by decide +kernel
theorem dX2_gapLower_14 : decode cX2_gapLower 14 = .ok (.iload_n 1, 1) := by decide +kernel
theorem dX2_gapLower_15 : decode cX2_gapLower 15 = .ok (.invokevirtual 53, 3) := by decide +kernel
theorem dX2_gapLower_18 : decode cX2_gapLower 18 = .ok (.isub, 1) := by decide +kernel
theorem dX2_gapLower_19 : decode cX2_gapLower 19 = .ok (.imul, 1) := by decide +kernel
theorem dX2_gapLower_20 : decode cX2_gapLower 20 = .ok (.ireturn, 1) := by decide +kernel
set_option maxRecDepth 20000 in
theorem ggX2_setsWithGapOf_J6_bitCount_0f7a4 : GoodIn wsX2_setsWithGapOf wsJ6_bitCount_0f7a4 := goodIn_r _ [4, 5, 6, 7] (by decide +kernel) (by decide +kernel)
set_option maxRecDepth 20000 in
theorem gX2_setsWithGapOf_J6_bitCount_0f7a4 : GoodIn wsX2_setsWithGapOf (va_wsS RX2 67 yJ6_bitCount_0f7a4 wsJ6_bitCount_0f7a4) := goodIn_app (goodIn_of _ (by decide +kernel)) ggX2_setsWithGapOf_J6_bitCount_0f7a4
set_option maxRecDepth 20000 in
theorem ggX2_setsWithGapOf_X2_gapUpper : GoodIn wsX2_setsWithGapOf wsX2_gapUpper := goodIn_r _ [12, 13, 14, 15, 11, 16, 17, 18, 19, 20, 21, 22, 23, 24, 25, 26, 27, 28, 33, 34, 35, 36, 37] (by decide +kernel) (by decide +kernel)
set_option maxRecDepth 20000 in
theorem gX2_setsWithGapOf_X2_gapUpper : GoodIn wsX2_setsWithGapOf (wsV RX2 72 RX2 yX2_gapUpper wsX2_gapUpper) := goodIn_app (goodIn_of _ (by decide +kernel)) ggX2_setsWithGapOf_X2_gapUpper
set_option maxRecDepth 20000 in
theorem ggX2_setsWithGapOf_X2_gapLower : GoodIn wsX2_setsWithGapOf wsX2_gapLower := goodIn_r _ [32, 24, 25, 26, 11, 27, 17, 28, 20, 21, 22, 23, 33, 34, 35, 36, 37] (by decide +kernel) (by decide +kernel)
set_option maxRecDepth 20000 in
theorem gX2_setsWithGapOf_X2_gapLower : GoodIn wsX2_setsWithGapOf (wsV RX2 75 RX2 yX2_gapLower wsX2_gapLower) := goodIn_app (goodIn_of _ (by decide +kernel)) ggX2_setsWithGapOf_X2_gapLower
set_option maxRecDepth 20000 in
theorem ggX2_setsWithGapOf_X2_all : GoodIn wsX2_setsWithGapOf wsX2_all := goodIn_r _ [23, 17, 33, 34, 35, 36, 37] (by decide +kernel) (by decide +kernel)
set_option maxRecDepth 20000 in
theorem gX2_setsWithGapOf_X2_all : GoodIn wsX2_setsWithGapOf (wsV RX2 38 RX2 yX2_all wsX2_all) := goodIn_app (goodIn_of _ (by decide +kernel)) ggX2_setsWithGapOf_X2_all
set_option maxRecDepth 20000 in
theorem ggX2_setsWithGapOf_X2_peopleOf : GoodIn wsX2_setsWithGapOf wsX2_peopleOf := goodIn_r _ [27, 17, 28, 33, 34, 35, 36, 37] (by decide +kernel) (by decide +kernel)
set_option maxRecDepth 20000 in
theorem gX2_setsWithGapOf_X2_peopleOf : GoodIn wsX2_setsWithGapOf (wsV RX2 53 RX2 yX2_peopleOf wsX2_peopleOf) := goodIn_app (goodIn_of _ (by decide +kernel)) ggX2_setsWithGapOf_X2_peopleOf
set_option maxRecDepth 20000 in
theorem ggX2_setsWithGapOf_X2_excessOf : GoodIn wsX2_setsWithGapOf wsX2_excessOf := goodIn_r _ [16, 17, 18, 19, 33, 34, 35, 36, 37] (by decide +kernel) (by decide +kernel)
set_option maxRecDepth 20000 in
theorem gX2_setsWithGapOf_X2_excessOf : GoodIn wsX2_setsWithGapOf (wsV RX2 56 RX2 yX2_excessOf wsX2_excessOf) := goodIn_app (goodIn_of _ (by decide +kernel)) ggX2_setsWithGapOf_X2_excessOf
theorem dX2_setsWithGapOf_0 : decode cX2_setsWithGapOf 0 = .ok (.iload_n 1, 1) := by decide +kernel
theorem dX2_setsWithGapOf_1 : decode cX2_setsWithGapOf 1 = .ok (.invokestatic 67, 3) := by decide +kernel
theorem dX2_setsWithGapOf_4 : decode cX2_setsWithGapOf 4 = .ok (.istore_n 2, 1) := by decide +kernel
theorem dX2_setsWithGapOf_5 : decode cX2_setsWithGapOf 5 = .ok (.aload_n 0, 1) := by decide +kernel
theorem dX2_setsWithGapOf_6 : decode cX2_setsWithGapOf 6 = .ok (.iload_n 1, 1) := by decide +kernel
theorem dX2_setsWithGapOf_7 : decode cX2_setsWithGapOf 7 = .ok (.invokevirtual 72, 3) := by decide +kernel
theorem dX2_setsWithGapOf_10 : decode cX2_setsWithGapOf 10 = .ok (.i2l, 1) := by decide +kernel
theorem dX2_setsWithGapOf_11 : decode cX2_setsWithGapOf 11 = .ok (.lstore_n 3, 1) := by decide +kernel
theorem dX2_setsWithGapOf_12 : decode cX2_setsWithGapOf 12 = .ok (.aload_n 0, 1) := by decide +kernel
theorem dX2_setsWithGapOf_13 : decode cX2_setsWithGapOf 13 = .ok (.iload_n 1, 1) := by decide +kernel
theorem dX2_setsWithGapOf_14 : decode cX2_setsWithGapOf 14 = .ok (.invokevirtual 75, 3) := by decide +kernel
theorem dX2_setsWithGapOf_17 : decode cX2_setsWithGapOf 17 = .ok (.i2l, 1) := by decide +kernel
theorem dX2_setsWithGapOf_18 : decode cX2_setsWithGapOf 18 = .ok (.lstore 5, 2) := by decide +kernel
theorem dX2_setsWithGapOf_20 : decode cX2_setsWithGapOf 20 = .ok (.aload_n 0, 1) := by decide +kernel
theorem dX2_setsWithGapOf_21 : decode cX2_setsWithGapOf 21 = .ok (.invokevirtual 38, 3) := by decide +kernel
theorem dX2_setsWithGapOf_24 : decode cX2_setsWithGapOf 24 = .ok (.istore 7, 2) := by decide +kernel
theorem dX2_setsWithGapOf_26 : decode cX2_setsWithGapOf 26 = .ok (.aload_n 0, 1) := by decide +kernel
theorem dX2_setsWithGapOf_27 : decode cX2_setsWithGapOf 27 = .ok (.iload 7, 2) := by decide +kernel
theorem dX2_setsWithGapOf_29 : decode cX2_setsWithGapOf 29 = .ok (.invokevirtual 53, 3) := by decide +kernel
theorem dX2_setsWithGapOf_32 : decode cX2_setsWithGapOf 32 = .ok (.istore 8, 2) := by decide +kernel
theorem dX2_setsWithGapOf_34 : decode cX2_setsWithGapOf 34 = .ok (.aload_n 0, 1) := by decide +kernel
theorem dX2_setsWithGapOf_35 : decode cX2_setsWithGapOf 35 = .ok (.iload 7, 2) := by decide +kernel
theorem dX2_setsWithGapOf_37 : decode cX2_setsWithGapOf 37 = .ok (.invokevirtual 56, 3) := by decide +kernel
theorem dX2_setsWithGapOf_40 : decode cX2_setsWithGapOf 40 = .ok (.istore 9, 2) := by decide +kernel
theorem dX2_setsWithGapOf_42 : decode cX2_setsWithGapOf 42 = .ok (.iconst 0, 1) := by decide +kernel
theorem dX2_setsWithGapOf_43 : decode cX2_setsWithGapOf 43 = .ok (.istore 10, 2) := by decide +kernel
theorem dX2_setsWithGapOf_45 : decode cX2_setsWithGapOf 45 = .ok (.iconst 0, 1) := by decide +kernel
theorem dX2_setsWithGapOf_46 : decode cX2_setsWithGapOf 46 = .ok (.istore 11, 2) := by decide +kernel
theorem dX2_setsWithGapOf_48 : decode cX2_setsWithGapOf 48 = .ok (.iload 11, 2) := by decide +kernel
theorem dX2_setsWithGapOf_50 : decode cX2_setsWithGapOf 50 = .ok (.iload 7, 2) := by decide +kernel
theorem dX2_setsWithGapOf_52 : decode cX2_setsWithGapOf 52 = .ok (.if_icmp .gt 78, 3) := by decide +kernel
theorem dX2_setsWithGapOf_55 : decode cX2_setsWithGapOf 55 = .ok (.iload 11, 2) := by decide +kernel
theorem dX2_setsWithGapOf_57 : decode cX2_setsWithGapOf 57 = .ok (.invokestatic 67, 3) := by decide +kernel
theorem dX2_setsWithGapOf_60 : decode cX2_setsWithGapOf 60 = .ok (.iload_n 2, 1) := by decide +kernel
theorem dX2_setsWithGapOf_61 : decode cX2_setsWithGapOf 61 = .ok (.if_icmp .ne 63, 3) := by decide +kernel
theorem dX2_setsWithGapOf_64 : decode cX2_setsWithGapOf 64 = .ok (.aload_n 0, 1) := by decide +kernel
theorem dX2_setsWithGapOf_65 : decode cX2_setsWithGapOf 65 = .ok (.iload 11, 2) := by decide +kernel
theorem dX2_setsWithGapOf_67 : decode cX2_setsWithGapOf 67 = .ok (.invokevirtual 53, 3) := by decide +kernel
theorem dX2_setsWithGapOf_70 : decode cX2_setsWithGapOf 70 = .ok (.istore 12, 2) := by decide +kernel
theorem dX2_setsWithGapOf_72 : decode cX2_setsWithGapOf 72 = .ok (.aload_n 0, 1) := by decide +kernel
theorem dX2_setsWithGapOf_73 : decode cX2_setsWithGapOf 73 = .ok (.iload 11, 2) := by decide +kernel
theorem dX2_setsWithGapOf_75 : decode cX2_setsWithGapOf 75 = .ok (.invokevirtual 56, 3) := by decide +kernel
theorem dX2_setsWithGapOf_78 : decode cX2_setsWithGapOf 78 = .ok (.iload 8, 2) := by decide +kernel
theorem dX2_setsWithGapOf_80 : decode cX2_setsWithGapOf 80 = .ok (.imul, 1) := by decide +kernel
theorem dX2_setsWithGapOf_81 : decode cX2_setsWithGapOf 81 = .ok (.iload 9, 2) := by decide +kernel
theorem dX2_setsWithGapOf_83 : decode cX2_setsWithGapOf 83 = .ok (.iload 12, 2) := by decide +kernel
theorem dX2_setsWithGapOf_85 : decode cX2_setsWithGapOf 85 = .ok (.imul, 1) := by decide +kernel
theorem dX2_setsWithGapOf_86 : decode cX2_setsWithGapOf 86 = .ok (.isub, 1) := by decide +kernel
theorem dX2_setsWithGapOf_87 : decode cX2_setsWithGapOf 87 = .ok (.istore 13, 2) := by decide +kernel
theorem dX2_setsWithGapOf_89 : decode cX2_setsWithGapOf 89 = .ok (.iload 12, 2) := by decide +kernel
theorem dX2_setsWithGapOf_91 : decode cX2_setsWithGapOf 91 = .ok (.iload 8, 2) := by decide +kernel
theorem dX2_setsWithGapOf_93 : decode cX2_setsWithGapOf 93 = .ok (.iload 12, 2) := by decide +kernel
theorem dX2_setsWithGapOf_95 : decode cX2_setsWithGapOf 95 = .ok (.isub, 1) := by decide +kernel
theorem dX2_setsWithGapOf_96 : decode cX2_setsWithGapOf 96 = .ok (.imul, 1) := by decide +kernel
theorem dX2_setsWithGapOf_97 : decode cX2_setsWithGapOf 97 = .ok (.istore 14, 2) := by decide +kernel
theorem dX2_setsWithGapOf_99 : decode cX2_setsWithGapOf 99 = .ok (.iload 10, 2) := by decide +kernel
theorem dX2_setsWithGapOf_101 : decode cX2_setsWithGapOf 101 = .ok (.iload 13, 2) := by decide +kernel
theorem dX2_setsWithGapOf_103 : decode cX2_setsWithGapOf 103 = .ok (.i2l, 1) := by decide +kernel
theorem dX2_setsWithGapOf_104 : decode cX2_setsWithGapOf 104 = .ok (.lload 5, 2) := by decide +kernel
theorem dX2_setsWithGapOf_106 : decode cX2_setsWithGapOf 106 = .ok (.lmul, 1) := by decide +kernel
theorem dX2_setsWithGapOf_107 : decode cX2_setsWithGapOf 107 = .ok (.lload_n 3, 1) := by decide +kernel
theorem dX2_setsWithGapOf_108 : decode cX2_setsWithGapOf 108 = .ok (.iload 14, 2) := by decide +kernel
theorem dX2_setsWithGapOf_110 : decode cX2_setsWithGapOf 110 = .ok (.i2l, 1) := by decide +kernel
theorem dX2_setsWithGapOf_111 : decode cX2_setsWithGapOf 111 = .ok (.lmul, 1) := by decide +kernel
theorem dX2_setsWithGapOf_112 : decode cX2_setsWithGapOf 112 = .ok (.lcmp, 1) := by decide +kernel
theorem dX2_setsWithGapOf_113 : decode cX2_setsWithGapOf 113 = .ok (.ifCond .lt 7, 3) := by decide +kernel
theorem dX2_setsWithGapOf_116 : decode cX2_setsWithGapOf 116 = .ok (.iconst 1, 1) := by decide +kernel
theorem dX2_setsWithGapOf_117 : decode cX2_setsWithGapOf 117 = .ok (.goto 4, 3) := by decide +kernel
theorem dX2_setsWithGapOf_120 : decode cX2_setsWithGapOf 120 = .ok (.iconst 0, 1) := by decide +kernel
theorem dX2_setsWithGapOf_121 : decode cX2_setsWithGapOf 121 = .ok (.iadd, 1) := by decide +kernel
theorem dX2_setsWithGapOf_122 : decode cX2_setsWithGapOf 122 = .ok (.istore 10, 2) := by decide +kernel
theorem dX2_setsWithGapOf_124 : decode cX2_setsWithGapOf 124 = .ok (.iinc 11 1, 3) := by decide +kernel
theorem dX2_setsWithGapOf_127 : decode cX2_setsWithGapOf 127 = .ok (.goto (-79), 3) := by decide +kernel
theorem dX2_setsWithGapOf_130 : decode cX2_setsWithGapOf 130 = .ok (.iload 10, 2) := by decide +kernel
theorem dX2_setsWithGapOf_132 : decode cX2_setsWithGapOf 132 = .ok (.ireturn, 1) := by decide +kernel
set_option maxRecDepth 20000 in
theorem ggX2_conditionsWithGapOf_X2_gapUpper : GoodIn wsX2_conditionsWithGapOf wsX2_gapUpper := goodIn_r _ [5, 6, 7, 8, 4, 9, 10, 11, 12, 13, 14, 15, 16, 17, 18, 19, 20, 21, 35, 36, 37, 38, 39] (by decide +kernel) (by decide +kernel)
set_option maxRecDepth 20000 in
theorem gX2_conditionsWithGapOf_X2_gapUpper : GoodIn wsX2_conditionsWithGapOf (wsV RX2 72 RX2 yX2_gapUpper wsX2_gapUpper) := goodIn_app (goodIn_of _ (by decide +kernel)) ggX2_conditionsWithGapOf_X2_gapUpper
set_option maxRecDepth 20000 in
theorem ggX2_conditionsWithGapOf_X2_gapLower : GoodIn wsX2_conditionsWithGapOf wsX2_gapLower := goodIn_r _ [25, 17, 18, 19, 4, 20, 10, 21, 13, 14, 15, 16, 35, 36, 37, 38, 39] (by decide +kernel) (by decide +kernel)
set_option maxRecDepth 20000 in
theorem gX2_conditionsWithGapOf_X2_gapLower : GoodIn wsX2_conditionsWithGapOf (wsV RX2 75 RX2 yX2_gapLower wsX2_gapLower) := goodIn_app (goodIn_of _ (by decide +kernel)) ggX2_conditionsWithGapOf_X2_gapLower
set_option maxRecDepth 20000 in
theorem ggX2_conditionsWithGapOf_X2_having : GoodIn wsX2_conditionsWithGapOf wsX2_having := goodIn_r _ [29, 10, 30, 35, 36, 37, 38, 39] (by decide +kernel) (by decide +kernel)
set_option maxRecDepth 20000 in
theorem gX2_conditionsWithGapOf_X2_having : GoodIn wsX2_conditionsWithGapOf (wsV RX2 34 RX2 yX2_having wsX2_having) := goodIn_app (goodIn_of _ (by decide +kernel)) ggX2_conditionsWithGapOf_X2_having
set_option maxRecDepth 20000 in
theorem ggX2_conditionsWithGapOf_X2_isParted : GoodIn wsX2_conditionsWithGapOf wsX2_isParted := goodIn_r _ [34, 26, 27, 28, 4, 29, 10, 30, 13, 14, 15, 16, 35, 36, 37, 38, 39] (by decide +kernel) (by decide +kernel)
set_option maxRecDepth 20000 in
theorem gX2_conditionsWithGapOf_X2_isParted : GoodIn wsX2_conditionsWithGapOf (wsV RX2 78 RX2 yX2_isParted wsX2_isParted) := goodIn_app (goodIn_of _ (by decide +kernel)) ggX2_conditionsWithGapOf_X2_isParted
theorem dX2_conditionsWithGapOf_0 : decode cX2_conditionsWithGapOf 0 = .ok (.aload_n 0, 1) := by decide +kernel
theorem dX2_conditionsWithGapOf_1 : decode cX2_conditionsWithGapOf 1 = .ok (.iload_n 1, 1) := by decide +kernel
theorem dX2_conditionsWithGapOf_2 : decode cX2_conditionsWithGapOf 2 = .ok (.invokevirtual 72, 3) := by decide +kernel
theorem dX2_conditionsWithGapOf_5 : decode cX2_conditionsWithGapOf 5 = .ok (.i2l, 1) := by decide +kernel
theorem dX2_conditionsWithGapOf_6 : decode cX2_conditionsWithGapOf 6 = .ok (.lstore_n 2, 1) := by decide +kernel
theorem dX2_conditionsWithGapOf_7 : decode cX2_conditionsWithGapOf 7 = .ok (.aload_n 0, 1) := by decide +kernel
theorem dX2_conditionsWithGapOf_8 : decode cX2_conditionsWithGapOf 8 = .ok (.iload_n 1, 1) := by decide +kernel
theorem dX2_conditionsWithGapOf_9 : decode cX2_conditionsWithGapOf 9 = .ok (.invokevirtual 75, 3) := by decide +kernel
theorem dX2_conditionsWithGapOf_12 : decode cX2_conditionsWithGapOf 12 = .ok (.i2l, 1) := by decide +kernel
theorem dX2_conditionsWithGapOf_13 : decode cX2_conditionsWithGapOf 13 = .ok (.lstore 4, 2) := by decide +kernel
theorem dX2_conditionsWithGapOf_15 : decode cX2_conditionsWithGapOf 15 = .ok (.iconst 0, 1) := by decide +kernel
theorem dX2_conditionsWithGapOf_16 : decode cX2_conditionsWithGapOf 16 = .ok (.istore 6, 2) := by decide +kernel
theorem dX2_conditionsWithGapOf_18 : decode cX2_conditionsWithGapOf 18 = .ok (.iconst 0, 1) := by decide +kernel
theorem dX2_conditionsWithGapOf_19 : decode cX2_conditionsWithGapOf 19 = .ok (.istore 7, 2) := by decide +kernel
theorem dX2_conditionsWithGapOf_21 : decode cX2_conditionsWithGapOf 21 = .ok (.iload 7, 2) := by decide +kernel
theorem dX2_conditionsWithGapOf_23 : decode cX2_conditionsWithGapOf 23 = .ok (.bipush 6, 2) := by decide +kernel
theorem dX2_conditionsWithGapOf_25 : decode cX2_conditionsWithGapOf 25 = .ok (.if_icmp .ge 52, 3) := by decide +kernel
theorem dX2_conditionsWithGapOf_28 : decode cX2_conditionsWithGapOf 28 = .ok (.aload_n 0, 1) := by decide +kernel
theorem dX2_conditionsWithGapOf_29 : decode cX2_conditionsWithGapOf 29 = .ok (.iload 7, 2) := by decide +kernel
theorem dX2_conditionsWithGapOf_31 : decode cX2_conditionsWithGapOf 31 = .ok (.invokevirtual 34, 3) := by decide +kernel
theorem dX2_conditionsWithGapOf_34 : decode cX2_conditionsWithGapOf 34 = .ok (.istore 8, 2) := by decide +kernel
theorem dX2_conditionsWithGapOf_36 : decode cX2_conditionsWithGapOf 36 = .ok (.aload_n 0, 1) := by decide +kernel
theorem dX2_conditionsWithGapOf_37 : decode cX2_conditionsWithGapOf 37 = .ok (.iload 7, 2) := by decide +kernel
theorem dX2_conditionsWithGapOf_39 : decode cX2_conditionsWithGapOf 39 = .ok (.invokevirtual 78, 3) := by decide +kernel
theorem dX2_conditionsWithGapOf_42 : decode cX2_conditionsWithGapOf 42 = .ok (.ifCond .eq 29, 3) := by decide +kernel
theorem dX2_conditionsWithGapOf_45 : decode cX2_conditionsWithGapOf 45 = .ok (.aload_n 0, 1) := by decide +kernel
theorem dX2_conditionsWithGapOf_46 : decode cX2_conditionsWithGapOf 46 = .ok (.iload 8, 2) := by decide +kernel
theorem dX2_conditionsWithGapOf_48 : decode cX2_conditionsWithGapOf 48 = .ok (.invokevirtual 72, 3) := by decide +kernel
theorem dX2_conditionsWithGapOf_51 : decode cX2_conditionsWithGapOf 51 = .ok (.i2l, 1) := by decide +kernel
theorem dX2_conditionsWithGapOf_52 : decode cX2_conditionsWithGapOf 52 = .ok (.lload 4, 2) := by decide +kernel
theorem dX2_conditionsWithGapOf_54 : decode cX2_conditionsWithGapOf 54 = .ok (.lmul, 1) := by decide +kernel
theorem dX2_conditionsWithGapOf_55 : decode cX2_conditionsWithGapOf 55 = .ok (.lload_n 2, 1) := by decide +kernel
theorem dX2_conditionsWithGapOf_56 : decode cX2_conditionsWithGapOf 56 = .ok (.aload_n 0, 1) := by decide +kernel
theorem dX2_conditionsWithGapOf_57 : decode cX2_conditionsWithGapOf 57 = .ok (.iload 8, 2) := by decide +kernel
theorem dX2_conditionsWithGapOf_59 : decode cX2_conditionsWithGapOf 59 = .ok (.invokevirtual 75, 3) := by decide +kernel
theorem dX2_conditionsWithGapOf_62 : decode cX2_conditionsWithGapOf 62 = .ok (.i2l, 1) := by decide +kernel
theorem dX2_conditionsWithGapOf_63 : decode cX2_conditionsWithGapOf 63 = .ok (.lmul, 1) := by decide +kernel
theorem dX2_conditionsWithGapOf_64 : decode cX2_conditionsWithGapOf 64 = .ok (.lcmp, 1) := by decide +kernel
theorem dX2_conditionsWithGapOf_65 : decode cX2_conditionsWithGapOf 65 = .ok (.ifCond .lt 6, 3) := by decide +kernel
theorem dX2_conditionsWithGapOf_68 : decode cX2_conditionsWithGapOf 68 = .ok (.iinc 6 1, 3) := by decide +kernel
theorem dX2_conditionsWithGapOf_71 : decode cX2_conditionsWithGapOf 71 = .ok (.iinc 7 1, 3) := by decide +kernel
theorem dX2_conditionsWithGapOf_74 : decode cX2_conditionsWithGapOf 74 = .ok (.goto (-53), 3) := by decide +kernel
theorem dX2_conditionsWithGapOf_77 : decode cX2_conditionsWithGapOf 77 = .ok (.iload 6, 2) := by decide +kernel
theorem dX2_conditionsWithGapOf_79 : decode cX2_conditionsWithGapOf 79 = .ok (.ireturn, 1) := by decide +kernel
theorem dX3_init_0 : decode cX3_init 0 = .ok (.aload_n 0, 1) := by decide +kernel
theorem dX3_init_1 : decode cX3_init 1 = .ok (.invokespecial 3, 3) := by decide +kernel
theorem dX3_init_4 : decode cX3_init 4 = .ok (.aload_n 0, 1) := by decide +kernel
theorem dX3_init_5 : decode cX3_init 5 = .ok (.bipush 6, 2) := by decide +kernel
theorem dX3_init_7 : decode cX3_init 7 = .ok (.newarray .int, 2) := by decide +kernel
theorem dX3_init_9 : decode cX3_init 9 = .ok (.putfield 11, 3) := by decide +kernel
theorem dX3_init_12 : decode cX3_init 12 = .ok (.aload_n 0, 1) := by decide +kernel
theorem dX3_init_13 : decode cX3_init 13 = .ok (.bipush 6, 2) := by decide +kernel
theorem dX3_init_15 : decode cX3_init 15 = .ok (.newarray .int, 2) := by decide +kernel
theorem dX3_init_17 : decode cX3_init 17 = .ok (.putfield 15, 3) := by decide +kernel
theorem dX3_init_20 : decode cX3_init 20 = .ok (.aload_n 0, 1) := by decide +kernel
theorem dX3_init_21 : decode cX3_init 21 = .ok (.bipush 6, 2) := by decide +kernel
theorem dX3_init_23 : decode cX3_init 23 = .ok (.newarray .int, 2) := by decide +kernel
theorem dX3_init_25 : decode cX3_init 25 = .ok (.putfield 18, 3) := by decide +kernel
theorem dX3_init_28 : decode cX3_init 28 = .ok (.aload_n 0, 1) := by decide +kernel
theorem dX3_init_29 : decode cX3_init 29 = .ok (.bipush 6, 2) := by decide +kernel
theorem dX3_init_31 : decode cX3_init 31 = .ok (.newarray .int, 2) := by decide +kernel
theorem dX3_init_33 : decode cX3_init 33 = .ok (.putfield 21, 3) := by decide +kernel
theorem dX3_init_36 : decode cX3_init 36 = .ok (.aload_n 0, 1) := by decide +kernel
theorem dX3_init_37 : decode cX3_init 37 = .ok (.iconst 0, 1) := by decide +kernel
theorem dX3_init_38 : decode cX3_init 38 = .ok (.putfield 24, 3) := by decide +kernel
theorem dX3_init_41 : decode cX3_init 41 = .ok (.return_, 1) := by decide +kernel
theorem dX3_has_0 : decode cX3_has 0 = .ok (.iload_n 1, 1) := by decide +kernel
theorem dX3_has_1 : decode cX3_has 1 = .ok (.ifCond .lt 15, 3) := by decide +kernel
theorem dX3_has_4 : decode cX3_has 4 = .ok (.iload_n 1, 1) := by decide +kernel
theorem dX3_has_5 : decode cX3_has 5 = .ok (.aload_n 0, 1) := by decide +kernel
theorem dX3_has_6 : decode cX3_has 6 = .ok (.getfield 24, 3) := by decide +kernel
theorem dX3_has_9 : decode cX3_has 9 = .ok (.if_icmp .ge 7, 3) := by decide +kernel
theorem dX3_has_12 : decode cX3_has 12 = .ok (.iconst 1, 1) := by decide +kernel
theorem dX3_has_13 : decode cX3_has 13 = .ok (.goto 4, 3) := by decide +kernel
theorem dX3_has_16 : decode cX3_has 16 = .ok (.iconst 0, 1) := by decide +kernel
theorem dX3_has_17 : decode cX3_has 17 = .ok (.ireturn, 1) := by decide +kernel
set_option maxRecDepth 20000 in
theorem ggX3_take_X3_takeTenths : GoodIn wsX3_take wsX3_takeTenths := goodIn_r _ [6, 7, 1, 8, 9, 10, 19, 20, 21, 22, 23] (by decide +kernel) (by decide +kernel)
set_option maxRecDepth 20000 in
theorem gX3_take_X3_takeTenths : GoodIn wsX3_take (wsV RX3 30 RX3 yX3_takeTenths wsX3_takeTenths) := goodIn_app (goodIn_of _ (by decide +kernel)) ggX3_take_X3_takeTenths
set_option maxRecDepth 20000 in
theorem ggX3_take_X3_takeConditions : GoodIn wsX3_take wsX3_takeConditions := goodIn_r _ [14, 10, 1, 19, 20, 21, 22, 23] (by decide +kernel) (by decide +kernel)
set_option maxRecDepth 20000 in
theorem gX3_take_X3_takeConditions : GoodIn wsX3_take (wsV RX3 34 RX3 yX3_takeConditions wsX3_takeConditions) := goodIn_app (goodIn_of _ (by decide +kernel)) ggX3_take_X3_takeConditions
set_option maxRecDepth 20000 in
theorem ggX3_take_X3_takeEnd : GoodIn wsX3_take wsX3_takeEnd := goodIn_r _ [18, 1, 19, 20, 21, 22, 23] (by decide +kernel) (by decide +kernel)
set_option maxRecDepth 20000 in
theorem gX3_take_X3_takeEnd : GoodIn wsX3_take (wsV RX3 38 RX3 yX3_takeEnd wsX3_takeEnd) := goodIn_app (goodIn_of _ (by decide +kernel)) ggX3_take_X3_takeEnd
theorem dX3_take_0 : decode cX3_take 0 = .ok (.aload_n 0, 1) := by decide +kernel
theorem dX3_take_1 : decode cX3_take 1 = .ok (.getfield 24, 3) := by decide +kernel
theorem dX3_take_4 : decode cX3_take 4 = .ok (.bipush 6, 2) := by decide +kernel
theorem dX3_take_6 : decode cX3_take 6 = .ok (.if_icmp .lt 5, 3) := by decide +kernel
theorem dX3_take_9 : decode cX3_take 9 = .ok (.iconst (-1), 1) := by decide +kernel
theorem dX3_take_10 : decode cX3_take 10 = .ok (.ireturn, 1) := by decide +kernel
theorem dX3_take_11 : decode cX3_take 11 = .ok (.iload_n 1, 1) := by decide +kernel
theorem dX3_take_12 : decode cX3_take 12 = .ok (.tableswitch 121 0 6 #[44, 55, 55, 106, 77, 93, 55], 44) := by decide +kernel
theorem dX3_take_56 : decode cX3_take 56 = .ok (.iload_n 2, 1) := by decide +kernel
theorem dX3_take_57 : decode cX3_take 57 = .ok (.iconst 4, 1) := by decide +kernel
theorem dX3_take_58 : decode cX3_take 58 = .ok (.if_icmp .ne 7, 3) := by decide +kernel
theorem dX3_take_61 : decode cX3_take 61 = .ok (.iconst 1, 1) := by decide +kernel
theorem dX3_take_62 : decode cX3_take 62 = .ok (.goto 4, 3) := by decide +kernel
theorem dX3_take_65 : decode cX3_take 65 = .ok (.iconst (-1), 1) := by decide +kernel
theorem dX3_take_66 : decode cX3_take 66 = .ok (.ireturn, 1) := by decide +kernel
theorem dX3_take_67 : decode cX3_take 67 = .ok (.iload_n 2, 1) := by decide +kernel
theorem dX3_take_68 : decode cX3_take 68 = .ok (.iconst 3, 1) := by decide +kernel
theorem dX3_take_69 : decode cX3_take 69 = .ok (.if_icmp .ne 18, 3) := by decide +kernel
theorem dX3_take_72 : decode cX3_take 72 = .ok (.iload_n 3, 1) := by decide +kernel
theorem dX3_take_73 : decode cX3_take 73 = .ok (.bipush 10, 2) := by decide +kernel
theorem dX3_take_75 : decode cX3_take 75 = .ok (.if_icmp .gt 12, 3) := by decide +kernel
theorem dX3_take_78 : decode cX3_take 78 = .ok (.aload_n 0, 1) := by decide +kernel
theorem dX3_take_79 : decode cX3_take 79 = .ok (.iload_n 1, 1) := by decide +kernel
theorem dX3_take_80 : decode cX3_take 80 = .ok (.iload_n 3, 1) := by decide +kernel
theorem dX3_take_81 : decode cX3_take 81 = .ok (.invokevirtual 30, 3) := by decide +kernel
theorem dX3_take_84 : decode cX3_take 84 = .ok (.goto 4, 3) := by decide +kernel
theorem dX3_take_87 : decode cX3_take 87 = .ok (.iconst (-1), 1) := by decide +kernel
theorem dX3_take_88 : decode cX3_take 88 = .ok (.ireturn, 1) := by decide +kernel
theorem dX3_take_89 : decode cX3_take 89 = .ok (.iload_n 2, 1) := by decide +kernel
theorem dX3_take_90 : decode cX3_take 90 = .ok (.bipush 7, 2) := by decide +kernel
theorem dX3_take_92 : decode cX3_take 92 = .ok (.if_icmp .ne 11, 3) := by decide +kernel
theorem dX3_take_95 : decode cX3_take 95 = .ok (.aload_n 0, 1) := by decide +kernel
theorem dX3_take_96 : decode cX3_take 96 = .ok (.iload_n 3, 1) := by decide +kernel
theorem dX3_take_97 : decode cX3_take 97 = .ok (.invokevirtual 34, 3) := by decide +kernel
theorem dX3_take_100 : decode cX3_take 100 = .ok (.goto 4, 3) := by decide +kernel
theorem dX3_take_103 : decode cX3_take 103 = .ok (.iconst (-1), 1) := by decide +kernel
theorem dX3_take_104 : decode cX3_take 104 = .ok (.ireturn, 1) := by decide +kernel
theorem dX3_take_105 : decode cX3_take 105 = .ok (.iload_n 2, 1) := by decide +kernel
theorem dX3_take_106 : decode cX3_take 106 = .ok (.bipush 6, 2) := by decide +kernel
theorem dX3_take_108 : decode cX3_take 108 = .ok (.if_icmp .ne 8, 3) := by decide +kernel
theorem dX3_take_111 : decode cX3_take 111 = .ok (.bipush 6, 2) := by decide +kernel
theorem dX3_take_113 : decode cX3_take 113 = .ok (.goto 4, 3) := by decide +kernel
theorem dX3_take_116 : decode cX3_take 116 = .ok (.iconst (-1), 1) := by decide +kernel
theorem dX3_take_117 : decode cX3_take 117 = .ok (.ireturn, 1) := by decide +kernel
theorem dX3_take_118 : decode cX3_take 118 = .ok (.iload_n 2, 1) := by decide +kernel
theorem dX3_take_119 : decode cX3_take 119 = .ok (.iconst 5, 1) := by decide +kernel
theorem dX3_take_120 : decode cX3_take 120 = .ok (.if_icmp .ne 7, 3) := by decide +kernel
theorem dX3_take_123 : decode cX3_take 123 = .ok (.iconst 4, 1) := by decide +kernel
theorem dX3_take_124 : decode cX3_take 124 = .ok (.goto 8, 3) := by decide +kernel
theorem dX3_take_127 : decode cX3_take 127 = .ok (.aload_n 0, 1) := by decide +kernel
theorem dX3_take_128 : decode cX3_take 128 = .ok (.iload_n 2, 1) := by decide +kernel
theorem dX3_take_129 : decode cX3_take 129 = .ok (.invokevirtual 38, 3) := by decide +kernel
theorem dX3_take_132 : decode cX3_take 132 = .ok (.ireturn, 1) := by decide +kernel
theorem dX3_take_133 : decode cX3_take 133 = .ok (.aload_n 0, 1) := by decide +kernel
theorem dX3_take_134 : decode cX3_take 134 = .ok (.iload_n 2, 1) := by decide +kernel
theorem dX3_take_135 : decode cX3_take 135 = .ok (.invokevirtual 38, 3) := by decide +kernel
theorem dX3_take_138 : decode cX3_take 138 = .ok (.ireturn, 1) := by decide +kernel
theorem dX3_takeTenths_0 : decode cX3_takeTenths 0 = .ok (.iload_n 1, 1) := by decide +kernel
theorem dX3_takeTenths_1 : decode cX3_takeTenths 1 = .ok (.iconst 2, 1) := by decide +kernel
theorem dX3_takeTenths_2 : decode cX3_takeTenths 2 = .ok (.if_icmp .ne 15, 3) := by decide +kernel
theorem dX3_takeTenths_5 : decode cX3_takeTenths 5 = .ok (.aload_n 0, 1) := by decide +kernel
theorem dX3_takeTenths_6 : decode cX3_takeTenths 6 = .ok (.getfield 15, 3) := by decide +kernel
theorem dX3_takeTenths_9 : decode cX3_takeTenths 9 = .ok (.aload_n 0, 1) := by decide +kernel
theorem dX3_takeTenths_10 : decode cX3_takeTenths 10 = .ok (.getfield 24, 3) := by decide +kernel
theorem dX3_takeTenths_13 : decode cX3_takeTenths 13 = .ok (.iload_n 2, 1) := by decide +kernel
theorem dX3_takeTenths_14 : decode cX3_takeTenths 14 = .ok (.iastore, 1) := by decide +kernel
theorem dX3_takeTenths_15 : decode cX3_takeTenths 15 = .ok (.iconst 3, 1) := by decide +kernel
theorem dX3_takeTenths_16 : decode cX3_takeTenths 16 = .ok (.ireturn, 1) := by decide +kernel
theorem dX3_takeTenths_17 : decode cX3_takeTenths 17 = .ok (.iload_n 1, 1) := by decide +kernel
theorem dX3_takeTenths_18 : decode cX3_takeTenths 18 = .ok (.bipush 6, 2) := by decide +kernel
theorem dX3_takeTenths_20 : decode cX3_takeTenths 20 = .ok (.if_icmp .ne 16, 3) := by decide +kernel
theorem dX3_takeTenths_23 : decode cX3_takeTenths 23 = .ok (.aload_n 0, 1) := by decide +kernel
theorem dX3_takeTenths_24 : decode cX3_takeTenths 24 = .ok (.getfield 21, 3) := by decide +kernel
theorem dX3_takeTenths_27 : decode cX3_takeTenths 27 = .ok (.aload_n 0, 1) := by decide +kernel
theorem dX3_takeTenths_28 : decode cX3_takeTenths 28 = .ok (.getfield 24, 3) := by decide +kernel
theorem dX3_takeTenths_31 : decode cX3_takeTenths 31 = .ok (.iload_n 2, 1) := by decide +kernel
theorem dX3_takeTenths_32 : decode cX3_takeTenths 32 = .ok (.iastore, 1) := by decide +kernel
theorem dX3_takeTenths_33 : decode cX3_takeTenths 33 = .ok (.bipush 7, 2) := by decide +kernel
theorem dX3_takeTenths_35 : decode cX3_takeTenths 35 = .ok (.ireturn, 1) := by decide +kernel
theorem dX3_takeTenths_36 : decode cX3_takeTenths 36 = .ok (.aload_n 0, 1) := by decide +kernel
theorem dX3_takeTenths_37 : decode cX3_takeTenths 37 = .ok (.getfield 11, 3) := by decide +kernel
theorem dX3_takeTenths_40 : decode cX3_takeTenths 40 = .ok (.aload_n 0, 1) := by decide +kernel
theorem dX3_takeTenths_41 : decode cX3_takeTenths 41 = .ok (.getfield 24, 3) := by decide +kernel
theorem dX3_takeTenths_44 : decode cX3_takeTenths 44 = .ok (.iload_n 2, 1) := by decide +kernel
theorem dX3_takeTenths_45 : decode cX3_takeTenths 45 = .ok (.iastore, 1) := by decide +kernel
theorem dX3_takeTenths_46 : decode cX3_takeTenths 46 = .ok (.aload_n 0, 1) := by decide +kernel
theorem dX3_takeTenths_47 : decode cX3_takeTenths 47 = .ok (.getfield 18, 3) := by decide +kernel
theorem dX3_takeTenths_50 : decode cX3_takeTenths 50 = .ok (.aload_n 0, 1) := by decide +kernel
theorem dX3_takeTenths_51 : decode cX3_takeTenths 51 = .ok (.getfield 24, 3) := by decide +kernel
theorem dX3_takeTenths_54 : decode cX3_takeTenths 54 = .ok (.iconst 0, 1) := by decide +kernel
theorem dX3_takeTenths_55 : decode cX3_takeTenths 55 = .ok (.iastore, 1) := by decide +kernel
theorem dX3_takeTenths_56 : decode cX3_takeTenths 56 = .ok (.iconst 2, 1) := by decide +kernel
theorem dX3_takeTenths_57 : decode cX3_takeTenths 57 = .ok (.ireturn, 1) := by decide +kernel
theorem dX3_takeConditions_0 : decode cX3_takeConditions 0 = .ok (.aload_n 0, 1) := by decide +kernel
theorem dX3_takeConditions_1 : decode cX3_takeConditions 1 = .ok (.getfield 18, 3) := by decide +kernel
theorem dX3_takeConditions_4 : decode cX3_takeConditions 4 = .ok (.aload_n 0, 1) := by decide +kernel
theorem dX3_takeConditions_5 : decode cX3_takeConditions 5 = .ok (.getfield 24, 3) := by decide +kernel
theorem dX3_takeConditions_8 : decode cX3_takeConditions 8 = .ok (.iload_n 1, 1) := by decide +kernel
theorem dX3_takeConditions_9 : decode cX3_takeConditions 9 = .ok (.iastore, 1) := by decide +kernel
theorem dX3_takeConditions_10 : decode cX3_takeConditions 10 = .ok (.iconst 5, 1) := by decide +kernel
theorem dX3_takeConditions_11 : decode cX3_takeConditions 11 = .ok (.ireturn, 1) := by decide +kernel
theorem dX3_takeEnd_0 : decode cX3_takeEnd 0 = .ok (.iload_n 1, 1) := by decide +kernel
theorem dX3_takeEnd_1 : decode cX3_takeEnd 1 = .ok (.iconst 2, 1) := by decide +kernel
theorem dX3_takeEnd_2 : decode cX3_takeEnd 2 = .ok (.if_icmp .eq 5, 3) := by decide +kernel
theorem dX3_takeEnd_5 : decode cX3_takeEnd 5 = .ok (.iconst (-1), 1) := by decide +kernel
theorem dX3_takeEnd_6 : decode cX3_takeEnd 6 = .ok (.ireturn, 1) := by decide +kernel
theorem dX3_takeEnd_7 : decode cX3_takeEnd 7 = .ok (.aload_n 0, 1) := by decide +kernel
theorem dX3_takeEnd_8 : decode cX3_takeEnd 8 = .ok (.dup, 1) := by decide +kernel
theorem dX3_takeEnd_9 : decode cX3_takeEnd 9 = .ok (.getfield 24, 3) := by decide +kernel
theorem dX3_takeEnd_12 : decode cX3_takeEnd 12 = .ok (.iconst 1, 1) := by decide +kernel
theorem dX3_takeEnd_13 : decode cX3_takeEnd 13 = .ok (.iadd, 1) := by decide +kernel
theorem dX3_takeEnd_14 : decode cX3_takeEnd 14 = .ok (.putfield 24, 3) := by decide +kernel
theorem dX3_takeEnd_17 : decode cX3_takeEnd 17 = .ok (.iconst 0, 1) := by decide +kernel
theorem dX3_takeEnd_18 : decode cX3_takeEnd 18 = .ok (.ireturn, 1) := by decide +kernel
theorem dX3_tenthsWith_0 : decode cX3_tenthsWith 0 = .ok (.iload_n 2, 1) := by decide +kernel
theorem dX3_tenthsWith_1 : decode cX3_tenthsWith 1 = .ok (.aload_n 0, 1) := by decide +kernel
theorem dX3_tenthsWith_2 : decode cX3_tenthsWith 2 = .ok (.getfield 18, 3) := by decide +kernel
theorem dX3_tenthsWith_5 : decode cX3_tenthsWith 5 = .ok (.iload_n 1, 1) := by decide +kernel
theorem dX3_tenthsWith_6 : decode cX3_tenthsWith 6 = .ok (.iaload, 1) := by decide +kernel
theorem dX3_tenthsWith_7 : decode cX3_tenthsWith 7 = .ok (.iand, 1) := by decide +kernel
theorem dX3_tenthsWith_8 : decode cX3_tenthsWith 8 = .ok (.aload_n 0, 1) := by decide +kernel
theorem dX3_tenthsWith_9 : decode cX3_tenthsWith 9 = .ok (.getfield 18, 3) := by decide +kernel
theorem dX3_tenthsWith_12 : decode cX3_tenthsWith 12 = .ok (.iload_n 1, 1) := by decide +kernel
theorem dX3_tenthsWith_13 : decode cX3_tenthsWith 13 = .ok (.iaload, 1) := by decide +kernel
theorem dX3_tenthsWith_14 : decode cX3_tenthsWith 14 = .ok (.if_icmp .ne 12, 3) := by decide +kernel
theorem dX3_tenthsWith_17 : decode cX3_tenthsWith 17 = .ok (.aload_n 0, 1) := by decide +kernel
theorem dX3_tenthsWith_18 : decode cX3_tenthsWith 18 = .ok (.getfield 11, 3) := by decide +kernel
theorem dX3_tenthsWith_21 : decode cX3_tenthsWith 21 = .ok (.iload_n 1, 1) := by decide +kernel
theorem dX3_tenthsWith_22 : decode cX3_tenthsWith 22 = .ok (.iaload, 1) := by decide +kernel
theorem dX3_tenthsWith_23 : decode cX3_tenthsWith 23 = .ok (.goto 9, 3) := by decide +kernel
theorem dX3_tenthsWith_26 : decode cX3_tenthsWith 26 = .ok (.aload_n 0, 1) := by decide +kernel
theorem dX3_tenthsWith_27 : decode cX3_tenthsWith 27 = .ok (.getfield 21, 3) := by decide +kernel
theorem dX3_tenthsWith_30 : decode cX3_tenthsWith 30 = .ok (.iload_n 1, 1) := by decide +kernel
theorem dX3_tenthsWith_31 : decode cX3_tenthsWith 31 = .ok (.iaload, 1) := by decide +kernel
theorem dX3_tenthsWith_32 : decode cX3_tenthsWith 32 = .ok (.ireturn, 1) := by decide +kernel
set_option maxRecDepth 20000 in
theorem ggX3_misfitOf_X3_tenthsWith : GoodIn wsX3_misfitOf wsX3_tenthsWith := goodIn_r _ [15, 16, 17, 18, 24, 25, 26, 27, 28] (by decide +kernel) (by decide +kernel)
set_option maxRecDepth 20000 in
theorem gX3_misfitOf_X3_tenthsWith : GoodIn wsX3_misfitOf (wsV RX3 51 RX3 yX3_tenthsWith wsX3_tenthsWith) := goodIn_app (goodIn_of _ (by decide +kernel)) ggX3_misfitOf_X3_tenthsWith
theorem dX3_misfitOf_0 : decode cX3_misfitOf 0 = .ok (.iconst 0, 1) := by decide +kernel
theorem dX3_misfitOf_1 : decode cX3_misfitOf 1 = .ok (.istore_n 3, 1) := by decide +kernel
theorem dX3_misfitOf_2 : decode cX3_misfitOf 2 = .ok (.iconst 0, 1) := by decide +kernel
theorem dX3_misfitOf_3 : decode cX3_misfitOf 3 = .ok (.istore 4, 2) := by decide +kernel
theorem dX3_misfitOf_5 : decode cX3_misfitOf 5 = .ok (.iload 4, 2) := by decide +kernel
theorem dX3_misfitOf_7 : decode cX3_misfitOf 7 = .ok (.aload_n 2, 1) := by decide +kernel
theorem dX3_misfitOf_8 : decode cX3_misfitOf 8 = .ok (.getfield 41, 3) := by decide +kernel
theorem dX3_misfitOf_11 : decode cX3_misfitOf 11 = .ok (.if_icmp .ge 76, 3) := by decide +kernel
theorem dX3_misfitOf_14 : decode cX3_misfitOf 14 = .ok (.aload_n 2, 1) := by decide +kernel
theorem dX3_misfitOf_15 : decode cX3_misfitOf 15 = .ok (.getfield 44, 3) := by decide +kernel
theorem dX3_misfitOf_18 : decode cX3_misfitOf 18 = .ok (.iload 4, 2) := by decide +kernel
theorem dX3_misfitOf_20 : decode cX3_misfitOf 20 = .ok (.iaload, 1) := by decide +kernel
theorem dX3_misfitOf_21 : decode cX3_misfitOf 21 = .ok (.istore 5, 2) := by decide +kernel
theorem dX3_misfitOf_23 : decode cX3_misfitOf 23 = .ok (.iload_n 3, 1) := by decide +kernel
theorem dX3_misfitOf_24 : decode cX3_misfitOf 24 = .ok (.bipush 10, 2) := by decide +kernel
theorem dX3_misfitOf_26 : decode cX3_misfitOf 26 = .ok (.aload_n 2, 1) := by decide +kernel
theorem dX3_misfitOf_27 : decode cX3_misfitOf 27 = .ok (.getfield 47, 3) := by decide +kernel
theorem dX3_misfitOf_30 : decode cX3_misfitOf 30 = .ok (.iload 4, 2) := by decide +kernel
theorem dX3_misfitOf_32 : decode cX3_misfitOf 32 = .ok (.iaload, 1) := by decide +kernel
theorem dX3_misfitOf_33 : decode cX3_misfitOf 33 = .ok (.imul, 1) := by decide +kernel
theorem dX3_misfitOf_34 : decode cX3_misfitOf 34 = .ok (.aload_n 0, 1) := by decide +kernel
theorem dX3_misfitOf_35 : decode cX3_misfitOf 35 = .ok (.iload_n 1, 1) := by decide +kernel
theorem dX3_misfitOf_36 : decode cX3_misfitOf 36 = .ok (.aload_n 2, 1) := by decide +kernel
theorem dX3_misfitOf_37 : decode cX3_misfitOf 37 = .ok (.getfield 50, 3) := by decide +kernel
theorem dX3_misfitOf_40 : decode cX3_misfitOf 40 = .ok (.iload 4, 2) := by decide +kernel
theorem dX3_misfitOf_42 : decode cX3_misfitOf 42 = .ok (.iaload, 1) := by decide +kernel
theorem dX3_misfitOf_43 : decode cX3_misfitOf 43 = .ok (.invokevirtual 51, 3) := by decide +kernel
theorem dX3_misfitOf_46 : decode cX3_misfitOf 46 = .ok (.iload 5, 2) := by decide +kernel
theorem dX3_misfitOf_48 : decode cX3_misfitOf 48 = .ok (.imul, 1) := by decide +kernel
theorem dX3_misfitOf_49 : decode cX3_misfitOf 49 = .ok (.isub, 1) := by decide +kernel
theorem dX3_misfitOf_50 : decode cX3_misfitOf 50 = .ok (.invokestatic 54, 3) := by decide +kernel
theorem dX3_misfitOf_53 : decode cX3_misfitOf 53 = .ok (.iadd, 1) := by decide +kernel
theorem dX3_misfitOf_54 : decode cX3_misfitOf 54 = .ok (.istore_n 3, 1) := by decide +kernel
theorem dX3_misfitOf_55 : decode cX3_misfitOf 55 = .ok (.iload_n 3, 1) := by decide +kernel
theorem dX3_misfitOf_56 : decode cX3_misfitOf 56 = .ok (.bipush 10, 2) := by decide +kernel
theorem dX3_misfitOf_58 : decode cX3_misfitOf 58 = .ok (.aload_n 2, 1) := by decide +kernel
theorem dX3_misfitOf_59 : decode cX3_misfitOf 59 = .ok (.getfield 59, 3) := by decide +kernel
theorem dX3_misfitOf_62 : decode cX3_misfitOf 62 = .ok (.iload 4, 2) := by decide +kernel
theorem dX3_misfitOf_64 : decode cX3_misfitOf 64 = .ok (.iaload, 1) := by decide +kernel
theorem dX3_misfitOf_65 : decode cX3_misfitOf 65 = .ok (.imul, 1) := by decide +kernel
theorem dX3_misfitOf_66 : decode cX3_misfitOf 66 = .ok (.aload_n 0, 1) := by decide +kernel
theorem dX3_misfitOf_67 : decode cX3_misfitOf 67 = .ok (.getfield 15, 3) := by decide +kernel
theorem dX3_misfitOf_70 : decode cX3_misfitOf 70 = .ok (.iload_n 1, 1) := by decide +kernel
theorem dX3_misfitOf_71 : decode cX3_misfitOf 71 = .ok (.iaload, 1) := by decide +kernel
theorem dX3_misfitOf_72 : decode cX3_misfitOf 72 = .ok (.iload 5, 2) := by decide +kernel
theorem dX3_misfitOf_74 : decode cX3_misfitOf 74 = .ok (.imul, 1) := by decide +kernel
theorem dX3_misfitOf_75 : decode cX3_misfitOf 75 = .ok (.isub, 1) := by decide +kernel
theorem dX3_misfitOf_76 : decode cX3_misfitOf 76 = .ok (.invokestatic 54, 3) := by decide +kernel
theorem dX3_misfitOf_79 : decode cX3_misfitOf 79 = .ok (.iadd, 1) := by decide +kernel
theorem dX3_misfitOf_80 : decode cX3_misfitOf 80 = .ok (.istore_n 3, 1) := by decide +kernel
theorem dX3_misfitOf_81 : decode cX3_misfitOf 81 = .ok (.iinc 4 1, 3) := by decide +kernel
theorem dX3_misfitOf_84 : decode cX3_misfitOf 84 = .ok (.goto (-79), 3) := by decide +kernel
theorem dX3_misfitOf_87 : decode cX3_misfitOf 87 = .ok (.iload_n 3, 1) := by decide +kernel
theorem dX3_misfitOf_88 : decode cX3_misfitOf 88 = .ok (.ireturn, 1) := by decide +kernel
set_option maxRecDepth 20000 in
theorem ggX3_closestTo_X3_misfitOf : GoodIn wsX3_closestTo wsX3_misfitOf := goodIn_r _ [6, 7, 8, 9, 10, 11, 12, 13, 14, 15, 16, 17, 18, 19, 5, 20, 21, 22, 23, 29, 30, 31, 32, 33, 24, 25, 26, 27, 28] (by decide +kernel) (by decide +kernel)
set_option maxRecDepth 20000 in
theorem gX3_closestTo_X3_misfitOf : GoodIn wsX3_closestTo (wsV RX3 62 RX3 yX3_misfitOf wsX3_misfitOf) := goodIn_app (goodIn_of _ (by decide +kernel)) ggX3_closestTo_X3_misfitOf
theorem dX3_closestTo_0 : decode cX3_closestTo 0 = .ok (.iconst 0, 1) := by decide +kernel
theorem dX3_closestTo_1 : decode cX3_closestTo 1 = .ok (.istore_n 2, 1) := by decide +kernel
theorem dX3_closestTo_2 : decode cX3_closestTo 2 = .ok (.aload_n 0, 1) := by decide +kernel
theorem dX3_closestTo_3 : decode cX3_closestTo 3 = .ok (.iconst 0, 1) := by decide +kernel
theorem dX3_closestTo_4 : decode cX3_closestTo 4 = .ok (.aload_n 1, 1) := by decide +kernel
theorem dX3_closestTo_5 : decode cX3_closestTo 5 = .ok (.invokevirtual 62, 3) := by decide +kernel
theorem dX3_closestTo_8 : decode cX3_closestTo 8 = .ok (.istore_n 3, 1) := by decide +kernel
theorem dX3_closestTo_9 : decode cX3_closestTo 9 = .ok (.iconst 1, 1) := by decide +kernel
theorem dX3_closestTo_10 : decode cX3_closestTo 10 = .ok (.istore 4, 2) := by decide +kernel
theorem dX3_closestTo_12 : decode cX3_closestTo 12 = .ok (.iload 4, 2) := by decide +kernel
theorem dX3_closestTo_14 : decode cX3_closestTo 14 = .ok (.aload_n 0, 1) := by decide +kernel
theorem dX3_closestTo_15 : decode cX3_closestTo 15 = .ok (.getfield 24, 3) := by decide +kernel
theorem dX3_closestTo_18 : decode cX3_closestTo 18 = .ok (.if_icmp .ge 30, 3) := by decide +kernel
theorem dX3_closestTo_21 : decode cX3_closestTo 21 = .ok (.aload_n 0, 1) := by decide +kernel
theorem dX3_closestTo_22 : decode cX3_closestTo 22 = .ok (.iload 4, 2) := by decide +kernel
theorem dX3_closestTo_24 : decode cX3_closestTo 24 = .ok (.aload_n 1, 1) := by decide +kernel
theorem dX3_closestTo_25 : decode cX3_closestTo 25 = .ok (.invokevirtual 62, 3) := by decide +kernel
theorem dX3_closestTo_28 : decode cX3_closestTo 28 = .ok (.istore 5, 2) := by decide +kernel
theorem dX3_closestTo_30 : decode cX3_closestTo 30 = .ok (.iload 5, 2) := by decide +kernel
theorem dX3_closestTo_32 : decode cX3_closestTo 32 = .ok (.iload_n 3, 1) := by decide +kernel
theorem dX3_closestTo_33 : decode cX3_closestTo 33 = .ok (.if_icmp .ge 9, 3) := by decide +kernel
theorem dX3_closestTo_36 : decode cX3_closestTo 36 = .ok (.iload 4, 2) := by decide +kernel
theorem dX3_closestTo_38 : decode cX3_closestTo 38 = .ok (.istore_n 2, 1) := by decide +kernel
theorem dX3_closestTo_39 : decode cX3_closestTo 39 = .ok (.iload 5, 2) := by decide +kernel
theorem dX3_closestTo_41 : decode cX3_closestTo 41 = .ok (.istore_n 3, 1) := by decide +kernel
theorem dX3_closestTo_42 : decode cX3_closestTo 42 = .ok (.iinc 4 1, 3) := by decide +kernel
theorem dX3_closestTo_45 : decode cX3_closestTo 45 = .ok (.goto (-33), 3) := by decide +kernel
theorem dX3_closestTo_48 : decode cX3_closestTo 48 = .ok (.iload_n 2, 1) := by decide +kernel
theorem dX3_closestTo_49 : decode cX3_closestTo 49 = .ok (.ireturn, 1) := by decide +kernel
set_option maxRecDepth 20000 in
theorem ggX3_possible_X3_closestTo : GoodIn wsX3_possible wsX3_closestTo := goodIn_r _ [6, 1, 7, 8, 9, 5, 10, 11, 12, 13, 14, 15, 16, 17, 18, 19, 20, 21, 22, 23, 24, 25, 26, 27, 28, 29, 30, 31, 32, 33, 34, 35, 36, 37] (by decide +kernel) (by decide +kernel)
set_option maxRecDepth 20000 in
theorem gX3_possible_X3_closestTo : GoodIn wsX3_possible (wsV RX3 66 RX3 yX3_closestTo wsX3_closestTo) := goodIn_app (goodIn_of _ (by decide +kernel)) ggX3_possible_X3_closestTo
set_option maxRecDepth 20000 in
theorem ggX3_possible_X3_misfitOf : GoodIn wsX3_possible wsX3_misfitOf := goodIn_r _ [10, 11, 12, 13, 14, 15, 16, 17, 18, 19, 20, 21, 22, 23, 5, 24, 25, 26, 27, 33, 34, 35, 36, 37, 28, 29, 30, 31, 32] (by decide +kernel) (by decide +kernel)
set_option maxRecDepth 20000 in
theorem gX3_possible_X3_misfitOf : GoodIn wsX3_possible (wsV RX3 62 RX3 yX3_misfitOf wsX3_misfitOf) := goodIn_app (goodIn_of _ (by decide +kernel)) ggX3_possible_X3_misfitOf
theorem dX3_possible_0 : decode cX3_possible 0 = .ok (.aload_n 0, 1) := by decide +kernel
theorem dX3_possible_1 : decode cX3_possible 1 = .ok (.aload_n 0, 1) := by decide +kernel
theorem dX3_possible_2 : decode cX3_possible 2 = .ok (.aload_n 1, 1) := by decide +kernel
theorem dX3_possible_3 : decode cX3_possible 3 = .ok (.invokevirtual 66, 3) := by decide +kernel
theorem dX3_possible_6 : decode cX3_possible 6 = .ok (.aload_n 1, 1) := by decide +kernel
theorem dX3_possible_7 : decode cX3_possible 7 = .ok (.invokevirtual 62, 3) := by decide +kernel
theorem dX3_possible_10 : decode cX3_possible 10 = .ok (.iload_n 2, 1) := by decide +kernel
theorem dX3_possible_11 : decode cX3_possible 11 = .ok (.iadd, 1) := by decide +kernel
theorem dX3_possible_12 : decode cX3_possible 12 = .ok (.istore_n 3, 1) := by decide +kernel
theorem dX3_possible_13 : decode cX3_possible 13 = .ok (.iconst 0, 1) := by decide +kernel
theorem dX3_possible_14 : decode cX3_possible 14 = .ok (.istore 4, 2) := by decide +kernel
theorem dX3_possible_16 : decode cX3_possible 16 = .ok (.iconst 0, 1) := by decide +kernel
theorem dX3_possible_17 : decode cX3_possible 17 = .ok (.istore 5, 2) := by decide +kernel
theorem dX3_possible_19 : decode cX3_possible 19 = .ok (.iload 5, 2) := by decide +kernel
theorem dX3_possible_21 : decode cX3_possible 21 = .ok (.aload_n 0, 1) := by decide +kernel
theorem dX3_possible_22 : decode cX3_possible 22 = .ok (.getfield 24, 3) := by decide +kernel
theorem dX3_possible_25 : decode cX3_possible 25 = .ok (.if_icmp .ge 29, 3) := by decide +kernel
theorem dX3_possible_28 : decode cX3_possible 28 = .ok (.aload_n 0, 1) := by decide +kernel
theorem dX3_possible_29 : decode cX3_possible 29 = .ok (.iload 5, 2) := by decide +kernel
theorem dX3_possible_31 : decode cX3_possible 31 = .ok (.aload_n 1, 1) := by decide +kernel
theorem dX3_possible_32 : decode cX3_possible 32 = .ok (.invokevirtual 62, 3) := by decide +kernel
theorem dX3_possible_35 : decode cX3_possible 35 = .ok (.iload_n 3, 1) := by decide +kernel
theorem dX3_possible_36 : decode cX3_possible 36 = .ok (.if_icmp .gt 12, 3) := by decide +kernel
theorem dX3_possible_39 : decode cX3_possible 39 = .ok (.iload 4, 2) := by decide +kernel
theorem dX3_possible_41 : decode cX3_possible 41 = .ok (.iconst 1, 1) := by decide +kernel
theorem dX3_possible_42 : decode cX3_possible 42 = .ok (.iload 5, 2) := by decide +kernel
theorem dX3_possible_44 : decode cX3_possible 44 = .ok (.ishl, 1) := by decide +kernel
theorem dX3_possible_45 : decode cX3_possible 45 = .ok (.ior, 1) := by decide +kernel
theorem dX3_possible_46 : decode cX3_possible 46 = .ok (.istore 4, 2) := by decide +kernel
theorem dX3_possible_48 : decode cX3_possible 48 = .ok (.iinc 5 1, 3) := by decide +kernel
theorem dX3_possible_51 : decode cX3_possible 51 = .ok (.goto (-32), 3) := by decide +kernel
theorem dX3_possible_54 : decode cX3_possible 54 = .ok (.iload 4, 2) := by decide +kernel
theorem dX3_possible_56 : decode cX3_possible 56 = .ok (.ireturn, 1) := by decide +kernel
set_option maxRecDepth 20000 in
theorem ggX3_nextToTry_X3_greatestHeap : GoodIn wsX3_nextToTry wsX3_greatestHeap := goodIn_r _ [5, 6, 7, 8, 9, 10, 11, 12, 4, 13, 14, 15, 16, 17, 18, 19, 20, 21, 22, 23, 24, 25, 26] (by decide +kernel) (by decide +kernel)
set_option maxRecDepth 20000 in
theorem gX3_nextToTry_X3_greatestHeap : GoodIn wsX3_nextToTry (wsV RX3 70 RX3 yX3_greatestHeap wsX3_greatestHeap) := goodIn_app (goodIn_of _ (by decide +kernel)) ggX3_nextToTry_X3_greatestHeap
theorem dX3_nextToTry_0 : decode cX3_nextToTry 0 = .ok (.iconst 0, 1) := by decide +kernel
theorem dX3_nextToTry_1 : decode cX3_nextToTry 1 = .ok (.istore_n 2, 1) := by decide +kernel
theorem dX3_nextToTry_2 : decode cX3_nextToTry 2 = .ok (.bipush 7, 2) := by decide +kernel
theorem dX3_nextToTry_4 : decode cX3_nextToTry 4 = .ok (.istore_n 3, 1) := by decide +kernel
theorem dX3_nextToTry_5 : decode cX3_nextToTry 5 = .ok (.iconst 0, 1) := by decide +kernel
theorem dX3_nextToTry_6 : decode cX3_nextToTry 6 = .ok (.istore 4, 2) := by decide +kernel
theorem dX3_nextToTry_8 : decode cX3_nextToTry 8 = .ok (.iload 4, 2) := by decide +kernel
theorem dX3_nextToTry_10 : decode cX3_nextToTry 10 = .ok (.bipush 63, 2) := by decide +kernel
theorem dX3_nextToTry_12 : decode cX3_nextToTry 12 = .ok (.if_icmp .gt 30, 3) := by decide +kernel
theorem dX3_nextToTry_15 : decode cX3_nextToTry 15 = .ok (.aload_n 0, 1) := by decide +kernel
theorem dX3_nextToTry_16 : decode cX3_nextToTry 16 = .ok (.iload_n 1, 1) := by decide +kernel
theorem dX3_nextToTry_17 : decode cX3_nextToTry 17 = .ok (.iload 4, 2) := by decide +kernel
theorem dX3_nextToTry_19 : decode cX3_nextToTry 19 = .ok (.invokevirtual 70, 3) := by decide +kernel
theorem dX3_nextToTry_22 : decode cX3_nextToTry 22 = .ok (.istore 5, 2) := by decide +kernel
theorem dX3_nextToTry_24 : decode cX3_nextToTry 24 = .ok (.iload 5, 2) := by decide +kernel
theorem dX3_nextToTry_26 : decode cX3_nextToTry 26 = .ok (.iload_n 3, 1) := by decide +kernel
theorem dX3_nextToTry_27 : decode cX3_nextToTry 27 = .ok (.if_icmp .ge 9, 3) := by decide +kernel
theorem dX3_nextToTry_30 : decode cX3_nextToTry 30 = .ok (.iload 4, 2) := by decide +kernel
theorem dX3_nextToTry_32 : decode cX3_nextToTry 32 = .ok (.istore_n 2, 1) := by decide +kernel
theorem dX3_nextToTry_33 : decode cX3_nextToTry 33 = .ok (.iload 5, 2) := by decide +kernel
theorem dX3_nextToTry_35 : decode cX3_nextToTry 35 = .ok (.istore_n 3, 1) := by decide +kernel
theorem dX3_nextToTry_36 : decode cX3_nextToTry 36 = .ok (.iinc 4 1, 3) := by decide +kernel
theorem dX3_nextToTry_39 : decode cX3_nextToTry 39 = .ok (.goto (-31), 3) := by decide +kernel
theorem dX3_nextToTry_42 : decode cX3_nextToTry 42 = .ok (.iload_n 2, 1) := by decide +kernel
theorem dX3_nextToTry_43 : decode cX3_nextToTry 43 = .ok (.ireturn, 1) := by decide +kernel
set_option maxRecDepth 20000 in
theorem ggX3_greatestHeap_X3_heapOf : GoodIn wsX3_greatestHeap wsX3_heapOf := goodIn_r _ [9, 10, 11, 12, 13, 8, 14, 15, 16, 17, 18, 19, 20, 21, 22] (by decide +kernel) (by decide +kernel)
set_option maxRecDepth 20000 in
theorem gX3_greatestHeap_X3_heapOf : GoodIn wsX3_greatestHeap (wsV RX3 73 RX3 yX3_heapOf wsX3_heapOf) := goodIn_app (goodIn_of _ (by decide +kernel)) ggX3_greatestHeap_X3_heapOf
theorem dX3_greatestHeap_0 : decode cX3_greatestHeap 0 = .ok (.iconst 0, 1) := by decide +kernel
theorem dX3_greatestHeap_1 : decode cX3_greatestHeap 1 = .ok (.istore_n 3, 1) := by decide +kernel
theorem dX3_greatestHeap_2 : decode cX3_greatestHeap 2 = .ok (.iconst 0, 1) := by decide +kernel
theorem dX3_greatestHeap_3 : decode cX3_greatestHeap 3 = .ok (.istore 4, 2) := by decide +kernel
theorem dX3_greatestHeap_5 : decode cX3_greatestHeap 5 = .ok (.iload 4, 2) := by decide +kernel
theorem dX3_greatestHeap_7 : decode cX3_greatestHeap 7 = .ok (.bipush 10, 2) := by decide +kernel
theorem dX3_greatestHeap_9 : decode cX3_greatestHeap 9 = .ok (.if_icmp .gt 22, 3) := by decide +kernel
theorem dX3_greatestHeap_12 : decode cX3_greatestHeap 12 = .ok (.iload_n 3, 1) := by decide +kernel
theorem dX3_greatestHeap_13 : decode cX3_greatestHeap 13 = .ok (.aload_n 0, 1) := by decide +kernel
theorem dX3_greatestHeap_14 : decode cX3_greatestHeap 14 = .ok (.iload_n 1, 1) := by decide +kernel
theorem dX3_greatestHeap_15 : decode cX3_greatestHeap 15 = .ok (.iload_n 2, 1) := by decide +kernel
theorem dX3_greatestHeap_16 : decode cX3_greatestHeap 16 = .ok (.iload 4, 2) := by decide +kernel
theorem dX3_greatestHeap_18 : decode cX3_greatestHeap 18 = .ok (.invokevirtual 73, 3) := by decide +kernel
theorem dX3_greatestHeap_21 : decode cX3_greatestHeap 21 = .ok (.invokestatic 77, 3) := by decide +kernel
theorem dX3_greatestHeap_24 : decode cX3_greatestHeap 24 = .ok (.istore_n 3, 1) := by decide +kernel
theorem dX3_greatestHeap_25 : decode cX3_greatestHeap 25 = .ok (.iinc 4 1, 3) := by decide +kernel
theorem dX3_greatestHeap_28 : decode cX3_greatestHeap 28 = .ok (.goto (-23), 3) := by decide +kernel
theorem dX3_greatestHeap_31 : decode cX3_greatestHeap 31 = .ok (.iload_n 3, 1) := by decide +kernel
theorem dX3_greatestHeap_32 : decode cX3_greatestHeap 32 = .ok (.ireturn, 1) := by decide +kernel
set_option maxRecDepth 20000 in
theorem ggX3_heapOf_X3_tenthsWith : GoodIn wsX3_heapOf wsX3_tenthsWith := goodIn_r _ [6, 7, 8, 9, 10, 11, 12, 13, 14] (by decide +kernel) (by decide +kernel)
set_option maxRecDepth 20000 in
theorem gX3_heapOf_X3_tenthsWith : GoodIn wsX3_heapOf (wsV RX3 51 RX3 yX3_tenthsWith wsX3_tenthsWith) := goodIn_app (goodIn_of _ (by decide +kernel)) ggX3_heapOf_X3_tenthsWith
theorem dX3_heapOf_0 : decode cX3_heapOf 0 = .ok (.iconst 0, 1) := by decide +kernel
theorem dX3_heapOf_1 : decode cX3_heapOf 1 = .ok (.istore 4, 2) := by decide +kernel
theorem dX3_heapOf_3 : decode cX3_heapOf 3 = .ok (.iconst 0, 1) := by decide +kernel
theorem dX3_heapOf_4 : decode cX3_heapOf 4 = .ok (.istore 5, 2) := by decide +kernel
theorem dX3_heapOf_6 : decode cX3_heapOf 6 = .ok (.iload 5, 2) := by decide +kernel
theorem dX3_heapOf_8 : decode cX3_heapOf 8 = .ok (.aload_n 0, 1) := by decide +kernel
theorem dX3_heapOf_9 : decode cX3_heapOf 9 = .ok (.getfield 24, 3) := by decide +kernel
theorem dX3_heapOf_12 : decode cX3_heapOf 12 = .ok (.if_icmp .ge 33, 3) := by decide +kernel
theorem dX3_heapOf_15 : decode cX3_heapOf 15 = .ok (.iload_n 1, 1) := by decide +kernel
theorem dX3_heapOf_16 : decode cX3_heapOf 16 = .ok (.iload 5, 2) := by decide +kernel
theorem dX3_heapOf_18 : decode cX3_heapOf 18 = .ok (.ishr, 1) := by decide +kernel
theorem dX3_heapOf_19 : decode cX3_heapOf 19 = .ok (.iconst 1, 1) := by decide +kernel
theorem dX3_heapOf_20 : decode cX3_heapOf 20 = .ok (.iand, 1) := by decide +kernel
theorem dX3_heapOf_21 : decode cX3_heapOf 21 = .ok (.iconst 1, 1) := by decide +kernel
theorem dX3_heapOf_22 : decode cX3_heapOf 22 = .ok (.if_icmp .ne 17, 3) := by decide +kernel
theorem dX3_heapOf_25 : decode cX3_heapOf 25 = .ok (.aload_n 0, 1) := by decide +kernel
theorem dX3_heapOf_26 : decode cX3_heapOf 26 = .ok (.iload 5, 2) := by decide +kernel
theorem dX3_heapOf_28 : decode cX3_heapOf 28 = .ok (.iload_n 2, 1) := by decide +kernel
theorem dX3_heapOf_29 : decode cX3_heapOf 29 = .ok (.invokevirtual 51, 3) := by decide +kernel
theorem dX3_heapOf_32 : decode cX3_heapOf 32 = .ok (.iload_n 3, 1) := by decide +kernel
theorem dX3_heapOf_33 : decode cX3_heapOf 33 = .ok (.if_icmp .ne 6, 3) := by decide +kernel
theorem dX3_heapOf_36 : decode cX3_heapOf 36 = .ok (.iinc 4 1, 3) := by decide +kernel
theorem dX3_heapOf_39 : decode cX3_heapOf 39 = .ok (.iinc 5 1, 3) := by decide +kernel
theorem dX3_heapOf_42 : decode cX3_heapOf 42 = .ok (.goto (-36), 3) := by decide +kernel
theorem dX3_heapOf_45 : decode cX3_heapOf 45 = .ok (.iload 4, 2) := by decide +kernel
theorem dX3_heapOf_47 : decode cX3_heapOf 47 = .ok (.ireturn, 1) := by decide +kernel
theorem dX4_init_0 : decode cX4_init 0 = .ok (.aload_n 0, 1) := by decide +kernel
theorem dX4_init_1 : decode cX4_init 1 = .ok (.invokespecial 3, 3) := by decide +kernel
theorem dX4_init_4 : decode cX4_init 4 = .ok (.aload_n 0, 1) := by decide +kernel
theorem dX4_init_5 : decode cX4_init 5 = .ok (.sipush 300, 3) := by decide +kernel
theorem dX4_init_8 : decode cX4_init 8 = .ok (.newarray .byte, 2) := by decide +kernel
theorem dX4_init_10 : decode cX4_init 10 = .ok (.putfield 11, 3) := by decide +kernel
theorem dX4_init_13 : decode cX4_init 13 = .ok (.aload_n 0, 1) := by decide +kernel
theorem dX4_init_14 : decode cX4_init 14 = .ok (.iconst 0, 1) := by decide +kernel
theorem dX4_init_15 : decode cX4_init 15 = .ok (.putfield 15, 3) := by decide +kernel
theorem dX4_init_18 : decode cX4_init 18 = .ok (.aload_n 0, 1) := by decide +kernel
theorem dX4_init_19 : decode cX4_init 19 = .ok (.iconst 0, 1) := by decide +kernel
theorem dX4_init_20 : decode cX4_init 20 = .ok (.putfield 19, 3) := by decide +kernel
theorem dX4_init_23 : decode cX4_init 23 = .ok (.aload_n 0, 1) := by decide +kernel
theorem dX4_init_24 : decode cX4_init 24 = .ok (.iconst 0, 1) := by decide +kernel
theorem dX4_init_25 : decode cX4_init 25 = .ok (.putfield 22, 3) := by decide +kernel
theorem dX4_init_28 : decode cX4_init 28 = .ok (.aload_n 0, 1) := by decide +kernel
theorem dX4_init_29 : decode cX4_init 29 = .ok (.iconst 0, 1) := by decide +kernel
theorem dX4_init_30 : decode cX4_init 30 = .ok (.putfield 25, 3) := by decide +kernel
theorem dX4_init_33 : decode cX4_init 33 = .ok (.aload_n 0, 1) := by decide +kernel
theorem dX4_init_34 : decode cX4_init 34 = .ok (.iconst 0, 1) := by decide +kernel
theorem dX4_init_35 : decode cX4_init 35 = .ok (.putfield 28, 3) := by decide +kernel
theorem dX4_init_38 : decode cX4_init 38 = .ok (.return_, 1) := by decide +kernel
theorem dX4_append_0 : decode cX4_append 0 = .ok (.iload_n 3, 1) := by decide +kernel
theorem dX4_append_1 : decode cX4_append 1 = .ok (.iconst 1, 1) := by decide +kernel
theorem dX4_append_2 : decode cX4_append 2 = .ok (.isub, 1) := by decide +kernel
theorem dX4_append_3 : decode cX4_append 3 = .ok (.istore 4, 2) := by decide +kernel
theorem dX4_append_5 : decode cX4_append 5 = .ok (.iload 4, 2) := by decide +kernel
theorem dX4_append_7 : decode cX4_append 7 = .ok (.ifCond .lt 37, 3) := by decide +kernel
theorem dX4_append_10 : decode cX4_append 10 = .ok (.aload_n 0, 1) := by decide +kernel
theorem dX4_append_11 : decode cX4_append 11 = .ok (.getfield 11, 3) := by decide +kernel
theorem dX4_append_14 : decode cX4_append 14 = .ok (.aload_n 0, 1) := by decide +kernel
theorem dX4_append_15 : decode cX4_append 15 = .ok (.getfield 15, 3) := by decide +kernel
theorem dX4_append_18 : decode cX4_append 18 = .ok (.lload_n 1, 1) := by decide +kernel
theorem dX4_append_19 : decode cX4_append 19 = .ok (.bipush 8, 2) := by decide +kernel
theorem dX4_append_21 : decode cX4_append 21 = .ok (.iload 4, 2) := by decide +kernel
theorem dX4_append_23 : decode cX4_append 23 = .ok (.imul, 1) := by decide +kernel
theorem dX4_append_24 : decode cX4_append 24 = .ok (.lshr, 1) := by decide +kernel
theorem dX4_append_25 : decode cX4_append 25 = .ok (.l2i, 1) := by decide +kernel
theorem dX4_append_26 : decode cX4_append 26 = .ok (.i2b, 1) := by decide +kernel
theorem dX4_append_27 : decode cX4_append 27 = .ok (.bastore, 1) := by decide +kernel
theorem dX4_append_28 : decode cX4_append 28 = .ok (.aload_n 0, 1) := by decide +kernel
theorem dX4_append_29 : decode cX4_append 29 = .ok (.dup, 1) := by decide +kernel
theorem dX4_append_30 : decode cX4_append 30 = .ok (.getfield 15, 3) := by decide +kernel
theorem dX4_append_33 : decode cX4_append 33 = .ok (.iconst 1, 1) := by decide +kernel
theorem dX4_append_34 : decode cX4_append 34 = .ok (.iadd, 1) := by decide +kernel
theorem dX4_append_35 : decode cX4_append 35 = .ok (.putfield 15, 3) := by decide +kernel
theorem dX4_append_38 : decode cX4_append 38 = .ok (.iinc 4 (-1), 3) := by decide +kernel
theorem dX4_append_41 : decode cX4_append 41 = .ok (.goto (-36), 3) := by decide +kernel
theorem dX4_append_44 : decode cX4_append 44 = .ok (.aload_n 0, 1) := by decide +kernel
theorem dX4_append_45 : decode cX4_append 45 = .ok (.getfield 15, 3) := by decide +kernel
theorem dX4_append_48 : decode cX4_append 48 = .ok (.ireturn, 1) := by decide +kernel
set_option maxRecDepth 20000 in
theorem ggX4_readInto_X4_readToken : GoodIn wsX4_readInto wsX4_readToken := goodIn_r _ [11, 2, 6, 4, 12, 5, 3, 13, 14, 15, 10, 16, 17, 18, 19, 20, 21, 22, 23, 24, 25, 26, 27, 28, 29, 30, 31, 32, 33, 34, 35, 36, 37, 38, 39, 40, 41, 42, 43, 44, 45, 46, 47, 48, 49, 50, 51, 52, 53, 54, 55, 56, 57, 58, 59, 60, 61, 62, 63, 64, 65, 66, 67, 68, 69, 70, 71, 72, 73, 74, 75, 76, 77, 78, 79, 80, 81, 82, 83, 84, 85, 86, 87, 88, 89, 117, 118, 119, 120, 121, 122] (by decide +kernel) (by decide +kernel)
set_option maxRecDepth 20000 in
theorem gX4_readInto_X4_readToken : GoodIn wsX4_readInto (wsV RX4 36 RX4 yX4_readToken wsX4_readToken) := goodIn_app (goodIn_of _ (by decide +kernel)) ggX4_readInto_X4_readToken
set_option maxRecDepth 20000 in
theorem ggX4_readInto_X3_take : GoodIn wsX4_readInto wsX3_take := goodIn_r _ [94, 95, 96, 97, 98, 93, 99, 100, 101, 102, 103, 104, 105, 106, 107, 108, 109, 110, 111, 112, 113, 114, 115, 116] (by decide +kernel) (by decide +kernel)
set_option maxRecDepth 20000 in
theorem gX4_readInto_X3_take : GoodIn wsX4_readInto (wsV RX4 39 RX3 yX3_take wsX3_take) := goodIn_app (goodIn_of _ (by decide +kernel)) ggX4_readInto_X3_take
theorem dX4_readInto_0 : decode cX4_readInto 0 = .ok (.aload_n 1, 1) := by decide +kernel
theorem dX4_readInto_1 : decode cX4_readInto 1 = .ok (.iconst 0, 1) := by decide +kernel
theorem dX4_readInto_2 : decode cX4_readInto 2 = .ok (.putfield 31, 3) := by decide +kernel
theorem dX4_readInto_5 : decode cX4_readInto 5 = .ok (.aload_n 0, 1) := by decide +kernel
theorem dX4_readInto_6 : decode cX4_readInto 6 = .ok (.iconst 0, 1) := by decide +kernel
theorem dX4_readInto_7 : decode cX4_readInto 7 = .ok (.putfield 28, 3) := by decide +kernel
theorem dX4_readInto_10 : decode cX4_readInto 10 = .ok (.iconst 0, 1) := by decide +kernel
theorem dX4_readInto_11 : decode cX4_readInto 11 = .ok (.istore_n 2, 1) := by decide +kernel
theorem dX4_readInto_12 : decode cX4_readInto 12 = .ok (.iconst 0, 1) := by decide +kernel
theorem dX4_readInto_13 : decode cX4_readInto 13 = .ok (.istore_n 3, 1) := by decide +kernel
theorem dX4_readInto_14 : decode cX4_readInto 14 = .ok (.iload_n 3, 1) := by decide +kernel
theorem dX4_readInto_15 : decode cX4_readInto 15 = .ok (.sipush 300, 3) := by decide +kernel
theorem dX4_readInto_18 : decode cX4_readInto 18 = .ok (.if_icmp .gt 58, 3) := by decide +kernel
theorem dX4_readInto_21 : decode cX4_readInto 21 = .ok (.aload_n 0, 1) := by decide +kernel
theorem dX4_readInto_22 : decode cX4_readInto 22 = .ok (.invokevirtual 36, 3) := by decide +kernel
theorem dX4_readInto_25 : decode cX4_readInto 25 = .ok (.aload_n 0, 1) := by decide +kernel
theorem dX4_readInto_26 : decode cX4_readInto 26 = .ok (.getfield 19, 3) := by decide +kernel
theorem dX4_readInto_29 : decode cX4_readInto 29 = .ok (.iconst 1, 1) := by decide +kernel
theorem dX4_readInto_30 : decode cX4_readInto 30 = .ok (.if_icmp .ne 16, 3) := by decide +kernel
theorem dX4_readInto_33 : decode cX4_readInto 33 = .ok (.iload_n 2, 1) := by decide +kernel
theorem dX4_readInto_34 : decode cX4_readInto 34 = .ok (.ifCond .ne 7, 3) := by decide +kernel
theorem dX4_readInto_37 : decode cX4_readInto 37 = .ok (.iconst (-1), 1) := by decide +kernel
theorem dX4_readInto_38 : decode cX4_readInto 38 = .ok (.goto 7, 3) := by decide +kernel
theorem dX4_readInto_41 : decode cX4_readInto 41 = .ok (.aload_n 0, 1) := by decide +kernel
theorem dX4_readInto_42 : decode cX4_readInto 42 = .ok (.getfield 15, 3) := by decide +kernel
theorem dX4_readInto_45 : decode cX4_readInto 45 = .ok (.ireturn, 1) := by decide +kernel
theorem dX4_readInto_46 : decode cX4_readInto 46 = .ok (.aload_n 1, 1) := by decide +kernel
theorem dX4_readInto_47 : decode cX4_readInto 47 = .ok (.iload_n 2, 1) := by decide +kernel
theorem dX4_readInto_48 : decode cX4_readInto 48 = .ok (.aload_n 0, 1) := by decide +kernel
theorem dX4_readInto_49 : decode cX4_readInto 49 = .ok (.getfield 19, 3) := by decide +kernel
theorem dX4_readInto_52 : decode cX4_readInto 52 = .ok (.aload_n 0, 1) := by decide +kernel
theorem dX4_readInto_53 : decode cX4_readInto 53 = .ok (.getfield 22, 3) := by decide +kernel
theorem dX4_readInto_56 : decode cX4_readInto 56 = .ok (.invokevirtual 39, 3) := by decide +kernel
theorem dX4_readInto_59 : decode cX4_readInto 59 = .ok (.istore_n 2, 1) := by decide +kernel
theorem dX4_readInto_60 : decode cX4_readInto 60 = .ok (.iload_n 2, 1) := by decide +kernel
theorem dX4_readInto_61 : decode cX4_readInto 61 = .ok (.iconst (-1), 1) := by decide +kernel
theorem dX4_readInto_62 : decode cX4_readInto 62 = .ok (.if_icmp .ne 8, 3) := by decide +kernel
theorem dX4_readInto_65 : decode cX4_readInto 65 = .ok (.aload_n 0, 1) := by decide +kernel
theorem dX4_readInto_66 : decode cX4_readInto 66 = .ok (.getfield 25, 3) := by decide +kernel
theorem dX4_readInto_69 : decode cX4_readInto 69 = .ok (.ireturn, 1) := by decide +kernel
theorem dX4_readInto_70 : decode cX4_readInto 70 = .ok (.iinc 3 1, 3) := by decide +kernel
theorem dX4_readInto_73 : decode cX4_readInto 73 = .ok (.goto (-59), 3) := by decide +kernel
theorem dX4_readInto_76 : decode cX4_readInto 76 = .ok (.aload_n 0, 1) := by decide +kernel
theorem dX4_readInto_77 : decode cX4_readInto 77 = .ok (.getfield 15, 3) := by decide +kernel
theorem dX4_readInto_80 : decode cX4_readInto 80 = .ok (.ireturn, 1) := by decide +kernel
set_option maxRecDepth 20000 in
theorem ggX4_readToken_X4_isLetter : GoodIn wsX4_readToken wsX4_isLetter := goodIn_r _ [11, 4, 85, 86, 87, 88, 89, 90] (by decide +kernel) (by decide +kernel)
set_option maxRecDepth 20000 in
theorem gX4_readToken_X4_isLetter : GoodIn wsX4_readToken (wsV RX4 43 RX4 yX4_isLetter wsX4_isLetter) := goodIn_app (goodIn_of _ (by decide +kernel)) ggX4_readToken_X4_isLetter
set_option maxRecDepth 20000 in
theorem ggX4_readToken_X4_readWord : GoodIn wsX4_readToken wsX4_readWord := goodIn_r _ [15, 1, 3, 6, 7, 8, 9, 10, 11, 4, 16, 17, 18, 19, 2, 20, 21, 22, 23, 24, 25, 26, 27, 28, 29, 30, 31, 32, 33, 34, 35, 36, 37, 38, 39, 40, 41, 42, 43, 44, 45, 46, 47, 48, 49, 50, 51, 52, 53, 54, 55, 56, 57, 58, 59, 60, 61, 62, 63, 64, 65, 66, 67, 68, 69, 70, 71, 72, 5, 85, 86, 87, 88, 89, 90] (by decide +kernel) (by decide +kernel)
set_option maxRecDepth 20000 in
theorem gX4_readToken_X4_readWord : GoodIn wsX4_readToken (wsV RX4 47 RX4 yX4_readWord wsX4_readWord) := goodIn_app (goodIn_of _ (by decide +kernel)) ggX4_readToken_X4_readWord
set_option maxRecDepth 20000 in
theorem ggX4_readToken_X4_isDigit : GoodIn wsX4_readToken wsX4_isDigit := goodIn_r _ [76, 4, 85, 86, 87, 88, 89, 90] (by decide +kernel) (by decide +kernel)
set_option maxRecDepth 20000 in
theorem gX4_readToken_X4_isDigit : GoodIn wsX4_readToken (wsV RX4 50 RX4 yX4_isDigit wsX4_isDigit) := goodIn_app (goodIn_of _ (by decide +kernel)) ggX4_readToken_X4_isDigit
set_option maxRecDepth 20000 in
theorem ggX4_readToken_X4_readNumber : GoodIn wsX4_readToken wsX4_readNumber := goodIn_r _ [80, 1, 3, 5, 4, 81, 82, 83, 84, 2, 6, 73, 74, 75, 10, 76, 85, 86, 87, 88, 89, 90] (by decide +kernel) (by decide +kernel)
set_option maxRecDepth 20000 in
theorem gX4_readToken_X4_readNumber : GoodIn wsX4_readToken (wsV RX4 53 RX4 yX4_readNumber wsX4_readNumber) := goodIn_app (goodIn_of _ (by decide +kernel)) ggX4_readToken_X4_readNumber
theorem dX4_readToken_0 : decode cX4_readToken 0 = .ok (.aload_n 0, 1) := by decide +kernel
theorem dX4_readToken_1 : decode cX4_readToken 1 = .ok (.aload_n 0, 1) := by decide +kernel
theorem dX4_readToken_2 : decode cX4_readToken 2 = .ok (.getfield 28, 3) := by decide +kernel
theorem dX4_readToken_5 : decode cX4_readToken 5 = .ok (.putfield 25, 3) := by decide +kernel
theorem dX4_readToken_8 : decode cX4_readToken 8 = .ok (.aload_n 0, 1) := by decide +kernel
theorem dX4_readToken_9 : decode cX4_readToken 9 = .ok (.getfield 25, 3) := by decide +kernel
theorem dX4_readToken_12 : decode cX4_readToken 12 = .ok (.aload_n 0, 1) := by decide +kernel
theorem dX4_readToken_13 : decode cX4_readToken 13 = .ok (.getfield 15, 3) := by decide +kernel
theorem dX4_readToken_16 : decode cX4_readToken 16 = .ok (.if_icmp .ge 30, 3) := by decide +kernel
theorem dX4_readToken_19 : decode cX4_readToken 19 = .ok (.aload_n 0, 1) := by decide +kernel
theorem dX4_readToken_20 : decode cX4_readToken 20 = .ok (.getfield 11, 3) := by decide +kernel
theorem dX4_readToken_23 : decode cX4_readToken 23 = .ok (.aload_n 0, 1) := by decide +kernel
theorem dX4_readToken_24 : decode cX4_readToken 24 = .ok (.getfield 25, 3) := by decide +kernel
theorem dX4_readToken_27 : decode cX4_readToken 27 = .ok (.baload, 1) := by decide +kernel
theorem dX4_readToken_28 : decode cX4_readToken 28 = .ok (.bipush 32, 2) := by decide +kernel
theorem dX4_readToken_30 : decode cX4_readToken 30 = .ok (.if_icmp .ne 16, 3) := by decide +kernel
theorem dX4_readToken_33 : decode cX4_readToken 33 = .ok (.aload_n 0, 1) := by decide +kernel
theorem dX4_readToken_34 : decode cX4_readToken 34 = .ok (.dup, 1) := by decide +kernel
theorem dX4_readToken_35 : decode cX4_readToken 35 = .ok (.getfield 25, 3) := by decide +kernel
theorem dX4_readToken_38 : decode cX4_readToken 38 = .ok (.iconst 1, 1) := by decide +kernel
theorem dX4_readToken_39 : decode cX4_readToken 39 = .ok (.iadd, 1) := by decide +kernel
theorem dX4_readToken_40 : decode cX4_readToken 40 = .ok (.putfield 25, 3) := by decide +kernel
theorem dX4_readToken_43 : decode cX4_readToken 43 = .ok (.goto (-35), 3) := by decide +kernel
theorem dX4_readToken_46 : decode cX4_readToken 46 = .ok (.aload_n 0, 1) := by decide +kernel
theorem dX4_readToken_47 : decode cX4_readToken 47 = .ok (.aload_n 0, 1) := by decide +kernel
theorem dX4_readToken_48 : decode cX4_readToken 48 = .ok (.getfield 25, 3) := by decide +kernel
theorem dX4_readToken_51 : decode cX4_readToken 51 = .ok (.putfield 28, 3) := by decide +kernel
theorem dX4_readToken_54 : decode cX4_readToken 54 = .ok (.aload_n 0, 1) := by decide +kernel
theorem dX4_readToken_55 : decode cX4_readToken 55 = .ok (.iconst 0, 1) := by decide +kernel
theorem dX4_readToken_56 : decode cX4_readToken 56 = .ok (.putfield 22, 3) := by decide +kernel
theorem dX4_readToken_59 : decode cX4_readToken 59 = .ok (.aload_n 0, 1) := by decide +kernel
theorem dX4_readToken_60 : decode cX4_readToken 60 = .ok (.getfield 25, 3) := by decide +kernel
theorem dX4_readToken_63 : decode cX4_readToken 63 = .ok (.aload_n 0, 1) := by decide +kernel
theorem dX4_readToken_64 : decode cX4_readToken 64 = .ok (.getfield 15, 3) := by decide +kernel
theorem dX4_readToken_67 : decode cX4_readToken 67 = .ok (.if_icmp .lt 11, 3) := by decide +kernel
theorem dX4_readToken_70 : decode cX4_readToken 70 = .ok (.aload_n 0, 1) := by decide +kernel
theorem dX4_readToken_71 : decode cX4_readToken 71 = .ok (.iconst 1, 1) := by decide +kernel
theorem dX4_readToken_72 : decode cX4_readToken 72 = .ok (.putfield 19, 3) := by decide +kernel
theorem dX4_readToken_75 : decode cX4_readToken 75 = .ok (.goto 72, 3) := by decide +kernel
theorem dX4_readToken_78 : decode cX4_readToken 78 = .ok (.aload_n 0, 1) := by decide +kernel
theorem dX4_readToken_79 : decode cX4_readToken 79 = .ok (.aload_n 0, 1) := by decide +kernel
theorem dX4_readToken_80 : decode cX4_readToken 80 = .ok (.getfield 25, 3) := by decide +kernel
theorem dX4_readToken_83 : decode cX4_readToken 83 = .ok (.invokevirtual 43, 3) := by decide +kernel
theorem dX4_readToken_86 : decode cX4_readToken 86 = .ok (.ifCond .eq 10, 3) := by decide +kernel
theorem dX4_readToken_89 : decode cX4_readToken 89 = .ok (.aload_n 0, 1) := by decide +kernel
theorem dX4_readToken_90 : decode cX4_readToken 90 = .ok (.invokevirtual 47, 3) := by decide +kernel
theorem dX4_readToken_93 : decode cX4_readToken 93 = .ok (.goto 54, 3) := by decide +kernel
theorem dX4_readToken_96 : decode cX4_readToken 96 = .ok (.aload_n 0, 1) := by decide +kernel
theorem dX4_readToken_97 : decode cX4_readToken 97 = .ok (.aload_n 0, 1) := by decide +kernel
theorem dX4_readToken_98 : decode cX4_readToken 98 = .ok (.getfield 25, 3) := by decide +kernel
theorem dX4_readToken_101 : decode cX4_readToken 101 = .ok (.invokevirtual 50, 3) := by decide +kernel
theorem dX4_readToken_104 : decode cX4_readToken 104 = .ok (.ifCond .eq 10, 3) := by decide +kernel
theorem dX4_readToken_107 : decode cX4_readToken 107 = .ok (.aload_n 0, 1) := by decide +kernel
theorem dX4_readToken_108 : decode cX4_readToken 108 = .ok (.invokevirtual 53, 3) := by decide +kernel
theorem dX4_readToken_111 : decode cX4_readToken 111 = .ok (.goto 36, 3) := by decide +kernel
theorem dX4_readToken_114 : decode cX4_readToken 114 = .ok (.aload_n 0, 1) := by decide +kernel
theorem dX4_readToken_115 : decode cX4_readToken 115 = .ok (.aload_n 0, 1) := by decide +kernel
theorem dX4_readToken_116 : decode cX4_readToken 116 = .ok (.getfield 11, 3) := by decide +kernel
theorem dX4_readToken_119 : decode cX4_readToken 119 = .ok (.aload_n 0, 1) := by decide +kernel
theorem dX4_readToken_120 : decode cX4_readToken 120 = .ok (.getfield 25, 3) := by decide +kernel
theorem dX4_readToken_123 : decode cX4_readToken 123 = .ok (.baload, 1) := by decide +kernel
theorem dX4_readToken_124 : decode cX4_readToken 124 = .ok (.bipush 59, 2) := by decide +kernel
theorem dX4_readToken_126 : decode cX4_readToken 126 = .ok (.if_icmp .ne 7, 3) := by decide +kernel
theorem dX4_readToken_129 : decode cX4_readToken 129 = .ok (.iconst 2, 1) := by decide +kernel
theorem dX4_readToken_130 : decode cX4_readToken 130 = .ok (.goto 4, 3) := by decide +kernel
theorem dX4_readToken_133 : decode cX4_readToken 133 = .ok (.iconst 0, 1) := by decide +kernel
theorem dX4_readToken_134 : decode cX4_readToken 134 = .ok (.putfield 19, 3) := by decide +kernel
theorem dX4_readToken_137 : decode cX4_readToken 137 = .ok (.aload_n 0, 1) := by decide +kernel
theorem dX4_readToken_138 : decode cX4_readToken 138 = .ok (.dup, 1) := by decide +kernel
theorem dX4_readToken_139 : decode cX4_readToken 139 = .ok (.getfield 28, 3) := by decide +kernel
theorem dX4_readToken_142 : decode cX4_readToken 142 = .ok (.iconst 1, 1) := by decide +kernel
theorem dX4_readToken_143 : decode cX4_readToken 143 = .ok (.iadd, 1) := by decide +kernel
theorem dX4_readToken_144 : decode cX4_readToken 144 = .ok (.putfield 28, 3) := by decide +kernel
theorem dX4_readToken_147 : decode cX4_readToken 147 = .ok (.return_, 1) := by decide +kernel
theorem dX4_isLetter_0 : decode cX4_isLetter 0 = .ok (.aload_n 0, 1) := by decide +kernel
theorem dX4_isLetter_1 : decode cX4_isLetter 1 = .ok (.getfield 11, 3) := by decide +kernel
theorem dX4_isLetter_4 : decode cX4_isLetter 4 = .ok (.iload_n 1, 1) := by decide +kernel
theorem dX4_isLetter_5 : decode cX4_isLetter 5 = .ok (.baload, 1) := by decide +kernel
theorem dX4_isLetter_6 : decode cX4_isLetter 6 = .ok (.bipush 97, 2) := by decide +kernel
theorem dX4_isLetter_8 : decode cX4_isLetter 8 = .ok (.if_icmp .lt 18, 3) := by decide +kernel
theorem dX4_isLetter_11 : decode cX4_isLetter 11 = .ok (.aload_n 0, 1) := by decide +kernel
theorem dX4_isLetter_12 : decode cX4_isLetter 12 = .ok (.getfield 11, 3) := by decide +kernel
theorem dX4_isLetter_15 : decode cX4_isLetter 15 = .ok (.iload_n 1, 1) := by decide +kernel
theorem dX4_isLetter_16 : decode cX4_isLetter 16 = .ok (.baload, 1) := by decide +kernel
theorem dX4_isLetter_17 : decode cX4_isLetter 17 = .ok (.bipush 122, 2) := by decide +kernel
theorem dX4_isLetter_19 : decode cX4_isLetter 19 = .ok (.if_icmp .gt 7, 3) := by decide +kernel
theorem dX4_isLetter_22 : decode cX4_isLetter 22 = .ok (.iconst 1, 1) := by decide +kernel
theorem dX4_isLetter_23 : decode cX4_isLetter 23 = .ok (.goto 4, 3) := by decide +kernel
theorem dX4_isLetter_26 : decode cX4_isLetter 26 = .ok (.iconst 0, 1) := by decide +kernel
theorem dX4_isLetter_27 : decode cX4_isLetter 27 = .ok (.ireturn, 1) := by decide +kernel
theorem dX4_isDigit_0 : decode cX4_isDigit 0 = .ok (.aload_n 0, 1) := by decide +kernel
theorem dX4_isDigit_1 : decode cX4_isDigit 1 = .ok (.getfield 11, 3) := by decide +kernel
theorem dX4_isDigit_4 : decode cX4_isDigit 4 = .ok (.iload_n 1, 1) := by decide +kernel
theorem dX4_isDigit_5 : decode cX4_isDigit 5 = .ok (.baload, 1) := by decide +kernel
theorem dX4_isDigit_6 : decode cX4_isDigit 6 = .ok (.bipush 48, 2) := by decide +kernel
theorem dX4_isDigit_8 : decode cX4_isDigit 8 = .ok (.if_icmp .lt 18, 3) := by decide +kernel
theorem dX4_isDigit_11 : decode cX4_isDigit 11 = .ok (.aload_n 0, 1) := by decide +kernel
theorem dX4_isDigit_12 : decode cX4_isDigit 12 = .ok (.getfield 11, 3) := by decide +kernel
theorem dX4_isDigit_15 : decode cX4_isDigit 15 = .ok (.iload_n 1, 1) := by decide +kernel
theorem dX4_isDigit_16 : decode cX4_isDigit 16 = .ok (.baload, 1) := by decide +kernel
theorem dX4_isDigit_17 : decode cX4_isDigit 17 = .ok (.bipush 57, 2) := by decide +kernel
theorem dX4_isDigit_19 : decode cX4_isDigit 19 = .ok (.if_icmp .gt 7, 3) := by decide +kernel
theorem dX4_isDigit_22 : decode cX4_isDigit 22 = .ok (.iconst 1, 1) := by decide +kernel
theorem dX4_isDigit_23 : decode cX4_isDigit 23 = .ok (.goto 4, 3) := by decide +kernel
theorem dX4_isDigit_26 : decode cX4_isDigit 26 = .ok (.iconst 0, 1) := by decide +kernel
theorem dX4_isDigit_27 : decode cX4_isDigit 27 = .ok (.ireturn, 1) := by decide +kernel
set_option maxRecDepth 20000 in
theorem ggX4_readWord_X4_isLetter : GoodIn wsX4_readWord wsX4_isLetter := goodIn_r _ [8, 9, 69, 70, 71, 72, 73, 74] (by decide +kernel) (by decide +kernel)
set_option maxRecDepth 20000 in
theorem gX4_readWord_X4_isLetter : GoodIn wsX4_readWord (wsV RX4 43 RX4 yX4_isLetter wsX4_isLetter) := goodIn_app (goodIn_of _ (by decide +kernel)) ggX4_readWord_X4_isLetter
set_option maxRecDepth 20000 in
theorem ggX4_readWord_X4_isWord : GoodIn wsX4_readWord wsX4_isWord := goodIn_r _ [13, 1, 14, 9, 15, 16, 17, 18, 19, 20, 21, 22, 23, 24, 25, 26, 27, 28, 29, 30, 31, 32, 33, 34, 35, 36, 37, 38, 39, 40, 41, 42, 43, 44, 45, 46, 47, 48, 49, 50, 51, 52, 53, 54, 55, 56, 57, 58, 59, 60, 61, 62, 63, 69, 70, 71, 72, 73, 74] (by decide +kernel) (by decide +kernel)
set_option maxRecDepth 20000 in
theorem gX4_readWord_X4_isWord : GoodIn wsX4_readWord (wsV RX4 58 RX4 yX4_isWord wsX4_isWord) := goodIn_app (goodIn_of _ (by decide +kernel)) ggX4_readWord_X4_isWord
set_option maxRecDepth 20000 in
theorem ggX4_readWord_X4_readRun : GoodIn wsX4_readWord wsX4_readRun := goodIn_r _ [67, 3, 14, 1, 9, 68, 69, 70, 71, 72, 73, 74] (by decide +kernel) (by decide +kernel)
set_option maxRecDepth 20000 in
theorem gX4_readWord_X4_readRun : GoodIn wsX4_readWord (wsV RX4 66 RX4 yX4_readRun wsX4_readRun) := goodIn_app (goodIn_of _ (by decide +kernel)) ggX4_readWord_X4_readRun
theorem dX4_readWord_0 : decode cX4_readWord 0 = .ok (.aload_n 0, 1) := by decide +kernel
theorem dX4_readWord_1 : decode cX4_readWord 1 = .ok (.getfield 28, 3) := by decide +kernel
theorem dX4_readWord_4 : decode cX4_readWord 4 = .ok (.aload_n 0, 1) := by decide +kernel
theorem dX4_readWord_5 : decode cX4_readWord 5 = .ok (.getfield 15, 3) := by decide +kernel
theorem dX4_readWord_8 : decode cX4_readWord 8 = .ok (.if_icmp .ge 27, 3) := by decide +kernel
theorem dX4_readWord_11 : decode cX4_readWord 11 = .ok (.aload_n 0, 1) := by decide +kernel
theorem dX4_readWord_12 : decode cX4_readWord 12 = .ok (.aload_n 0, 1) := by decide +kernel
theorem dX4_readWord_13 : decode cX4_readWord 13 = .ok (.getfield 28, 3) := by decide +kernel
theorem dX4_readWord_16 : decode cX4_readWord 16 = .ok (.invokevirtual 43, 3) := by decide +kernel
theorem dX4_readWord_19 : decode cX4_readWord 19 = .ok (.ifCond .eq 16, 3) := by decide +kernel
theorem dX4_readWord_22 : decode cX4_readWord 22 = .ok (.aload_n 0, 1) := by decide +kernel
theorem dX4_readWord_23 : decode cX4_readWord 23 = .ok (.dup, 1) := by decide +kernel
theorem dX4_readWord_24 : decode cX4_readWord 24 = .ok (.getfield 28, 3) := by decide +kernel
theorem dX4_readWord_27 : decode cX4_readWord 27 = .ok (.iconst 1, 1) := by decide +kernel
theorem dX4_readWord_28 : decode cX4_readWord 28 = .ok (.iadd, 1) := by decide +kernel
theorem dX4_readWord_29 : decode cX4_readWord 29 = .ok (.putfield 28, 3) := by decide +kernel
theorem dX4_readWord_32 : decode cX4_readWord 32 = .ok (.goto (-32), 3) := by decide +kernel
theorem dX4_readWord_35 : decode cX4_readWord 35 = .ok (.aload_n 0, 1) := by decide +kernel
theorem dX4_readWord_36 : decode cX4_readWord 36 = .ok (.ldc 56, 2) := by decide +kernel
theorem dX4_readWord_38 : decode cX4_readWord 38 = .ok (.invokevirtual 58, 3) := by decide +kernel
theorem dX4_readWord_41 : decode cX4_readWord 41 = .ok (.ifCond .eq 11, 3) := by decide +kernel
theorem dX4_readWord_44 : decode cX4_readWord 44 = .ok (.aload_n 0, 1) := by decide +kernel
theorem dX4_readWord_45 : decode cX4_readWord 45 = .ok (.iconst 4, 1) := by decide +kernel
theorem dX4_readWord_46 : decode cX4_readWord 46 = .ok (.putfield 19, 3) := by decide +kernel
theorem dX4_readWord_49 : decode cX4_readWord 49 = .ok (.goto 42, 3) := by decide +kernel
theorem dX4_readWord_52 : decode cX4_readWord 52 = .ok (.aload_n 0, 1) := by decide +kernel
theorem dX4_readWord_53 : decode cX4_readWord 53 = .ok (.ldc 62, 2) := by decide +kernel
theorem dX4_readWord_55 : decode cX4_readWord 55 = .ok (.invokevirtual 58, 3) := by decide +kernel
theorem dX4_readWord_58 : decode cX4_readWord 58 = .ok (.ifCond .eq 11, 3) := by decide +kernel
theorem dX4_readWord_61 : decode cX4_readWord 61 = .ok (.aload_n 0, 1) := by decide +kernel
theorem dX4_readWord_62 : decode cX4_readWord 62 = .ok (.iconst 5, 1) := by decide +kernel
theorem dX4_readWord_63 : decode cX4_readWord 63 = .ok (.putfield 19, 3) := by decide +kernel
theorem dX4_readWord_66 : decode cX4_readWord 66 = .ok (.goto 25, 3) := by decide +kernel
theorem dX4_readWord_69 : decode cX4_readWord 69 = .ok (.aload_n 0, 1) := by decide +kernel
theorem dX4_readWord_70 : decode cX4_readWord 70 = .ok (.ldc 64, 2) := by decide +kernel
theorem dX4_readWord_72 : decode cX4_readWord 72 = .ok (.invokevirtual 58, 3) := by decide +kernel
theorem dX4_readWord_75 : decode cX4_readWord 75 = .ok (.ifCond .eq 12, 3) := by decide +kernel
theorem dX4_readWord_78 : decode cX4_readWord 78 = .ok (.aload_n 0, 1) := by decide +kernel
theorem dX4_readWord_79 : decode cX4_readWord 79 = .ok (.bipush 6, 2) := by decide +kernel
theorem dX4_readWord_81 : decode cX4_readWord 81 = .ok (.putfield 19, 3) := by decide +kernel
theorem dX4_readWord_84 : decode cX4_readWord 84 = .ok (.goto 7, 3) := by decide +kernel
theorem dX4_readWord_87 : decode cX4_readWord 87 = .ok (.aload_n 0, 1) := by decide +kernel
theorem dX4_readWord_88 : decode cX4_readWord 88 = .ok (.invokevirtual 66, 3) := by decide +kernel
theorem dX4_readWord_91 : decode cX4_readWord 91 = .ok (.return_, 1) := by decide +kernel
set_option maxRecDepth 20000 in
theorem ggX4_isWord_J0_length_8abf5 : GoodIn wsX4_isWord wsJ0_length_8abf5 := goodIn_r _ [8, 9, 10, 11, 12, 7, 13, 14, 15] (by decide +kernel) (by decide +kernel)
set_option maxRecDepth 20000 in
theorem gX4_isWord_J0_length_8abf5 : GoodIn wsX4_isWord (wsV RX4 69 RJ0 yJ0_length_8abf5 wsJ0_length_8abf5) := goodIn_app (goodIn_of _ (by decide +kernel)) ggX4_isWord_J0_length_8abf5
set_option maxRecDepth 20000 in
theorem ggX4_isWord_J0_charAt_5068e : GoodIn wsX4_isWord wsJ0_charAt_5068e := goodIn_r _ [19, 9, 20, 21, 22, 7, 23, 14, 15, 24, 25, 26, 27, 28, 29, 30, 31, 32, 33, 34, 35, 36, 37, 38, 39, 40, 41, 42, 43, 44, 45, 46, 47, 48, 49, 50, 51, 52] (by decide +kernel) (by decide +kernel)
set_option maxRecDepth 20000 in
theorem gX4_isWord_J0_charAt_5068e : GoodIn wsX4_isWord (wsV RX4 74 RJ0 yJ0_charAt_5068e wsJ0_charAt_5068e) := goodIn_app (goodIn_of _ (by decide +kernel)) ggX4_isWord_J0_charAt_5068e
theorem dX4_isWord_0 : decode cX4_isWord 0 = .ok (.aload_n 0, 1) := by decide +kernel
theorem dX4_isWord_1 : decode cX4_isWord 1 = .ok (.getfield 28, 3) := by decide +kernel
theorem dX4_isWord_4 : decode cX4_isWord 4 = .ok (.aload_n 0, 1) := by decide +kernel
theorem dX4_isWord_5 : decode cX4_isWord 5 = .ok (.getfield 25, 3) := by decide +kernel
theorem dX4_isWord_8 : decode cX4_isWord 8 = .ok (.isub, 1) := by decide +kernel
theorem dX4_isWord_9 : decode cX4_isWord 9 = .ok (.aload_n 1, 1) := by decide +kernel
theorem dX4_isWord_10 : decode cX4_isWord 10 = .ok (.invokevirtual 69, 3) := by decide +kernel
theorem dX4_isWord_13 : decode cX4_isWord 13 = .ok (.if_icmp .eq 5, 3) := by decide +kernel
theorem dX4_isWord_16 : decode cX4_isWord 16 = .ok (.iconst 0, 1) := by decide +kernel
theorem dX4_isWord_17 : decode cX4_isWord 17 = .ok (.ireturn, 1) := by decide +kernel
theorem dX4_isWord_18 : decode cX4_isWord 18 = .ok (.iconst 0, 1) := by decide +kernel
theorem dX4_isWord_19 : decode cX4_isWord 19 = .ok (.istore_n 2, 1) := by decide +kernel
theorem dX4_isWord_20 : decode cX4_isWord 20 = .ok (.iload_n 2, 1) := by decide +kernel
theorem dX4_isWord_21 : decode cX4_isWord 21 = .ok (.aload_n 1, 1) := by decide +kernel
theorem dX4_isWord_22 : decode cX4_isWord 22 = .ok (.invokevirtual 69, 3) := by decide +kernel
theorem dX4_isWord_25 : decode cX4_isWord 25 = .ok (.if_icmp .ge 30, 3) := by decide +kernel
theorem dX4_isWord_28 : decode cX4_isWord 28 = .ok (.aload_n 0, 1) := by decide +kernel
theorem dX4_isWord_29 : decode cX4_isWord 29 = .ok (.getfield 11, 3) := by decide +kernel
theorem dX4_isWord_32 : decode cX4_isWord 32 = .ok (.aload_n 0, 1) := by decide +kernel
theorem dX4_isWord_33 : decode cX4_isWord 33 = .ok (.getfield 25, 3) := by decide +kernel
theorem dX4_isWord_36 : decode cX4_isWord 36 = .ok (.iload_n 2, 1) := by decide +kernel
theorem dX4_isWord_37 : decode cX4_isWord 37 = .ok (.iadd, 1) := by decide +kernel
theorem dX4_isWord_38 : decode cX4_isWord 38 = .ok (.baload, 1) := by decide +kernel
theorem dX4_isWord_39 : decode cX4_isWord 39 = .ok (.aload_n 1, 1) := by decide +kernel
theorem dX4_isWord_40 : decode cX4_isWord 40 = .ok (.iload_n 2, 1) := by decide +kernel
theorem dX4_isWord_41 : decode cX4_isWord 41 = .ok (.invokevirtual 74, 3) := by decide +kernel
theorem dX4_isWord_44 : decode cX4_isWord 44 = .ok (.if_icmp .eq 5, 3) := by decide +kernel
theorem dX4_isWord_47 : decode cX4_isWord 47 = .ok (.iconst 0, 1) := by decide +kernel
theorem dX4_isWord_48 : decode cX4_isWord 48 = .ok (.ireturn, 1) := by decide +kernel
theorem dX4_isWord_49 : decode cX4_isWord 49 = .ok (.iinc 2 1, 3) := by decide +kernel
theorem dX4_isWord_52 : decode cX4_isWord 52 = .ok (.goto (-32), 3) := by decide +kernel
theorem dX4_isWord_55 : decode cX4_isWord 55 = .ok (.iconst 1, 1) := by decide +kernel
theorem dX4_isWord_56 : decode cX4_isWord 56 = .ok (.ireturn, 1) := by decide +kernel
theorem dX4_readRun_0 : decode cX4_readRun 0 = .ok (.aload_n 0, 1) := by decide +kernel
theorem dX4_readRun_1 : decode cX4_readRun 1 = .ok (.bipush 7, 2) := by decide +kernel
theorem dX4_readRun_3 : decode cX4_readRun 3 = .ok (.putfield 19, 3) := by decide +kernel
theorem dX4_readRun_6 : decode cX4_readRun 6 = .ok (.aload_n 0, 1) := by decide +kernel
theorem dX4_readRun_7 : decode cX4_readRun 7 = .ok (.getfield 25, 3) := by decide +kernel
theorem dX4_readRun_10 : decode cX4_readRun 10 = .ok (.istore_n 1, 1) := by decide +kernel
theorem dX4_readRun_11 : decode cX4_readRun 11 = .ok (.iload_n 1, 1) := by decide +kernel
theorem dX4_readRun_12 : decode cX4_readRun 12 = .ok (.aload_n 0, 1) := by decide +kernel
theorem dX4_readRun_13 : decode cX4_readRun 13 = .ok (.getfield 28, 3) := by decide +kernel
theorem dX4_readRun_16 : decode cX4_readRun 16 = .ok (.if_icmp .ge 55, 3) := by decide +kernel
theorem dX4_readRun_19 : decode cX4_readRun 19 = .ok (.aload_n 0, 1) := by decide +kernel
theorem dX4_readRun_20 : decode cX4_readRun 20 = .ok (.getfield 11, 3) := by decide +kernel
theorem dX4_readRun_23 : decode cX4_readRun 23 = .ok (.iload_n 1, 1) := by decide +kernel
theorem dX4_readRun_24 : decode cX4_readRun 24 = .ok (.baload, 1) := by decide +kernel
theorem dX4_readRun_25 : decode cX4_readRun 25 = .ok (.bipush 97, 2) := by decide +kernel
theorem dX4_readRun_27 : decode cX4_readRun 27 = .ok (.isub, 1) := by decide +kernel
theorem dX4_readRun_28 : decode cX4_readRun 28 = .ok (.istore_n 2, 1) := by decide +kernel
theorem dX4_readRun_29 : decode cX4_readRun 29 = .ok (.iload_n 2, 1) := by decide +kernel
theorem dX4_readRun_30 : decode cX4_readRun 30 = .ok (.bipush 6, 2) := by decide +kernel
theorem dX4_readRun_32 : decode cX4_readRun 32 = .ok (.if_icmp .ge 15, 3) := by decide +kernel
theorem dX4_readRun_35 : decode cX4_readRun 35 = .ok (.aload_n 0, 1) := by decide +kernel
theorem dX4_readRun_36 : decode cX4_readRun 36 = .ok (.getfield 22, 3) := by decide +kernel
theorem dX4_readRun_39 : decode cX4_readRun 39 = .ok (.iload_n 2, 1) := by decide +kernel
theorem dX4_readRun_40 : decode cX4_readRun 40 = .ok (.ishr, 1) := by decide +kernel
theorem dX4_readRun_41 : decode cX4_readRun 41 = .ok (.iconst 1, 1) := by decide +kernel
theorem dX4_readRun_42 : decode cX4_readRun 42 = .ok (.iand, 1) := by decide +kernel
theorem dX4_readRun_43 : decode cX4_readRun 43 = .ok (.iconst 1, 1) := by decide +kernel
theorem dX4_readRun_44 : decode cX4_readRun 44 = .ok (.if_icmp .ne 9, 3) := by decide +kernel
theorem dX4_readRun_47 : decode cX4_readRun 47 = .ok (.aload_n 0, 1) := by decide +kernel
theorem dX4_readRun_48 : decode cX4_readRun 48 = .ok (.iconst 0, 1) := by decide +kernel
theorem dX4_readRun_49 : decode cX4_readRun 49 = .ok (.putfield 19, 3) := by decide +kernel
theorem dX4_readRun_52 : decode cX4_readRun 52 = .ok (.return_, 1) := by decide +kernel
theorem dX4_readRun_53 : decode cX4_readRun 53 = .ok (.aload_n 0, 1) := by decide +kernel
theorem dX4_readRun_54 : decode cX4_readRun 54 = .ok (.dup, 1) := by decide +kernel
theorem dX4_readRun_55 : decode cX4_readRun 55 = .ok (.getfield 22, 3) := by decide +kernel
theorem dX4_readRun_58 : decode cX4_readRun 58 = .ok (.iconst 1, 1) := by decide +kernel
theorem dX4_readRun_59 : decode cX4_readRun 59 = .ok (.iload_n 2, 1) := by decide +kernel
theorem dX4_readRun_60 : decode cX4_readRun 60 = .ok (.ishl, 1) := by decide +kernel
theorem dX4_readRun_61 : decode cX4_readRun 61 = .ok (.ior, 1) := by decide +kernel
theorem dX4_readRun_62 : decode cX4_readRun 62 = .ok (.putfield 22, 3) := by decide +kernel
theorem dX4_readRun_65 : decode cX4_readRun 65 = .ok (.iinc 1 1, 3) := by decide +kernel
theorem dX4_readRun_68 : decode cX4_readRun 68 = .ok (.goto (-57), 3) := by decide +kernel
theorem dX4_readRun_71 : decode cX4_readRun 71 = .ok (.return_, 1) := by decide +kernel
set_option maxRecDepth 20000 in
theorem ggX4_readNumber_X4_isDigit : GoodIn wsX4_readNumber wsX4_isDigit := goodIn_r _ [15, 4, 16, 17, 18, 19, 20, 21] (by decide +kernel) (by decide +kernel)
set_option maxRecDepth 20000 in
theorem gX4_readNumber_X4_isDigit : GoodIn wsX4_readNumber (wsV RX4 50 RX4 yX4_isDigit wsX4_isDigit) := goodIn_app (goodIn_of _ (by decide +kernel)) ggX4_readNumber_X4_isDigit
theorem dX4_readNumber_0 : decode cX4_readNumber 0 = .ok (.aload_n 0, 1) := by decide +kernel
theorem dX4_readNumber_1 : decode cX4_readNumber 1 = .ok (.getfield 28, 3) := by decide +kernel
theorem dX4_readNumber_4 : decode cX4_readNumber 4 = .ok (.aload_n 0, 1) := by decide +kernel
theorem dX4_readNumber_5 : decode cX4_readNumber 5 = .ok (.getfield 15, 3) := by decide +kernel
theorem dX4_readNumber_8 : decode cX4_readNumber 8 = .ok (.if_icmp .ge 56, 3) := by decide +kernel
theorem dX4_readNumber_11 : decode cX4_readNumber 11 = .ok (.aload_n 0, 1) := by decide +kernel
theorem dX4_readNumber_12 : decode cX4_readNumber 12 = .ok (.aload_n 0, 1) := by decide +kernel
theorem dX4_readNumber_13 : decode cX4_readNumber 13 = .ok (.getfield 28, 3) := by decide +kernel
theorem dX4_readNumber_16 : decode cX4_readNumber 16 = .ok (.invokevirtual 50, 3) := by decide +kernel
theorem dX4_readNumber_19 : decode cX4_readNumber 19 = .ok (.ifCond .eq 45, 3) := by decide +kernel
theorem dX4_readNumber_22 : decode cX4_readNumber 22 = .ok (.aload_n 0, 1) := by decide +kernel
theorem dX4_readNumber_23 : decode cX4_readNumber 23 = .ok (.bipush 100, 2) := by decide +kernel
theorem dX4_readNumber_25 : decode cX4_readNumber 25 = .ok (.bipush 10, 2) := by decide +kernel
theorem dX4_readNumber_27 : decode cX4_readNumber 27 = .ok (.aload_n 0, 1) := by decide +kernel
theorem dX4_readNumber_28 : decode cX4_readNumber 28 = .ok (.getfield 22, 3) := by decide +kernel
theorem dX4_readNumber_31 : decode cX4_readNumber 31 = .ok (.imul, 1) := by decide +kernel
theorem dX4_readNumber_32 : decode cX4_readNumber 32 = .ok (.aload_n 0, 1) := by decide +kernel
theorem dX4_readNumber_33 : decode cX4_readNumber 33 = .ok (.getfield 11, 3) := by decide +kernel
theorem dX4_readNumber_36 : decode cX4_readNumber 36 = .ok (.aload_n 0, 1) := by decide +kernel
theorem dX4_readNumber_37 : decode cX4_readNumber 37 = .ok (.getfield 28, 3) := by decide +kernel
theorem dX4_readNumber_40 : decode cX4_readNumber 40 = .ok (.baload, 1) := by decide +kernel
theorem dX4_readNumber_41 : decode cX4_readNumber 41 = .ok (.iadd, 1) := by decide +kernel
theorem dX4_readNumber_42 : decode cX4_readNumber 42 = .ok (.bipush 48, 2) := by decide +kernel
theorem dX4_readNumber_44 : decode cX4_readNumber 44 = .ok (.isub, 1) := by decide +kernel
theorem dX4_readNumber_45 : decode cX4_readNumber 45 = .ok (.invokestatic 78, 3) := by decide +kernel
theorem dX4_readNumber_48 : decode cX4_readNumber 48 = .ok (.putfield 22, 3) := by decide +kernel
theorem dX4_readNumber_51 : decode cX4_readNumber 51 = .ok (.aload_n 0, 1) := by decide +kernel
theorem dX4_readNumber_52 : decode cX4_readNumber 52 = .ok (.dup, 1) := by decide +kernel
theorem dX4_readNumber_53 : decode cX4_readNumber 53 = .ok (.getfield 28, 3) := by decide +kernel
theorem dX4_readNumber_56 : decode cX4_readNumber 56 = .ok (.iconst 1, 1) := by decide +kernel
theorem dX4_readNumber_57 : decode cX4_readNumber 57 = .ok (.iadd, 1) := by decide +kernel
theorem dX4_readNumber_58 : decode cX4_readNumber 58 = .ok (.putfield 28, 3) := by decide +kernel
theorem dX4_readNumber_61 : decode cX4_readNumber 61 = .ok (.goto (-61), 3) := by decide +kernel
theorem dX4_readNumber_64 : decode cX4_readNumber 64 = .ok (.aload_n 0, 1) := by decide +kernel
theorem dX4_readNumber_65 : decode cX4_readNumber 65 = .ok (.getfield 11, 3) := by decide +kernel
theorem dX4_readNumber_68 : decode cX4_readNumber 68 = .ok (.aload_n 0, 1) := by decide +kernel
theorem dX4_readNumber_69 : decode cX4_readNumber 69 = .ok (.getfield 25, 3) := by decide +kernel
theorem dX4_readNumber_72 : decode cX4_readNumber 72 = .ok (.baload, 1) := by decide +kernel
theorem dX4_readNumber_73 : decode cX4_readNumber 73 = .ok (.bipush 48, 2) := by decide +kernel
theorem dX4_readNumber_75 : decode cX4_readNumber 75 = .ok (.if_icmp .ne 20, 3) := by decide +kernel
theorem dX4_readNumber_78 : decode cX4_readNumber 78 = .ok (.aload_n 0, 1) := by decide +kernel
theorem dX4_readNumber_79 : decode cX4_readNumber 79 = .ok (.getfield 28, 3) := by decide +kernel
theorem dX4_readNumber_82 : decode cX4_readNumber 82 = .ok (.aload_n 0, 1) := by decide +kernel
theorem dX4_readNumber_83 : decode cX4_readNumber 83 = .ok (.getfield 25, 3) := by decide +kernel
theorem dX4_readNumber_86 : decode cX4_readNumber 86 = .ok (.isub, 1) := by decide +kernel
theorem dX4_readNumber_87 : decode cX4_readNumber 87 = .ok (.iconst 1, 1) := by decide +kernel
theorem dX4_readNumber_88 : decode cX4_readNumber 88 = .ok (.if_icmp .le 7, 3) := by decide +kernel
theorem dX4_readNumber_91 : decode cX4_readNumber 91 = .ok (.iconst 1, 1) := by decide +kernel
theorem dX4_readNumber_92 : decode cX4_readNumber 92 = .ok (.goto 4, 3) := by decide +kernel
theorem dX4_readNumber_95 : decode cX4_readNumber 95 = .ok (.iconst 0, 1) := by decide +kernel
theorem dX4_readNumber_96 : decode cX4_readNumber 96 = .ok (.istore_n 1, 1) := by decide +kernel
theorem dX4_readNumber_97 : decode cX4_readNumber 97 = .ok (.aload_n 0, 1) := by decide +kernel
theorem dX4_readNumber_98 : decode cX4_readNumber 98 = .ok (.iload_n 1, 1) := by decide +kernel
theorem dX4_readNumber_99 : decode cX4_readNumber 99 = .ok (.ifCond .ne 12, 3) := by decide +kernel
theorem dX4_readNumber_102 : decode cX4_readNumber 102 = .ok (.aload_n 0, 1) := by decide +kernel
theorem dX4_readNumber_103 : decode cX4_readNumber 103 = .ok (.getfield 22, 3) := by decide +kernel
theorem dX4_readNumber_106 : decode cX4_readNumber 106 = .ok (.bipush 99, 2) := by decide +kernel
theorem dX4_readNumber_108 : decode cX4_readNumber 108 = .ok (.if_icmp .le 7, 3) := by decide +kernel
theorem dX4_readNumber_111 : decode cX4_readNumber 111 = .ok (.iconst 0, 1) := by decide +kernel
theorem dX4_readNumber_112 : decode cX4_readNumber 112 = .ok (.goto 4, 3) := by decide +kernel
theorem dX4_readNumber_115 : decode cX4_readNumber 115 = .ok (.iconst 3, 1) := by decide +kernel
theorem dX4_readNumber_116 : decode cX4_readNumber 116 = .ok (.putfield 19, 3) := by decide +kernel
theorem dX4_readNumber_119 : decode cX4_readNumber 119 = .ok (.return_, 1) := by decide +kernel
set_option maxRecDepth 20000 in
theorem ggX5_init_X0_init : GoodIn wsX5_init wsX0_init := goodIn_r _ [22, 23, 2, 3, 24, 25, 26, 27, 28, 29, 30, 31, 32, 33, 34, 35, 36, 37, 38, 39, 40, 41, 42, 43, 44, 45, 46, 47, 48, 49, 90, 91, 92, 93, 94, 68, 69, 70, 95, 96, 97, 98, 99] (by decide +kernel) (by decide +kernel)
set_option maxRecDepth 20000 in
theorem gX5_init_X0_init_n9 : GoodIn wsX5_init (wsX0_init) := ggX5_init_X0_init
set_option maxRecDepth 20000 in
theorem ggX5_init_X4_init : GoodIn wsX5_init wsX4_init := goodIn_r _ [51, 52, 2, 3, 53, 54, 55, 56, 57, 58, 59, 79, 80, 81, 82, 83, 84] (by decide +kernel) (by decide +kernel)
set_option maxRecDepth 20000 in
theorem gX5_init_X4_init_n24 : GoodIn wsX5_init (wsX4_init) := ggX5_init_X4_init
set_option maxRecDepth 20000 in
theorem ggX5_init_X3_init : GoodIn wsX5_init wsX3_init := goodIn_r _ [61, 62, 2, 3, 36, 63, 64, 65, 66, 67, 85, 86, 87, 88, 89] (by decide +kernel) (by decide +kernel)
set_option maxRecDepth 20000 in
theorem gX5_init_X3_init_n31 : GoodIn wsX5_init (wsX3_init) := ggX5_init_X3_init

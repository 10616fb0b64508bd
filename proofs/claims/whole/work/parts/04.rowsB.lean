theorem dX5_init_0 : decode cX5_init 0 = .ok (.aload_n 0, 1) := by decide +kernel
theorem dX5_init_1 : decode cX5_init 1 = .ok (.invokespecial 1, 3) := by decide +kernel
theorem dX5_init_4 : decode cX5_init 4 = .ok (.aload_n 0, 1) := by decide +kernel
theorem dX5_init_5 : decode cX5_init 5 = .ok (.new 7, 3) := by decide +kernel
theorem dX5_init_8 : decode cX5_init 8 = .ok (.dup, 1) := by decide +kernel
theorem dX5_init_9 : decode cX5_init 9 = .ok (.invokespecial 9, 3) := by decide +kernel
theorem dX5_init_12 : decode cX5_init 12 = .ok (.putfield 10, 3) := by decide +kernel
theorem dX5_init_15 : decode cX5_init 15 = .ok (.aload_n 0, 1) := by decide +kernel
theorem dX5_init_16 : decode cX5_init 16 = .ok (.new 7, 3) := by decide +kernel
theorem dX5_init_19 : decode cX5_init 19 = .ok (.dup, 1) := by decide +kernel
theorem dX5_init_20 : decode cX5_init 20 = .ok (.invokespecial 9, 3) := by decide +kernel
theorem dX5_init_23 : decode cX5_init 23 = .ok (.putfield 16, 3) := by decide +kernel
theorem dX5_init_26 : decode cX5_init 26 = .ok (.aload_n 0, 1) := by decide +kernel
theorem dX5_init_27 : decode cX5_init 27 = .ok (.new 7, 3) := by decide +kernel
theorem dX5_init_30 : decode cX5_init 30 = .ok (.dup, 1) := by decide +kernel
theorem dX5_init_31 : decode cX5_init 31 = .ok (.invokespecial 9, 3) := by decide +kernel
theorem dX5_init_34 : decode cX5_init 34 = .ok (.putfield 19, 3) := by decide +kernel
theorem dX5_init_37 : decode cX5_init 37 = .ok (.aload_n 0, 1) := by decide +kernel
theorem dX5_init_38 : decode cX5_init 38 = .ok (.new 22, 3) := by decide +kernel
theorem dX5_init_41 : decode cX5_init 41 = .ok (.dup, 1) := by decide +kernel
theorem dX5_init_42 : decode cX5_init 42 = .ok (.invokespecial 24, 3) := by decide +kernel
theorem dX5_init_45 : decode cX5_init 45 = .ok (.putfield 25, 3) := by decide +kernel
theorem dX5_init_48 : decode cX5_init 48 = .ok (.aload_n 0, 1) := by decide +kernel
theorem dX5_init_49 : decode cX5_init 49 = .ok (.new 29, 3) := by decide +kernel
theorem dX5_init_52 : decode cX5_init 52 = .ok (.dup, 1) := by decide +kernel
theorem dX5_init_53 : decode cX5_init 53 = .ok (.invokespecial 31, 3) := by decide +kernel
theorem dX5_init_56 : decode cX5_init 56 = .ok (.putfield 32, 3) := by decide +kernel
theorem dX5_init_59 : decode cX5_init 59 = .ok (.aload_n 0, 1) := by decide +kernel
theorem dX5_init_60 : decode cX5_init 60 = .ok (.new 29, 3) := by decide +kernel
theorem dX5_init_63 : decode cX5_init 63 = .ok (.dup, 1) := by decide +kernel
theorem dX5_init_64 : decode cX5_init 64 = .ok (.invokespecial 31, 3) := by decide +kernel
theorem dX5_init_67 : decode cX5_init 67 = .ok (.putfield 36, 3) := by decide +kernel
theorem dX5_init_70 : decode cX5_init 70 = .ok (.aload_n 0, 1) := by decide +kernel
theorem dX5_init_71 : decode cX5_init 71 = .ok (.bipush 20, 2) := by decide +kernel
theorem dX5_init_73 : decode cX5_init 73 = .ok (.putfield 39, 3) := by decide +kernel
theorem dX5_init_76 : decode cX5_init 76 = .ok (.aload_n 0, 1) := by decide +kernel
theorem dX5_init_77 : decode cX5_init 77 = .ok (.lconst 0, 1) := by decide +kernel
theorem dX5_init_78 : decode cX5_init 78 = .ok (.putfield 43, 3) := by decide +kernel
theorem dX5_init_81 : decode cX5_init 81 = .ok (.return_, 1) := by decide +kernel
set_option maxRecDepth 20000 in
theorem ggX5_house_X5_within : GoodIn wsX5_house wsX5_within := goodIn_r _ [6] (by decide +kernel) (by decide +kernel)
set_option maxRecDepth 20000 in
theorem gX5_house_X5_within : GoodIn wsX5_house (va_wsS RX5 49 yX5_within wsX5_within) := goodIn_app (goodIn_of _ (by decide +kernel)) ggX5_house_X5_within
set_option maxRecDepth 20000 in
theorem ggX5_house_X2_isFull : GoodIn wsX5_house wsX2_isFull := goodIn_r _ [11, 12, 32, 33, 34, 35, 36] (by decide +kernel) (by decide +kernel)
set_option maxRecDepth 20000 in
theorem gX5_house_X2_isFull : GoodIn wsX5_house (wsV RX5 57 RX2 yX2_isFull wsX2_isFull) := goodIn_app (goodIn_of _ (by decide +kernel)) ggX5_house_X2_isFull
set_option maxRecDepth 20000 in
theorem ggX5_house_X2_add : GoodIn wsX5_house wsX2_add := goodIn_r _ [16, 17, 12, 18, 19, 20, 32, 33, 34, 35, 36] (by decide +kernel) (by decide +kernel)
set_option maxRecDepth 20000 in
theorem gX5_house_X2_add : GoodIn wsX5_house (wsV RX5 61 RX2 yX2_add wsX2_add) := goodIn_app (goodIn_of _ (by decide +kernel)) ggX5_house_X2_add
theorem dX5_house_0 : decode cX5_house 0 = .ok (.iload_n 1, 1) := by decide +kernel
theorem dX5_house_1 : decode cX5_house 1 = .ok (.iconst 1, 1) := by decide +kernel
theorem dX5_house_2 : decode cX5_house 2 = .ok (.bipush 12, 2) := by decide +kernel
theorem dX5_house_4 : decode cX5_house 4 = .ok (.invokestatic 49, 3) := by decide +kernel
theorem dX5_house_7 : decode cX5_house 7 = .ok (.ifCond .eq 32, 3) := by decide +kernel
theorem dX5_house_10 : decode cX5_house 10 = .ok (.iload_n 2, 1) := by decide +kernel
theorem dX5_house_11 : decode cX5_house 11 = .ok (.iconst 0, 1) := by decide +kernel
theorem dX5_house_12 : decode cX5_house 12 = .ok (.iload_n 1, 1) := by decide +kernel
theorem dX5_house_13 : decode cX5_house 13 = .ok (.invokestatic 49, 3) := by decide +kernel
theorem dX5_house_16 : decode cX5_house 16 = .ok (.ifCond .eq 23, 3) := by decide +kernel
theorem dX5_house_19 : decode cX5_house 19 = .ok (.iload_n 3, 1) := by decide +kernel
theorem dX5_house_20 : decode cX5_house 20 = .ok (.iconst 0, 1) := by decide +kernel
theorem dX5_house_21 : decode cX5_house 21 = .ok (.iload_n 1, 1) := by decide +kernel
theorem dX5_house_22 : decode cX5_house 22 = .ok (.invokestatic 49, 3) := by decide +kernel
theorem dX5_house_25 : decode cX5_house 25 = .ok (.ifCond .eq 14, 3) := by decide +kernel
theorem dX5_house_28 : decode cX5_house 28 = .ok (.iload 4, 2) := by decide +kernel
theorem dX5_house_30 : decode cX5_house 30 = .ok (.iconst 0, 1) := by decide +kernel
theorem dX5_house_31 : decode cX5_house 31 = .ok (.bipush 63, 2) := by decide +kernel
theorem dX5_house_33 : decode cX5_house 33 = .ok (.invokestatic 49, 3) := by decide +kernel
theorem dX5_house_36 : decode cX5_house 36 = .ok (.ifCond .ne 5, 3) := by decide +kernel
theorem dX5_house_39 : decode cX5_house 39 = .ok (.iconst (-1), 1) := by decide +kernel
theorem dX5_house_40 : decode cX5_house 40 = .ok (.ireturn, 1) := by decide +kernel
theorem dX5_house_41 : decode cX5_house 41 = .ok (.aload_n 0, 1) := by decide +kernel
theorem dX5_house_42 : decode cX5_house 42 = .ok (.getfield 10, 3) := by decide +kernel
theorem dX5_house_45 : decode cX5_house 45 = .ok (.getfield 53, 3) := by decide +kernel
theorem dX5_house_48 : decode cX5_house 48 = .ok (.invokevirtual 57, 3) := by decide +kernel
theorem dX5_house_51 : decode cX5_house 51 = .ok (.ifCond .eq 8, 3) := by decide +kernel
theorem dX5_house_54 : decode cX5_house 54 = .ok (.bipush (-3), 2) := by decide +kernel
theorem dX5_house_56 : decode cX5_house 56 = .ok (.goto 18, 3) := by decide +kernel
theorem dX5_house_59 : decode cX5_house 59 = .ok (.aload_n 0, 1) := by decide +kernel
theorem dX5_house_60 : decode cX5_house 60 = .ok (.getfield 10, 3) := by decide +kernel
theorem dX5_house_63 : decode cX5_house 63 = .ok (.getfield 53, 3) := by decide +kernel
theorem dX5_house_66 : decode cX5_house 66 = .ok (.iload_n 1, 1) := by decide +kernel
theorem dX5_house_67 : decode cX5_house 67 = .ok (.iload_n 2, 1) := by decide +kernel
theorem dX5_house_68 : decode cX5_house 68 = .ok (.iload_n 3, 1) := by decide +kernel
theorem dX5_house_69 : decode cX5_house 69 = .ok (.iload 4, 2) := by decide +kernel
theorem dX5_house_71 : decode cX5_house 71 = .ok (.invokevirtual 61, 3) := by decide +kernel
theorem dX5_house_74 : decode cX5_house 74 = .ok (.ireturn, 1) := by decide +kernel
set_option maxRecDepth 20000 in
theorem ggX5_about_X2_has : GoodIn wsX5_about wsX2_has := goodIn_r _ [11, 12, 24, 25, 26, 27, 28] (by decide +kernel) (by decide +kernel)
set_option maxRecDepth 20000 in
theorem gX5_about_X2_has : GoodIn wsX5_about (wsV RX5 65 RX2 yX2_has wsX2_has) := goodIn_app (goodIn_of _ (by decide +kernel)) ggX5_about_X2_has
theorem dX5_about_0 : decode cX5_about 0 = .ok (.aload_n 0, 1) := by decide +kernel
theorem dX5_about_1 : decode cX5_about 1 = .ok (.getfield 10, 3) := by decide +kernel
theorem dX5_about_4 : decode cX5_about 4 = .ok (.getfield 53, 3) := by decide +kernel
theorem dX5_about_7 : decode cX5_about 7 = .ok (.astore_n 3, 1) := by decide +kernel
theorem dX5_about_8 : decode cX5_about 8 = .ok (.aload_n 3, 1) := by decide +kernel
theorem dX5_about_9 : decode cX5_about 9 = .ok (.iload_n 1, 1) := by decide +kernel
theorem dX5_about_10 : decode cX5_about 10 = .ok (.invokevirtual 65, 3) := by decide +kernel
theorem dX5_about_13 : decode cX5_about 13 = .ok (.ifCond .ne 5, 3) := by decide +kernel
theorem dX5_about_16 : decode cX5_about 16 = .ok (.iconst (-1), 1) := by decide +kernel
theorem dX5_about_17 : decode cX5_about 17 = .ok (.ireturn, 1) := by decide +kernel
theorem dX5_about_18 : decode cX5_about 18 = .ok (.iload_n 2, 1) := by decide +kernel
theorem dX5_about_19 : decode cX5_about 19 = .ok (.tableswitch 57 0 3 #[29, 36, 43, 50], 29) := by decide +kernel
theorem dX5_about_48 : decode cX5_about 48 = .ok (.aload_n 3, 1) := by decide +kernel
theorem dX5_about_49 : decode cX5_about 49 = .ok (.getfield 69, 3) := by decide +kernel
theorem dX5_about_52 : decode cX5_about 52 = .ok (.iload_n 1, 1) := by decide +kernel
theorem dX5_about_53 : decode cX5_about 53 = .ok (.iaload, 1) := by decide +kernel
theorem dX5_about_54 : decode cX5_about 54 = .ok (.ireturn, 1) := by decide +kernel
theorem dX5_about_55 : decode cX5_about 55 = .ok (.aload_n 3, 1) := by decide +kernel
theorem dX5_about_56 : decode cX5_about 56 = .ok (.getfield 73, 3) := by decide +kernel
theorem dX5_about_59 : decode cX5_about 59 = .ok (.iload_n 1, 1) := by decide +kernel
theorem dX5_about_60 : decode cX5_about 60 = .ok (.iaload, 1) := by decide +kernel
theorem dX5_about_61 : decode cX5_about 61 = .ok (.ireturn, 1) := by decide +kernel
theorem dX5_about_62 : decode cX5_about 62 = .ok (.aload_n 3, 1) := by decide +kernel
theorem dX5_about_63 : decode cX5_about 63 = .ok (.getfield 76, 3) := by decide +kernel
theorem dX5_about_66 : decode cX5_about 66 = .ok (.iload_n 1, 1) := by decide +kernel
theorem dX5_about_67 : decode cX5_about 67 = .ok (.iaload, 1) := by decide +kernel
theorem dX5_about_68 : decode cX5_about 68 = .ok (.ireturn, 1) := by decide +kernel
theorem dX5_about_69 : decode cX5_about 69 = .ok (.aload_n 3, 1) := by decide +kernel
theorem dX5_about_70 : decode cX5_about 70 = .ok (.getfield 79, 3) := by decide +kernel
theorem dX5_about_73 : decode cX5_about 73 = .ok (.iload_n 1, 1) := by decide +kernel
theorem dX5_about_74 : decode cX5_about 74 = .ok (.iaload, 1) := by decide +kernel
theorem dX5_about_75 : decode cX5_about 75 = .ok (.ireturn, 1) := by decide +kernel
theorem dX5_about_76 : decode cX5_about 76 = .ok (.iconst (-1), 1) := by decide +kernel
theorem dX5_about_77 : decode cX5_about 77 = .ok (.ireturn, 1) := by decide +kernel
set_option maxRecDepth 20000 in
theorem ggX5_mend_X2_has : GoodIn wsX5_mend wsX2_has := goodIn_r _ [10, 11, 27, 28, 29, 30, 31] (by decide +kernel) (by decide +kernel)
set_option maxRecDepth 20000 in
theorem gX5_mend_X2_has : GoodIn wsX5_mend (wsV RX5 65 RX2 yX2_has wsX2_has) := goodIn_app (goodIn_of _ (by decide +kernel)) ggX5_mend_X2_has
set_option maxRecDepth 20000 in
theorem ggX5_mend_X5_within : GoodIn wsX5_mend wsX5_within := goodIn_r _ [15] (by decide +kernel) (by decide +kernel)
set_option maxRecDepth 20000 in
theorem gX5_mend_X5_within : GoodIn wsX5_mend (va_wsS RX5 49 yX5_within wsX5_within) := goodIn_app (goodIn_of _ (by decide +kernel)) ggX5_mend_X5_within
theorem dX5_mend_0 : decode cX5_mend 0 = .ok (.aload_n 0, 1) := by decide +kernel
theorem dX5_mend_1 : decode cX5_mend 1 = .ok (.getfield 10, 3) := by decide +kernel
theorem dX5_mend_4 : decode cX5_mend 4 = .ok (.getfield 53, 3) := by decide +kernel
theorem dX5_mend_7 : decode cX5_mend 7 = .ok (.astore 4, 2) := by decide +kernel
theorem dX5_mend_9 : decode cX5_mend 9 = .ok (.aload 4, 2) := by decide +kernel
theorem dX5_mend_11 : decode cX5_mend 11 = .ok (.iload_n 1, 1) := by decide +kernel
theorem dX5_mend_12 : decode cX5_mend 12 = .ok (.invokevirtual 65, 3) := by decide +kernel
theorem dX5_mend_15 : decode cX5_mend 15 = .ok (.ifCond .eq 33, 3) := by decide +kernel
theorem dX5_mend_18 : decode cX5_mend 18 = .ok (.iload_n 2, 1) := by decide +kernel
theorem dX5_mend_19 : decode cX5_mend 19 = .ok (.iconst 0, 1) := by decide +kernel
theorem dX5_mend_20 : decode cX5_mend 20 = .ok (.aload 4, 2) := by decide +kernel
theorem dX5_mend_22 : decode cX5_mend 22 = .ok (.getfield 69, 3) := by decide +kernel
theorem dX5_mend_25 : decode cX5_mend 25 = .ok (.iload_n 1, 1) := by decide +kernel
theorem dX5_mend_26 : decode cX5_mend 26 = .ok (.iaload, 1) := by decide +kernel
theorem dX5_mend_27 : decode cX5_mend 27 = .ok (.invokestatic 49, 3) := by decide +kernel
theorem dX5_mend_30 : decode cX5_mend 30 = .ok (.ifCond .eq 18, 3) := by decide +kernel
theorem dX5_mend_33 : decode cX5_mend 33 = .ok (.iload_n 3, 1) := by decide +kernel
theorem dX5_mend_34 : decode cX5_mend 34 = .ok (.iconst 0, 1) := by decide +kernel
theorem dX5_mend_35 : decode cX5_mend 35 = .ok (.aload 4, 2) := by decide +kernel
theorem dX5_mend_37 : decode cX5_mend 37 = .ok (.getfield 69, 3) := by decide +kernel
theorem dX5_mend_40 : decode cX5_mend 40 = .ok (.iload_n 1, 1) := by decide +kernel
theorem dX5_mend_41 : decode cX5_mend 41 = .ok (.iaload, 1) := by decide +kernel
theorem dX5_mend_42 : decode cX5_mend 42 = .ok (.invokestatic 49, 3) := by decide +kernel
theorem dX5_mend_45 : decode cX5_mend 45 = .ok (.ifCond .ne 5, 3) := by decide +kernel
theorem dX5_mend_48 : decode cX5_mend 48 = .ok (.iconst (-1), 1) := by decide +kernel
theorem dX5_mend_49 : decode cX5_mend 49 = .ok (.ireturn, 1) := by decide +kernel
theorem dX5_mend_50 : decode cX5_mend 50 = .ok (.bipush 100, 2) := by decide +kernel
theorem dX5_mend_52 : decode cX5_mend 52 = .ok (.aload 4, 2) := by decide +kernel
theorem dX5_mend_54 : decode cX5_mend 54 = .ok (.getfield 73, 3) := by decide +kernel
theorem dX5_mend_57 : decode cX5_mend 57 = .ok (.iload_n 1, 1) := by decide +kernel
theorem dX5_mend_58 : decode cX5_mend 58 = .ok (.iaload, 1) := by decide +kernel
theorem dX5_mend_59 : decode cX5_mend 59 = .ok (.imul, 1) := by decide +kernel
theorem dX5_mend_60 : decode cX5_mend 60 = .ok (.aload 4, 2) := by decide +kernel
theorem dX5_mend_62 : decode cX5_mend 62 = .ok (.getfield 76, 3) := by decide +kernel
theorem dX5_mend_65 : decode cX5_mend 65 = .ok (.iload_n 1, 1) := by decide +kernel
theorem dX5_mend_66 : decode cX5_mend 66 = .ok (.iaload, 1) := by decide +kernel
theorem dX5_mend_67 : decode cX5_mend 67 = .ok (.iadd, 1) := by decide +kernel
theorem dX5_mend_68 : decode cX5_mend 68 = .ok (.istore 5, 2) := by decide +kernel
theorem dX5_mend_70 : decode cX5_mend 70 = .ok (.aload 4, 2) := by decide +kernel
theorem dX5_mend_72 : decode cX5_mend 72 = .ok (.getfield 73, 3) := by decide +kernel
theorem dX5_mend_75 : decode cX5_mend 75 = .ok (.iload_n 1, 1) := by decide +kernel
theorem dX5_mend_76 : decode cX5_mend 76 = .ok (.iload_n 2, 1) := by decide +kernel
theorem dX5_mend_77 : decode cX5_mend 77 = .ok (.iastore, 1) := by decide +kernel
theorem dX5_mend_78 : decode cX5_mend 78 = .ok (.aload 4, 2) := by decide +kernel
theorem dX5_mend_80 : decode cX5_mend 80 = .ok (.getfield 76, 3) := by decide +kernel
theorem dX5_mend_83 : decode cX5_mend 83 = .ok (.iload_n 1, 1) := by decide +kernel
theorem dX5_mend_84 : decode cX5_mend 84 = .ok (.iload_n 3, 1) := by decide +kernel
theorem dX5_mend_85 : decode cX5_mend 85 = .ok (.iastore, 1) := by decide +kernel
theorem dX5_mend_86 : decode cX5_mend 86 = .ok (.iload 5, 2) := by decide +kernel
theorem dX5_mend_88 : decode cX5_mend 88 = .ok (.ireturn, 1) := by decide +kernel
set_option maxRecDepth 20000 in
theorem ggX5_more_X2_peopleOf : GoodIn wsX5_more wsX2_peopleOf := goodIn_r _ [8, 9, 10, 42, 43, 44, 45, 46] (by decide +kernel) (by decide +kernel)
set_option maxRecDepth 20000 in
theorem gX5_more_X2_peopleOf : GoodIn wsX5_more (wsV RX5 82 RX2 yX2_peopleOf wsX2_peopleOf) := goodIn_app (goodIn_of _ (by decide +kernel)) ggX5_more_X2_peopleOf
set_option maxRecDepth 20000 in
theorem ggX5_more_X5_within : GoodIn wsX5_more wsX5_within := goodIn_r _ [14] (by decide +kernel) (by decide +kernel)
set_option maxRecDepth 20000 in
theorem gX5_more_X5_within : GoodIn wsX5_more (va_wsS RX5 49 yX5_within wsX5_within) := goodIn_app (goodIn_of _ (by decide +kernel)) ggX5_more_X5_within
set_option maxRecDepth 20000 in
theorem ggX5_more_X2_excessOf : GoodIn wsX5_more wsX2_excessOf := goodIn_r _ [18, 9, 19, 20, 42, 43, 44, 45, 46] (by decide +kernel) (by decide +kernel)
set_option maxRecDepth 20000 in
theorem gX5_more_X2_excessOf : GoodIn wsX5_more (wsV RX5 87 RX2 yX2_excessOf wsX2_excessOf) := goodIn_app (goodIn_of _ (by decide +kernel)) ggX5_more_X2_excessOf
set_option maxRecDepth 20000 in
theorem ggX5_more_X5_inLeastTerms : GoodIn wsX5_more wsX5_inLeastTerms := goodIn_r _ [23, 24, 25, 26, 27, 3, 28, 29, 13, 30] (by decide +kernel) (by decide +kernel)
set_option maxRecDepth 20000 in
theorem gX5_more_X5_inLeastTerms : GoodIn wsX5_more (va_wsS RX5 90 yX5_inLeastTerms wsX5_inLeastTerms) := goodIn_app (goodIn_of _ (by decide +kernel)) ggX5_more_X5_inLeastTerms
theorem dX5_more_0 : decode cX5_more 0 = .ok (.aload_n 0, 1) := by decide +kernel
theorem dX5_more_1 : decode cX5_more 1 = .ok (.getfield 10, 3) := by decide +kernel
theorem dX5_more_4 : decode cX5_more 4 = .ok (.getfield 53, 3) := by decide +kernel
theorem dX5_more_7 : decode cX5_more 7 = .ok (.iload_n 1, 1) := by decide +kernel
theorem dX5_more_8 : decode cX5_more 8 = .ok (.invokevirtual 82, 3) := by decide +kernel
theorem dX5_more_11 : decode cX5_more 11 = .ok (.istore_n 3, 1) := by decide +kernel
theorem dX5_more_12 : decode cX5_more 12 = .ok (.iload_n 2, 1) := by decide +kernel
theorem dX5_more_13 : decode cX5_more 13 = .ok (.iconst 0, 1) := by decide +kernel
theorem dX5_more_14 : decode cX5_more 14 = .ok (.iconst 1, 1) := by decide +kernel
theorem dX5_more_15 : decode cX5_more 15 = .ok (.invokestatic 49, 3) := by decide +kernel
theorem dX5_more_18 : decode cX5_more 18 = .ok (.ifCond .eq 7, 3) := by decide +kernel
theorem dX5_more_21 : decode cX5_more 21 = .ok (.iload_n 3, 1) := by decide +kernel
theorem dX5_more_22 : decode cX5_more 22 = .ok (.ifCond .ne 6, 3) := by decide +kernel
theorem dX5_more_25 : decode cX5_more 25 = .ok (.ldc 86, 2) := by decide +kernel
theorem dX5_more_27 : decode cX5_more 27 = .ok (.ireturn, 1) := by decide +kernel
theorem dX5_more_28 : decode cX5_more 28 = .ok (.aload_n 0, 1) := by decide +kernel
theorem dX5_more_29 : decode cX5_more 29 = .ok (.getfield 10, 3) := by decide +kernel
theorem dX5_more_32 : decode cX5_more 32 = .ok (.getfield 53, 3) := by decide +kernel
theorem dX5_more_35 : decode cX5_more 35 = .ok (.iload_n 1, 1) := by decide +kernel
theorem dX5_more_36 : decode cX5_more 36 = .ok (.invokevirtual 87, 3) := by decide +kernel
theorem dX5_more_39 : decode cX5_more 39 = .ok (.iload_n 3, 1) := by decide +kernel
theorem dX5_more_40 : decode cX5_more 40 = .ok (.iload_n 2, 1) := by decide +kernel
theorem dX5_more_41 : decode cX5_more 41 = .ok (.invokestatic 90, 3) := by decide +kernel
theorem dX5_more_44 : decode cX5_more 44 = .ok (.ireturn, 1) := by decide +kernel
set_option maxRecDepth 20000 in
theorem ggX5_luck_X2_has : GoodIn wsX5_luck wsX2_has := goodIn_r _ [7, 8, 37, 38, 39, 40, 41] (by decide +kernel) (by decide +kernel)
set_option maxRecDepth 20000 in
theorem gX5_luck_X2_has : GoodIn wsX5_luck (wsV RX5 65 RX2 yX2_has wsX2_has) := goodIn_app (goodIn_of _ (by decide +kernel)) ggX5_luck_X2_has
set_option maxRecDepth 20000 in
theorem ggX5_luck_X5_within : GoodIn wsX5_luck wsX5_within := goodIn_r _ [12] (by decide +kernel) (by decide +kernel)
set_option maxRecDepth 20000 in
theorem gX5_luck_X5_within : GoodIn wsX5_luck (va_wsS RX5 49 yX5_within wsX5_within) := goodIn_app (goodIn_of _ (by decide +kernel)) ggX5_luck_X5_within
set_option maxRecDepth 20000 in
theorem ggX5_luck_X2_waysOfLuck : GoodIn wsX5_luck wsX2_waysOfLuck := goodIn_r _ [16, 17, 18, 19, 20, 11, 21, 37, 38, 39, 40, 41] (by decide +kernel) (by decide +kernel)
set_option maxRecDepth 20000 in
theorem gX5_luck_X2_waysOfLuck : GoodIn wsX5_luck (wsV RX5 94 RX2 yX2_waysOfLuck wsX2_waysOfLuck) := goodIn_app (goodIn_of _ (by decide +kernel)) ggX5_luck_X2_waysOfLuck
set_option maxRecDepth 20000 in
theorem ggX5_luck_X2_allWaysOfLuck : GoodIn wsX5_luck wsX2_allWaysOfLuck := goodIn_r _ [25, 17, 20, 11, 21, 37, 38, 39, 40, 41] (by decide +kernel) (by decide +kernel)
set_option maxRecDepth 20000 in
theorem gX5_luck_X2_allWaysOfLuck : GoodIn wsX5_luck (wsV RX5 97 RX2 yX2_allWaysOfLuck wsX2_allWaysOfLuck) := goodIn_app (goodIn_of _ (by decide +kernel)) ggX5_luck_X2_allWaysOfLuck
theorem dX5_luck_0 : decode cX5_luck 0 = .ok (.aload_n 0, 1) := by decide +kernel
theorem dX5_luck_1 : decode cX5_luck 1 = .ok (.getfield 10, 3) := by decide +kernel
theorem dX5_luck_4 : decode cX5_luck 4 = .ok (.getfield 53, 3) := by decide +kernel
theorem dX5_luck_7 : decode cX5_luck 7 = .ok (.iload_n 1, 1) := by decide +kernel
theorem dX5_luck_8 : decode cX5_luck 8 = .ok (.invokevirtual 65, 3) := by decide +kernel
theorem dX5_luck_11 : decode cX5_luck 11 = .ok (.ifCond .eq 12, 3) := by decide +kernel
theorem dX5_luck_14 : decode cX5_luck 14 = .ok (.iload_n 2, 1) := by decide +kernel
theorem dX5_luck_15 : decode cX5_luck 15 = .ok (.iconst 0, 1) := by decide +kernel
theorem dX5_luck_16 : decode cX5_luck 16 = .ok (.iconst 1, 1) := by decide +kernel
theorem dX5_luck_17 : decode cX5_luck 17 = .ok (.invokestatic 49, 3) := by decide +kernel
theorem dX5_luck_20 : decode cX5_luck 20 = .ok (.ifCond .ne 5, 3) := by decide +kernel
theorem dX5_luck_23 : decode cX5_luck 23 = .ok (.iconst (-1), 1) := by decide +kernel
theorem dX5_luck_24 : decode cX5_luck 24 = .ok (.ireturn, 1) := by decide +kernel
theorem dX5_luck_25 : decode cX5_luck 25 = .ok (.iload_n 2, 1) := by decide +kernel
theorem dX5_luck_26 : decode cX5_luck 26 = .ok (.ifCond .ne 17, 3) := by decide +kernel
theorem dX5_luck_29 : decode cX5_luck 29 = .ok (.aload_n 0, 1) := by decide +kernel
theorem dX5_luck_30 : decode cX5_luck 30 = .ok (.getfield 10, 3) := by decide +kernel
theorem dX5_luck_33 : decode cX5_luck 33 = .ok (.getfield 53, 3) := by decide +kernel
theorem dX5_luck_36 : decode cX5_luck 36 = .ok (.iload_n 1, 1) := by decide +kernel
theorem dX5_luck_37 : decode cX5_luck 37 = .ok (.invokevirtual 94, 3) := by decide +kernel
theorem dX5_luck_40 : decode cX5_luck 40 = .ok (.goto 14, 3) := by decide +kernel
theorem dX5_luck_43 : decode cX5_luck 43 = .ok (.aload_n 0, 1) := by decide +kernel
theorem dX5_luck_44 : decode cX5_luck 44 = .ok (.getfield 10, 3) := by decide +kernel
theorem dX5_luck_47 : decode cX5_luck 47 = .ok (.getfield 53, 3) := by decide +kernel
theorem dX5_luck_50 : decode cX5_luck 50 = .ok (.iload_n 1, 1) := by decide +kernel
theorem dX5_luck_51 : decode cX5_luck 51 = .ok (.invokevirtual 97, 3) := by decide +kernel
theorem dX5_luck_54 : decode cX5_luck 54 = .ok (.ireturn, 1) := by decide +kernel
set_option maxRecDepth 20000 in
theorem ggX5_can_X5_within : GoodIn wsX5_can wsX5_within := goodIn_r _ [4] (by decide +kernel) (by decide +kernel)
set_option maxRecDepth 20000 in
theorem gX5_can_X5_within : GoodIn wsX5_can (va_wsS RX5 49 yX5_within wsX5_within) := goodIn_app (goodIn_of _ (by decide +kernel)) ggX5_can_X5_within
theorem dX5_can_0 : decode cX5_can 0 = .ok (.iload_n 1, 1) := by decide +kernel
theorem dX5_can_1 : decode cX5_can 1 = .ok (.iconst 0, 1) := by decide +kernel
theorem dX5_can_2 : decode cX5_can 2 = .ok (.bipush 100, 2) := by decide +kernel
theorem dX5_can_4 : decode cX5_can 4 = .ok (.invokestatic 49, 3) := by decide +kernel
theorem dX5_can_7 : decode cX5_can 7 = .ok (.ifCond .eq 13, 3) := by decide +kernel
theorem dX5_can_10 : decode cX5_can 10 = .ok (.iload_n 2, 1) := by decide +kernel
theorem dX5_can_11 : decode cX5_can 11 = .ok (.iconst 1, 1) := by decide +kernel
theorem dX5_can_12 : decode cX5_can 12 = .ok (.bipush 99, 2) := by decide +kernel
theorem dX5_can_14 : decode cX5_can 14 = .ok (.invokestatic 49, 3) := by decide +kernel
theorem dX5_can_17 : decode cX5_can 17 = .ok (.ifCond .ne 5, 3) := by decide +kernel
theorem dX5_can_20 : decode cX5_can 20 = .ok (.iconst (-1), 1) := by decide +kernel
theorem dX5_can_21 : decode cX5_can 21 = .ok (.ireturn, 1) := by decide +kernel
theorem dX5_can_22 : decode cX5_can 22 = .ok (.iconst 0, 1) := by decide +kernel
theorem dX5_can_23 : decode cX5_can 23 = .ok (.istore_n 3, 1) := by decide +kernel
theorem dX5_can_24 : decode cX5_can 24 = .ok (.iload_n 3, 1) := by decide +kernel
theorem dX5_can_25 : decode cX5_can 25 = .ok (.iload_n 2, 1) := by decide +kernel
theorem dX5_can_26 : decode cX5_can 26 = .ok (.if_icmp .gt 26, 3) := by decide +kernel
theorem dX5_can_29 : decode cX5_can 29 = .ok (.sipush 200, 3) := by decide +kernel
theorem dX5_can_32 : decode cX5_can 32 = .ok (.iload_n 3, 1) := by decide +kernel
theorem dX5_can_33 : decode cX5_can 33 = .ok (.imul, 1) := by decide +kernel
theorem dX5_can_34 : decode cX5_can 34 = .ok (.iload_n 2, 1) := by decide +kernel
theorem dX5_can_35 : decode cX5_can 35 = .ok (.iadd, 1) := by decide +kernel
theorem dX5_can_36 : decode cX5_can 36 = .ok (.iconst 2, 1) := by decide +kernel
theorem dX5_can_37 : decode cX5_can 37 = .ok (.iload_n 2, 1) := by decide +kernel
theorem dX5_can_38 : decode cX5_can 38 = .ok (.imul, 1) := by decide +kernel
theorem dX5_can_39 : decode cX5_can 39 = .ok (.idiv, 1) := by decide +kernel
theorem dX5_can_40 : decode cX5_can 40 = .ok (.iload_n 1, 1) := by decide +kernel
theorem dX5_can_41 : decode cX5_can 41 = .ok (.if_icmp .ne 5, 3) := by decide +kernel
theorem dX5_can_44 : decode cX5_can 44 = .ok (.iconst 1, 1) := by decide +kernel
theorem dX5_can_45 : decode cX5_can 45 = .ok (.ireturn, 1) := by decide +kernel
theorem dX5_can_46 : decode cX5_can 46 = .ok (.iinc 3 1, 3) := by decide +kernel
theorem dX5_can_49 : decode cX5_can 49 = .ok (.goto (-25), 3) := by decide +kernel
theorem dX5_can_52 : decode cX5_can 52 = .ok (.iconst 0, 1) := by decide +kernel
theorem dX5_can_53 : decode cX5_can 53 = .ok (.ireturn, 1) := by decide +kernel
set_option maxRecDepth 20000 in
theorem ggX5_same_X2_alikePairs : GoodIn wsX5_same wsX2_alikePairs := goodIn_r _ [7, 8, 9, 10, 11, 6, 12, 13, 14, 15, 16, 17, 18, 19, 31, 32, 33, 34, 35] (by decide +kernel) (by decide +kernel)
set_option maxRecDepth 20000 in
theorem gX5_same_X2_alikePairs : GoodIn wsX5_same (wsV RX5 100 RX2 yX2_alikePairs wsX2_alikePairs) := goodIn_app (goodIn_of _ (by decide +kernel)) ggX5_same_X2_alikePairs
theorem dX5_same_0 : decode cX5_same 0 = .ok (.aload_n 0, 1) := by decide +kernel
theorem dX5_same_1 : decode cX5_same 1 = .ok (.getfield 10, 3) := by decide +kernel
theorem dX5_same_4 : decode cX5_same 4 = .ok (.getfield 53, 3) := by decide +kernel
theorem dX5_same_7 : decode cX5_same 7 = .ok (.invokevirtual 100, 3) := by decide +kernel
theorem dX5_same_10 : decode cX5_same 10 = .ok (.ireturn, 1) := by decide +kernel
set_option maxRecDepth 20000 in
theorem ggX5_without_X2_leftOut : GoodIn wsX5_without wsX2_leftOut := goodIn_r _ [8, 9, 10, 11, 12, 13, 14, 15, 16, 17, 7, 18, 19, 20, 21, 22, 23, 24, 25, 26, 27, 28, 29, 41, 42, 43, 44, 45] (by decide +kernel) (by decide +kernel)
set_option maxRecDepth 20000 in
theorem gX5_without_X2_leftOut : GoodIn wsX5_without (wsV RX5 107 RX2 yX2_leftOut wsX2_leftOut) := goodIn_app (goodIn_of _ (by decide +kernel)) ggX5_without_X2_leftOut
theorem dX5_without_0 : decode cX5_without 0 = .ok (.aload_n 0, 1) := by decide +kernel
theorem dX5_without_1 : decode cX5_without 1 = .ok (.getfield 10, 3) := by decide +kernel
theorem dX5_without_4 : decode cX5_without 4 = .ok (.getfield 53, 3) := by decide +kernel
theorem dX5_without_7 : decode cX5_without 7 = .ok (.getfield 104, 3) := by decide +kernel
theorem dX5_without_10 : decode cX5_without 10 = .ok (.iconst 2, 1) := by decide +kernel
theorem dX5_without_11 : decode cX5_without 11 = .ok (.if_icmp .ge 8, 3) := by decide +kernel
theorem dX5_without_14 : decode cX5_without 14 = .ok (.bipush (-9), 2) := by decide +kernel
theorem dX5_without_16 : decode cX5_without 16 = .ok (.goto 13, 3) := by decide +kernel
theorem dX5_without_19 : decode cX5_without 19 = .ok (.aload_n 0, 1) := by decide +kernel
theorem dX5_without_20 : decode cX5_without 20 = .ok (.getfield 10, 3) := by decide +kernel
theorem dX5_without_23 : decode cX5_without 23 = .ok (.getfield 53, 3) := by decide +kernel
theorem dX5_without_26 : decode cX5_without 26 = .ok (.invokevirtual 107, 3) := by decide +kernel
theorem dX5_without_29 : decode cX5_without 29 = .ok (.ireturn, 1) := by decide +kernel
set_option maxRecDepth 20000 in
theorem ggX5_between_X5_within : GoodIn wsX5_between wsX5_within := goodIn_r _ [7] (by decide +kernel) (by decide +kernel)
set_option maxRecDepth 20000 in
theorem gX5_between_X5_within : GoodIn wsX5_between (va_wsS RX5 49 yX5_within wsX5_within) := goodIn_app (goodIn_of _ (by decide +kernel)) ggX5_between_X5_within
set_option maxRecDepth 20000 in
theorem ggX5_between_X2_isParted : GoodIn wsX5_between wsX2_isParted := goodIn_r _ [12, 13, 14, 15, 11, 16, 17, 18, 19, 20, 21, 22, 64, 65, 66, 67, 68] (by decide +kernel) (by decide +kernel)
set_option maxRecDepth 20000 in
theorem gX5_between_X2_isParted : GoodIn wsX5_between (wsV RX5 110 RX2 yX2_isParted wsX2_isParted) := goodIn_app (goodIn_of _ (by decide +kernel)) ggX5_between_X2_isParted
set_option maxRecDepth 20000 in
theorem ggX5_between_X2_having : GoodIn wsX5_between wsX2_having := goodIn_r _ [16, 17, 18, 64, 65, 66, 67, 68] (by decide +kernel) (by decide +kernel)
set_option maxRecDepth 20000 in
theorem gX5_between_X2_having : GoodIn wsX5_between (wsV RX5 113 RX2 yX2_having wsX2_having) := goodIn_app (goodIn_of _ (by decide +kernel)) ggX5_between_X2_having
set_option maxRecDepth 20000 in
theorem ggX5_between_X2_gapUpper : GoodIn wsX5_between wsX2_gapUpper := goodIn_r _ [27, 28, 29, 30, 11, 31, 17, 32, 33, 19, 20, 21, 22, 34, 35, 36, 37, 38, 64, 65, 66, 67, 68] (by decide +kernel) (by decide +kernel)
set_option maxRecDepth 20000 in
theorem gX5_between_X2_gapUpper : GoodIn wsX5_between (wsV RX5 116 RX2 yX2_gapUpper wsX2_gapUpper) := goodIn_app (goodIn_of _ (by decide +kernel)) ggX5_between_X2_gapUpper
set_option maxRecDepth 20000 in
theorem ggX5_between_X2_gapLower : GoodIn wsX5_between wsX2_gapLower := goodIn_r _ [42, 34, 35, 36, 11, 37, 17, 38, 19, 20, 21, 22, 64, 65, 66, 67, 68] (by decide +kernel) (by decide +kernel)
set_option maxRecDepth 20000 in
theorem gX5_between_X2_gapLower : GoodIn wsX5_between (wsV RX5 119 RX2 yX2_gapLower wsX2_gapLower) := goodIn_app (goodIn_of _ (by decide +kernel)) ggX5_between_X2_gapLower
set_option maxRecDepth 20000 in
theorem ggX5_between_X5_inLeastTerms : GoodIn wsX5_between wsX5_inLeastTerms := goodIn_r _ [45, 46, 47, 48, 49, 3, 50, 51, 6, 52] (by decide +kernel) (by decide +kernel)
set_option maxRecDepth 20000 in
theorem gX5_between_X5_inLeastTerms : GoodIn wsX5_between (va_wsS RX5 90 yX5_inLeastTerms wsX5_inLeastTerms) := goodIn_app (goodIn_of _ (by decide +kernel)) ggX5_between_X5_inLeastTerms
theorem dX5_between_0 : decode cX5_between 0 = .ok (.iload_n 1, 1) := by decide +kernel
theorem dX5_between_1 : decode cX5_between 1 = .ok (.iconst 0, 1) := by decide +kernel
theorem dX5_between_2 : decode cX5_between 2 = .ok (.iconst 5, 1) := by decide +kernel
theorem dX5_between_3 : decode cX5_between 3 = .ok (.invokestatic 49, 3) := by decide +kernel
theorem dX5_between_6 : decode cX5_between 6 = .ok (.ifCond .eq 26, 3) := by decide +kernel
theorem dX5_between_9 : decode cX5_between 9 = .ok (.iload_n 2, 1) := by decide +kernel
theorem dX5_between_10 : decode cX5_between 10 = .ok (.iconst 0, 1) := by decide +kernel
theorem dX5_between_11 : decode cX5_between 11 = .ok (.iconst 1, 1) := by decide +kernel
theorem dX5_between_12 : decode cX5_between 12 = .ok (.invokestatic 49, 3) := by decide +kernel
theorem dX5_between_15 : decode cX5_between 15 = .ok (.ifCond .eq 17, 3) := by decide +kernel
theorem dX5_between_18 : decode cX5_between 18 = .ok (.aload_n 0, 1) := by decide +kernel
theorem dX5_between_19 : decode cX5_between 19 = .ok (.getfield 10, 3) := by decide +kernel
theorem dX5_between_22 : decode cX5_between 22 = .ok (.getfield 53, 3) := by decide +kernel
theorem dX5_between_25 : decode cX5_between 25 = .ok (.iload_n 1, 1) := by decide +kernel
theorem dX5_between_26 : decode cX5_between 26 = .ok (.invokevirtual 110, 3) := by decide +kernel
theorem dX5_between_29 : decode cX5_between 29 = .ok (.ifCond .ne 6, 3) := by decide +kernel
theorem dX5_between_32 : decode cX5_between 32 = .ok (.ldc 86, 2) := by decide +kernel
theorem dX5_between_34 : decode cX5_between 34 = .ok (.ireturn, 1) := by decide +kernel
theorem dX5_between_35 : decode cX5_between 35 = .ok (.aload_n 0, 1) := by decide +kernel
theorem dX5_between_36 : decode cX5_between 36 = .ok (.getfield 10, 3) := by decide +kernel
theorem dX5_between_39 : decode cX5_between 39 = .ok (.getfield 53, 3) := by decide +kernel
theorem dX5_between_42 : decode cX5_between 42 = .ok (.iload_n 1, 1) := by decide +kernel
theorem dX5_between_43 : decode cX5_between 43 = .ok (.invokevirtual 113, 3) := by decide +kernel
theorem dX5_between_46 : decode cX5_between 46 = .ok (.istore_n 3, 1) := by decide +kernel
theorem dX5_between_47 : decode cX5_between 47 = .ok (.aload_n 0, 1) := by decide +kernel
theorem dX5_between_48 : decode cX5_between 48 = .ok (.getfield 10, 3) := by decide +kernel
theorem dX5_between_51 : decode cX5_between 51 = .ok (.getfield 53, 3) := by decide +kernel
theorem dX5_between_54 : decode cX5_between 54 = .ok (.iload_n 3, 1) := by decide +kernel
theorem dX5_between_55 : decode cX5_between 55 = .ok (.invokevirtual 116, 3) := by decide +kernel
theorem dX5_between_58 : decode cX5_between 58 = .ok (.aload_n 0, 1) := by decide +kernel
theorem dX5_between_59 : decode cX5_between 59 = .ok (.getfield 10, 3) := by decide +kernel
theorem dX5_between_62 : decode cX5_between 62 = .ok (.getfield 53, 3) := by decide +kernel
theorem dX5_between_65 : decode cX5_between 65 = .ok (.iload_n 3, 1) := by decide +kernel
theorem dX5_between_66 : decode cX5_between 66 = .ok (.invokevirtual 119, 3) := by decide +kernel
theorem dX5_between_69 : decode cX5_between 69 = .ok (.iload_n 2, 1) := by decide +kernel
theorem dX5_between_70 : decode cX5_between 70 = .ok (.invokestatic 90, 3) := by decide +kernel
theorem dX5_between_73 : decode cX5_between 73 = .ok (.ireturn, 1) := by decide +kernel
set_option maxRecDepth 20000 in
theorem ggX5_priced_X5_within : GoodIn wsX5_priced wsX5_within := goodIn_r _ [7] (by decide +kernel) (by decide +kernel)
set_option maxRecDepth 20000 in
theorem gX5_priced_X5_within : GoodIn wsX5_priced (va_wsS RX5 49 yX5_within wsX5_within) := goodIn_app (goodIn_of _ (by decide +kernel)) ggX5_priced_X5_within
set_option maxRecDepth 20000 in
theorem ggX5_priced_X2_isParted : GoodIn wsX5_priced wsX2_isParted := goodIn_r _ [12, 13, 14, 15, 11, 16, 17, 18, 19, 20, 21, 22, 74, 75, 76, 77, 78] (by decide +kernel) (by decide +kernel)
set_option maxRecDepth 20000 in
theorem gX5_priced_X2_isParted : GoodIn wsX5_priced (wsV RX5 110 RX2 yX2_isParted wsX2_isParted) := goodIn_app (goodIn_of _ (by decide +kernel)) ggX5_priced_X2_isParted
set_option maxRecDepth 20000 in
theorem ggX5_priced_X2_having : GoodIn wsX5_priced wsX2_having := goodIn_r _ [16, 17, 18, 74, 75, 76, 77, 78] (by decide +kernel) (by decide +kernel)
set_option maxRecDepth 20000 in
theorem gX5_priced_X2_having : GoodIn wsX5_priced (wsV RX5 113 RX2 yX2_having wsX2_having) := goodIn_app (goodIn_of _ (by decide +kernel)) ggX5_priced_X2_having
set_option maxRecDepth 20000 in
theorem ggX5_priced_X2_setsWithGapOf : GoodIn wsX5_priced wsX2_setsWithGapOf := goodIn_r _ [27, 28, 29, 30, 31, 32, 33, 34, 35, 36, 37, 11, 38, 39, 40, 41, 42, 17, 43, 44, 19, 20, 21, 22, 45, 46, 47, 48, 49, 50, 51, 52, 53, 74, 75, 76, 77, 78] (by decide +kernel) (by decide +kernel)
set_option maxRecDepth 20000 in
theorem gX5_priced_X2_setsWithGapOf : GoodIn wsX5_priced (wsV RX5 122 RX2 yX2_setsWithGapOf wsX2_setsWithGapOf) := goodIn_app (goodIn_of _ (by decide +kernel)) ggX5_priced_X2_setsWithGapOf
set_option maxRecDepth 20000 in
theorem ggX5_priced_J6_bitCount_0f7a4 : GoodIn wsX5_priced wsJ6_bitCount_0f7a4 := goodIn_r _ [31, 32, 33, 34] (by decide +kernel) (by decide +kernel)
set_option maxRecDepth 20000 in
theorem gX5_priced_J6_bitCount_0f7a4 : GoodIn wsX5_priced (va_wsS RX5 125 yJ6_bitCount_0f7a4 wsJ6_bitCount_0f7a4) := goodIn_app (goodIn_of _ (by decide +kernel)) ggX5_priced_J6_bitCount_0f7a4
set_option maxRecDepth 20000 in
theorem ggX5_priced_X5_choose : GoodIn wsX5_priced wsX5_choose := goodIn_r _ [57] (by decide +kernel) (by decide +kernel)
set_option maxRecDepth 20000 in
theorem gX5_priced_X5_choose : GoodIn wsX5_priced (va_wsS RX5 130 yX5_choose wsX5_choose) := goodIn_app (goodIn_of _ (by decide +kernel)) ggX5_priced_X5_choose
set_option maxRecDepth 20000 in
theorem ggX5_priced_X2_conditionsWithGapOf : GoodIn wsX5_priced wsX2_conditionsWithGapOf := goodIn_r _ [61, 35, 36, 37, 11, 38, 39, 40, 41, 42, 17, 43, 44, 19, 20, 21, 22, 45, 46, 47, 48, 49, 50, 51, 52, 53, 13, 14, 15, 16, 18, 62, 9, 10, 12, 74, 75, 76, 77, 78] (by decide +kernel) (by decide +kernel)
set_option maxRecDepth 20000 in
theorem gX5_priced_X2_conditionsWithGapOf : GoodIn wsX5_priced (wsV RX5 134 RX2 yX2_conditionsWithGapOf wsX2_conditionsWithGapOf) := goodIn_app (goodIn_of _ (by decide +kernel)) ggX5_priced_X2_conditionsWithGapOf
theorem dX5_priced_0 : decode cX5_priced 0 = .ok (.iload_n 1, 1) := by decide +kernel
theorem dX5_priced_1 : decode cX5_priced 1 = .ok (.iconst 0, 1) := by decide +kernel
theorem dX5_priced_2 : decode cX5_priced 2 = .ok (.iconst 5, 1) := by decide +kernel
theorem dX5_priced_3 : decode cX5_priced 3 = .ok (.invokestatic 49, 3) := by decide +kernel
theorem dX5_priced_6 : decode cX5_priced 6 = .ok (.ifCond .eq 12, 3) := by decide +kernel
theorem dX5_priced_9 : decode cX5_priced 9 = .ok (.iload_n 2, 1) := by decide +kernel
theorem dX5_priced_10 : decode cX5_priced 10 = .ok (.iconst 0, 1) := by decide +kernel
theorem dX5_priced_11 : decode cX5_priced 11 = .ok (.iconst 2, 1) := by decide +kernel
theorem dX5_priced_12 : decode cX5_priced 12 = .ok (.invokestatic 49, 3) := by decide +kernel
theorem dX5_priced_15 : decode cX5_priced 15 = .ok (.ifCond .ne 5, 3) := by decide +kernel
theorem dX5_priced_18 : decode cX5_priced 18 = .ok (.iconst (-1), 1) := by decide +kernel
theorem dX5_priced_19 : decode cX5_priced 19 = .ok (.ireturn, 1) := by decide +kernel
theorem dX5_priced_20 : decode cX5_priced 20 = .ok (.aload_n 0, 1) := by decide +kernel
theorem dX5_priced_21 : decode cX5_priced 21 = .ok (.getfield 10, 3) := by decide +kernel
theorem dX5_priced_24 : decode cX5_priced 24 = .ok (.getfield 53, 3) := by decide +kernel
theorem dX5_priced_27 : decode cX5_priced 27 = .ok (.iload_n 1, 1) := by decide +kernel
theorem dX5_priced_28 : decode cX5_priced 28 = .ok (.invokevirtual 110, 3) := by decide +kernel
theorem dX5_priced_31 : decode cX5_priced 31 = .ok (.ifCond .ne 6, 3) := by decide +kernel
theorem dX5_priced_34 : decode cX5_priced 34 = .ok (.bipush (-2), 2) := by decide +kernel
theorem dX5_priced_36 : decode cX5_priced 36 = .ok (.ireturn, 1) := by decide +kernel
theorem dX5_priced_37 : decode cX5_priced 37 = .ok (.aload_n 0, 1) := by decide +kernel
theorem dX5_priced_38 : decode cX5_priced 38 = .ok (.getfield 10, 3) := by decide +kernel
theorem dX5_priced_41 : decode cX5_priced 41 = .ok (.getfield 53, 3) := by decide +kernel
theorem dX5_priced_44 : decode cX5_priced 44 = .ok (.iload_n 1, 1) := by decide +kernel
theorem dX5_priced_45 : decode cX5_priced 45 = .ok (.invokevirtual 113, 3) := by decide +kernel
theorem dX5_priced_48 : decode cX5_priced 48 = .ok (.istore_n 3, 1) := by decide +kernel
theorem dX5_priced_49 : decode cX5_priced 49 = .ok (.iload_n 2, 1) := by decide +kernel
theorem dX5_priced_50 : decode cX5_priced 50 = .ok (.lookupswitch 57 #[(0, 26), (1, 38)], 26) := by decide +kernel
theorem dX5_priced_76 : decode cX5_priced 76 = .ok (.aload_n 0, 1) := by decide +kernel
theorem dX5_priced_77 : decode cX5_priced 77 = .ok (.getfield 10, 3) := by decide +kernel
theorem dX5_priced_80 : decode cX5_priced 80 = .ok (.getfield 53, 3) := by decide +kernel
theorem dX5_priced_83 : decode cX5_priced 83 = .ok (.iload_n 3, 1) := by decide +kernel
theorem dX5_priced_84 : decode cX5_priced 84 = .ok (.invokevirtual 122, 3) := by decide +kernel
theorem dX5_priced_87 : decode cX5_priced 87 = .ok (.ireturn, 1) := by decide +kernel
theorem dX5_priced_88 : decode cX5_priced 88 = .ok (.aload_n 0, 1) := by decide +kernel
theorem dX5_priced_89 : decode cX5_priced 89 = .ok (.getfield 10, 3) := by decide +kernel
theorem dX5_priced_92 : decode cX5_priced 92 = .ok (.getfield 53, 3) := by decide +kernel
theorem dX5_priced_95 : decode cX5_priced 95 = .ok (.getfield 104, 3) := by decide +kernel
theorem dX5_priced_98 : decode cX5_priced 98 = .ok (.iload_n 3, 1) := by decide +kernel
theorem dX5_priced_99 : decode cX5_priced 99 = .ok (.invokestatic 125, 3) := by decide +kernel
theorem dX5_priced_102 : decode cX5_priced 102 = .ok (.invokestatic 130, 3) := by decide +kernel
theorem dX5_priced_105 : decode cX5_priced 105 = .ok (.l2i, 1) := by decide +kernel
theorem dX5_priced_106 : decode cX5_priced 106 = .ok (.ireturn, 1) := by decide +kernel
theorem dX5_priced_107 : decode cX5_priced 107 = .ok (.aload_n 0, 1) := by decide +kernel
theorem dX5_priced_108 : decode cX5_priced 108 = .ok (.getfield 10, 3) := by decide +kernel
theorem dX5_priced_111 : decode cX5_priced 111 = .ok (.getfield 53, 3) := by decide +kernel
theorem dX5_priced_114 : decode cX5_priced 114 = .ok (.iload_n 3, 1) := by decide +kernel
theorem dX5_priced_115 : decode cX5_priced 115 = .ok (.invokevirtual 134, 3) := by decide +kernel
theorem dX5_priced_118 : decode cX5_priced 118 = .ok (.ireturn, 1) := by decide +kernel
set_option maxRecDepth 20000 in
theorem ggX5_type_X5_within : GoodIn wsX5_type wsX5_within := goodIn_r _ [6] (by decide +kernel) (by decide +kernel)
set_option maxRecDepth 20000 in
theorem gX5_type_X5_within : GoodIn wsX5_type (va_wsS RX5 49 yX5_within wsX5_within) := goodIn_app (goodIn_of _ (by decide +kernel)) ggX5_type_X5_within
set_option maxRecDepth 20000 in
theorem ggX5_type_X4_append : GoodIn wsX5_type wsX4_append := goodIn_r _ [11, 12, 13, 22, 23, 24, 25, 26, 27] (by decide +kernel) (by decide +kernel)
set_option maxRecDepth 20000 in
theorem gX5_type_X4_append : GoodIn wsX5_type (wsV RX5 140 RX4 yX4_append wsX4_append) := goodIn_app (goodIn_of _ (by decide +kernel)) ggX5_type_X4_append
theorem dX5_type_0 : decode cX5_type 0 = .ok (.iload_n 3, 1) := by decide +kernel
theorem dX5_type_1 : decode cX5_type 1 = .ok (.iconst 1, 1) := by decide +kernel
theorem dX5_type_2 : decode cX5_type 2 = .ok (.bipush 8, 2) := by decide +kernel
theorem dX5_type_4 : decode cX5_type 4 = .ok (.invokestatic 49, 3) := by decide +kernel
theorem dX5_type_7 : decode cX5_type 7 = .ok (.ifCond .ne 5, 3) := by decide +kernel
theorem dX5_type_10 : decode cX5_type 10 = .ok (.iconst (-1), 1) := by decide +kernel
theorem dX5_type_11 : decode cX5_type 11 = .ok (.ireturn, 1) := by decide +kernel
theorem dX5_type_12 : decode cX5_type 12 = .ok (.aload_n 0, 1) := by decide +kernel
theorem dX5_type_13 : decode cX5_type 13 = .ok (.getfield 25, 3) := by decide +kernel
theorem dX5_type_16 : decode cX5_type 16 = .ok (.getfield 137, 3) := by decide +kernel
theorem dX5_type_19 : decode cX5_type 19 = .ok (.iload_n 3, 1) := by decide +kernel
theorem dX5_type_20 : decode cX5_type 20 = .ok (.iadd, 1) := by decide +kernel
theorem dX5_type_21 : decode cX5_type 21 = .ok (.sipush 300, 3) := by decide +kernel
theorem dX5_type_24 : decode cX5_type 24 = .ok (.if_icmp .le 8, 3) := by decide +kernel
theorem dX5_type_27 : decode cX5_type 27 = .ok (.bipush (-3), 2) := by decide +kernel
theorem dX5_type_29 : decode cX5_type 29 = .ok (.goto 12, 3) := by decide +kernel
theorem dX5_type_32 : decode cX5_type 32 = .ok (.aload_n 0, 1) := by decide +kernel
theorem dX5_type_33 : decode cX5_type 33 = .ok (.getfield 25, 3) := by decide +kernel
theorem dX5_type_36 : decode cX5_type 36 = .ok (.lload_n 1, 1) := by decide +kernel
theorem dX5_type_37 : decode cX5_type 37 = .ok (.iload_n 3, 1) := by decide +kernel
theorem dX5_type_38 : decode cX5_type 38 = .ok (.invokevirtual 140, 3) := by decide +kernel
theorem dX5_type_41 : decode cX5_type 41 = .ok (.ireturn, 1) := by decide +kernel
theorem dX5_clear_0 : decode cX5_clear 0 = .ok (.aload_n 0, 1) := by decide +kernel
theorem dX5_clear_1 : decode cX5_clear 1 = .ok (.getfield 25, 3) := by decide +kernel
theorem dX5_clear_4 : decode cX5_clear 4 = .ok (.getfield 137, 3) := by decide +kernel
theorem dX5_clear_7 : decode cX5_clear 7 = .ok (.istore_n 1, 1) := by decide +kernel
theorem dX5_clear_8 : decode cX5_clear 8 = .ok (.aload_n 0, 1) := by decide +kernel
theorem dX5_clear_9 : decode cX5_clear 9 = .ok (.getfield 25, 3) := by decide +kernel
theorem dX5_clear_12 : decode cX5_clear 12 = .ok (.iconst 0, 1) := by decide +kernel
theorem dX5_clear_13 : decode cX5_clear 13 = .ok (.putfield 137, 3) := by decide +kernel
theorem dX5_clear_16 : decode cX5_clear 16 = .ok (.iload_n 1, 1) := by decide +kernel
theorem dX5_clear_17 : decode cX5_clear 17 = .ok (.ireturn, 1) := by decide +kernel
set_option maxRecDepth 20000 in
theorem ggX5_laws_X4_readInto : GoodIn wsX5_laws wsX4_readInto := goodIn_r _ [10, 11, 12, 13, 14, 15, 16, 17, 18, 19, 9, 20, 21, 22, 23, 24, 25, 26, 27, 28, 29, 30, 31, 32, 33, 34, 35, 36, 37, 38, 39, 40, 41, 42, 43, 44, 45, 46, 47, 48, 49, 50, 51, 52, 53, 54, 55, 56, 57, 58, 59, 60, 61, 62, 63, 64, 65, 66, 67, 68, 69, 70, 71, 72, 73, 74, 75, 76, 77, 78, 79, 80, 81, 82, 83, 84, 85, 86, 87, 88, 89, 90, 91, 92, 93, 94, 95, 96, 97, 98, 99, 100, 101, 102, 103, 104, 105, 106, 107, 108, 109, 110, 111, 112, 113, 114, 115, 116, 117, 118, 119, 120, 135, 136, 137, 138, 139, 129, 130, 131, 132, 133, 134] (by decide +kernel) (by decide +kernel)
set_option maxRecDepth 20000 in
theorem gX5_laws_X4_readInto : GoodIn wsX5_laws (wsV RX5 144 RX4 yX4_readInto wsX4_readInto) := goodIn_app (goodIn_of _ (by decide +kernel)) ggX5_laws_X4_readInto
theorem dX5_laws_0 : decode cX5_laws 0 = .ok (.aload_n 0, 1) := by decide +kernel
theorem dX5_laws_1 : decode cX5_laws 1 = .ok (.getfield 25, 3) := by decide +kernel
theorem dX5_laws_4 : decode cX5_laws 4 = .ok (.aload_n 0, 1) := by decide +kernel
theorem dX5_laws_5 : decode cX5_laws 5 = .ok (.getfield 36, 3) := by decide +kernel
theorem dX5_laws_8 : decode cX5_laws 8 = .ok (.invokevirtual 144, 3) := by decide +kernel
theorem dX5_laws_11 : decode cX5_laws 11 = .ok (.istore_n 1, 1) := by decide +kernel
theorem dX5_laws_12 : decode cX5_laws 12 = .ok (.iload_n 1, 1) := by decide +kernel
theorem dX5_laws_13 : decode cX5_laws 13 = .ok (.iconst (-1), 1) := by decide +kernel
theorem dX5_laws_14 : decode cX5_laws 14 = .ok (.if_icmp .eq 8, 3) := by decide +kernel
theorem dX5_laws_17 : decode cX5_laws 17 = .ok (.bipush (-10), 2) := by decide +kernel
theorem dX5_laws_19 : decode cX5_laws 19 = .ok (.iload_n 1, 1) := by decide +kernel
theorem dX5_laws_20 : decode cX5_laws 20 = .ok (.isub, 1) := by decide +kernel
theorem dX5_laws_21 : decode cX5_laws 21 = .ok (.ireturn, 1) := by decide +kernel
theorem dX5_laws_22 : decode cX5_laws 22 = .ok (.aload_n 0, 1) := by decide +kernel
theorem dX5_laws_23 : decode cX5_laws 23 = .ok (.getfield 32, 3) := by decide +kernel
theorem dX5_laws_26 : decode cX5_laws 26 = .ok (.astore_n 2, 1) := by decide +kernel
theorem dX5_laws_27 : decode cX5_laws 27 = .ok (.aload_n 0, 1) := by decide +kernel
theorem dX5_laws_28 : decode cX5_laws 28 = .ok (.aload_n 0, 1) := by decide +kernel
theorem dX5_laws_29 : decode cX5_laws 29 = .ok (.getfield 36, 3) := by decide +kernel
theorem dX5_laws_32 : decode cX5_laws 32 = .ok (.putfield 32, 3) := by decide +kernel
theorem dX5_laws_35 : decode cX5_laws 35 = .ok (.aload_n 0, 1) := by decide +kernel
theorem dX5_laws_36 : decode cX5_laws 36 = .ok (.aload_n 2, 1) := by decide +kernel
theorem dX5_laws_37 : decode cX5_laws 37 = .ok (.putfield 36, 3) := by decide +kernel
theorem dX5_laws_40 : decode cX5_laws 40 = .ok (.aload_n 0, 1) := by decide +kernel
theorem dX5_laws_41 : decode cX5_laws 41 = .ok (.getfield 25, 3) := by decide +kernel
theorem dX5_laws_44 : decode cX5_laws 44 = .ok (.iconst 0, 1) := by decide +kernel
theorem dX5_laws_45 : decode cX5_laws 45 = .ok (.putfield 137, 3) := by decide +kernel
theorem dX5_laws_48 : decode cX5_laws 48 = .ok (.aload_n 0, 1) := by decide +kernel
theorem dX5_laws_49 : decode cX5_laws 49 = .ok (.getfield 32, 3) := by decide +kernel
theorem dX5_laws_52 : decode cX5_laws 52 = .ok (.getfield 148, 3) := by decide +kernel
theorem dX5_laws_55 : decode cX5_laws 55 = .ok (.ireturn, 1) := by decide +kernel
set_option maxRecDepth 20000 in
theorem ggX5_tenths_X3_has : GoodIn wsX5_tenths wsX3_has := goodIn_r _ [7, 8, 28, 29, 30, 31, 32] (by decide +kernel) (by decide +kernel)
set_option maxRecDepth 20000 in
theorem gX5_tenths_X3_has : GoodIn wsX5_tenths (wsV RX5 149 RX3 yX3_has wsX3_has) := goodIn_app (goodIn_of _ (by decide +kernel)) ggX5_tenths_X3_has
set_option maxRecDepth 20000 in
theorem ggX5_tenths_X5_within : GoodIn wsX5_tenths wsX5_within := goodIn_r _ [12] (by decide +kernel) (by decide +kernel)
set_option maxRecDepth 20000 in
theorem gX5_tenths_X5_within : GoodIn wsX5_tenths (va_wsS RX5 49 yX5_within wsX5_within) := goodIn_app (goodIn_of _ (by decide +kernel)) ggX5_tenths_X5_within
set_option maxRecDepth 20000 in
theorem ggX5_tenths_X3_tenthsWith : GoodIn wsX5_tenths wsX3_tenthsWith := goodIn_r _ [16, 17, 18, 19, 28, 29, 30, 31, 32] (by decide +kernel) (by decide +kernel)
set_option maxRecDepth 20000 in
theorem gX5_tenths_X3_tenthsWith : GoodIn wsX5_tenths (wsV RX5 150 RX3 yX3_tenthsWith wsX3_tenthsWith) := goodIn_app (goodIn_of _ (by decide +kernel)) ggX5_tenths_X3_tenthsWith
theorem dX5_tenths_0 : decode cX5_tenths 0 = .ok (.aload_n 0, 1) := by decide +kernel
theorem dX5_tenths_1 : decode cX5_tenths 1 = .ok (.getfield 32, 3) := by decide +kernel
theorem dX5_tenths_4 : decode cX5_tenths 4 = .ok (.iload_n 1, 1) := by decide +kernel
theorem dX5_tenths_5 : decode cX5_tenths 5 = .ok (.invokevirtual 149, 3) := by decide +kernel
theorem dX5_tenths_8 : decode cX5_tenths 8 = .ok (.ifCond .eq 22, 3) := by decide +kernel
theorem dX5_tenths_11 : decode cX5_tenths 11 = .ok (.iload_n 2, 1) := by decide +kernel
theorem dX5_tenths_12 : decode cX5_tenths 12 = .ok (.iconst 0, 1) := by decide +kernel
theorem dX5_tenths_13 : decode cX5_tenths 13 = .ok (.bipush 63, 2) := by decide +kernel
theorem dX5_tenths_15 : decode cX5_tenths 15 = .ok (.invokestatic 49, 3) := by decide +kernel
theorem dX5_tenths_18 : decode cX5_tenths 18 = .ok (.ifCond .eq 12, 3) := by decide +kernel
theorem dX5_tenths_21 : decode cX5_tenths 21 = .ok (.iload_n 3, 1) := by decide +kernel
theorem dX5_tenths_22 : decode cX5_tenths 22 = .ok (.iconst 0, 1) := by decide +kernel
theorem dX5_tenths_23 : decode cX5_tenths 23 = .ok (.iconst 1, 1) := by decide +kernel
theorem dX5_tenths_24 : decode cX5_tenths 24 = .ok (.invokestatic 49, 3) := by decide +kernel
theorem dX5_tenths_27 : decode cX5_tenths 27 = .ok (.ifCond .ne 5, 3) := by decide +kernel
theorem dX5_tenths_30 : decode cX5_tenths 30 = .ok (.iconst (-1), 1) := by decide +kernel
theorem dX5_tenths_31 : decode cX5_tenths 31 = .ok (.ireturn, 1) := by decide +kernel
theorem dX5_tenths_32 : decode cX5_tenths 32 = .ok (.iload_n 3, 1) := by decide +kernel
theorem dX5_tenths_33 : decode cX5_tenths 33 = .ok (.ifCond .ne 15, 3) := by decide +kernel
theorem dX5_tenths_36 : decode cX5_tenths 36 = .ok (.aload_n 0, 1) := by decide +kernel
theorem dX5_tenths_37 : decode cX5_tenths 37 = .ok (.getfield 32, 3) := by decide +kernel
theorem dX5_tenths_40 : decode cX5_tenths 40 = .ok (.iload_n 1, 1) := by decide +kernel
theorem dX5_tenths_41 : decode cX5_tenths 41 = .ok (.iload_n 2, 1) := by decide +kernel
theorem dX5_tenths_42 : decode cX5_tenths 42 = .ok (.invokevirtual 150, 3) := by decide +kernel
theorem dX5_tenths_45 : decode cX5_tenths 45 = .ok (.goto 12, 3) := by decide +kernel
theorem dX5_tenths_48 : decode cX5_tenths 48 = .ok (.aload_n 0, 1) := by decide +kernel
theorem dX5_tenths_49 : decode cX5_tenths 49 = .ok (.getfield 32, 3) := by decide +kernel
theorem dX5_tenths_52 : decode cX5_tenths 52 = .ok (.getfield 154, 3) := by decide +kernel
theorem dX5_tenths_55 : decode cX5_tenths 55 = .ok (.iload_n 1, 1) := by decide +kernel
theorem dX5_tenths_56 : decode cX5_tenths 56 = .ok (.iaload, 1) := by decide +kernel
theorem dX5_tenths_57 : decode cX5_tenths 57 = .ok (.ireturn, 1) := by decide +kernel
set_option maxRecDepth 20000 in
theorem ggX5_misfit_X3_has : GoodIn wsX5_misfit wsX3_has := goodIn_r _ [8, 9, 42, 43, 44, 45, 46] (by decide +kernel) (by decide +kernel)
set_option maxRecDepth 20000 in
theorem gX5_misfit_X3_has : GoodIn wsX5_misfit (wsV RX5 149 RX3 yX3_has wsX3_has) := goodIn_app (goodIn_of _ (by decide +kernel)) ggX5_misfit_X3_has
set_option maxRecDepth 20000 in
theorem ggX5_misfit_X3_misfitOf : GoodIn wsX5_misfit wsX3_misfitOf := goodIn_r _ [13, 14, 15, 16, 17, 18, 19, 20, 21, 22, 23, 24, 25, 26, 7, 27, 28, 29, 30, 47, 48, 49, 50, 51, 42, 43, 44, 45, 46] (by decide +kernel) (by decide +kernel)
set_option maxRecDepth 20000 in
theorem gX5_misfit_X3_misfitOf : GoodIn wsX5_misfit (wsV RX5 157 RX3 yX3_misfitOf wsX3_misfitOf) := goodIn_app (goodIn_of _ (by decide +kernel)) ggX5_misfit_X3_misfitOf
theorem dX5_misfit_0 : decode cX5_misfit 0 = .ok (.aload_n 0, 1) := by decide +kernel
theorem dX5_misfit_1 : decode cX5_misfit 1 = .ok (.getfield 32, 3) := by decide +kernel
theorem dX5_misfit_4 : decode cX5_misfit 4 = .ok (.iload_n 1, 1) := by decide +kernel
theorem dX5_misfit_5 : decode cX5_misfit 5 = .ok (.invokevirtual 149, 3) := by decide +kernel
theorem dX5_misfit_8 : decode cX5_misfit 8 = .ok (.ifCond .eq 21, 3) := by decide +kernel
theorem dX5_misfit_11 : decode cX5_misfit 11 = .ok (.aload_n 0, 1) := by decide +kernel
theorem dX5_misfit_12 : decode cX5_misfit 12 = .ok (.getfield 32, 3) := by decide +kernel
theorem dX5_misfit_15 : decode cX5_misfit 15 = .ok (.iload_n 1, 1) := by decide +kernel
theorem dX5_misfit_16 : decode cX5_misfit 16 = .ok (.aload_n 0, 1) := by decide +kernel
theorem dX5_misfit_17 : decode cX5_misfit 17 = .ok (.getfield 10, 3) := by decide +kernel
theorem dX5_misfit_20 : decode cX5_misfit 20 = .ok (.getfield 53, 3) := by decide +kernel
theorem dX5_misfit_23 : decode cX5_misfit 23 = .ok (.invokevirtual 157, 3) := by decide +kernel
theorem dX5_misfit_26 : decode cX5_misfit 26 = .ok (.goto 4, 3) := by decide +kernel
theorem dX5_misfit_29 : decode cX5_misfit 29 = .ok (.iconst (-1), 1) := by decide +kernel
theorem dX5_misfit_30 : decode cX5_misfit 30 = .ok (.ireturn, 1) := by decide +kernel
set_option maxRecDepth 20000 in
theorem ggX5_best_X5_within : GoodIn wsX5_best wsX5_within := goodIn_r _ [9] (by decide +kernel) (by decide +kernel)
set_option maxRecDepth 20000 in
theorem gX5_best_X5_within : GoodIn wsX5_best (va_wsS RX5 49 yX5_within wsX5_within) := goodIn_app (goodIn_of _ (by decide +kernel)) ggX5_best_X5_within
set_option maxRecDepth 20000 in
theorem ggX5_best_X3_closestTo : GoodIn wsX5_best wsX3_closestTo := goodIn_r _ [14, 15, 16, 17, 18, 13, 19, 20, 21, 22, 23, 24, 25, 26, 27, 28, 29, 30, 31, 32, 33, 34, 35, 36, 66, 67, 68, 69, 70, 74, 75, 76, 77, 78] (by decide +kernel) (by decide +kernel)
set_option maxRecDepth 20000 in
theorem gX5_best_X3_closestTo : GoodIn wsX5_best (wsV RX5 161 RX3 yX3_closestTo wsX3_closestTo) := goodIn_app (goodIn_of _ (by decide +kernel)) ggX5_best_X3_closestTo
set_option maxRecDepth 20000 in
theorem ggX5_best_X3_possible : GoodIn wsX5_best wsX3_possible := goodIn_r _ [40, 15, 41, 11, 12, 13, 14, 16, 17, 18, 19, 20, 21, 22, 23, 24, 25, 26, 27, 28, 29, 30, 31, 32, 33, 34, 35, 36, 66, 67, 68, 69, 70, 74, 75, 76, 77, 78] (by decide +kernel) (by decide +kernel)
set_option maxRecDepth 20000 in
theorem gX5_best_X3_possible : GoodIn wsX5_best (wsV RX5 165 RX3 yX3_possible wsX3_possible) := goodIn_app (goodIn_of _ (by decide +kernel)) ggX5_best_X3_possible
set_option maxRecDepth 20000 in
theorem ggX5_best_X3_nextToTry : GoodIn wsX5_best wsX3_nextToTry := goodIn_r _ [45, 46, 47, 48, 13, 49, 50, 51, 26, 52, 53, 54, 55, 56, 15, 30, 31, 32, 33, 34, 35, 36, 66, 67, 68, 69, 70] (by decide +kernel) (by decide +kernel)
set_option maxRecDepth 20000 in
theorem gX5_best_X3_nextToTry : GoodIn wsX5_best (wsV RX5 169 RX3 yX3_nextToTry wsX3_nextToTry) := goodIn_app (goodIn_of _ (by decide +kernel)) ggX5_best_X3_nextToTry
set_option maxRecDepth 20000 in
theorem ggX5_best_X3_greatestHeap : GoodIn wsX5_best wsX3_greatestHeap := goodIn_r _ [49, 50, 51, 26, 52, 53, 54, 55, 13, 56, 15, 30, 31, 32, 33, 34, 35, 36, 66, 67, 68, 69, 70] (by decide +kernel) (by decide +kernel)
set_option maxRecDepth 20000 in
theorem gX5_best_X3_greatestHeap : GoodIn wsX5_best (wsV RX5 172 RX3 yX3_greatestHeap wsX3_greatestHeap) := goodIn_app (goodIn_of _ (by decide +kernel)) ggX5_best_X3_greatestHeap
theorem dX5_best_0 : decode cX5_best 0 = .ok (.iload_n 1, 1) := by decide +kernel
theorem dX5_best_1 : decode cX5_best 1 = .ok (.iconst 0, 1) := by decide +kernel
theorem dX5_best_2 : decode cX5_best 2 = .ok (.iconst 3, 1) := by decide +kernel
theorem dX5_best_3 : decode cX5_best 3 = .ok (.invokestatic 49, 3) := by decide +kernel
theorem dX5_best_6 : decode cX5_best 6 = .ok (.ifCond .ne 5, 3) := by decide +kernel
theorem dX5_best_9 : decode cX5_best 9 = .ok (.iconst (-1), 1) := by decide +kernel
theorem dX5_best_10 : decode cX5_best 10 = .ok (.ireturn, 1) := by decide +kernel
theorem dX5_best_11 : decode cX5_best 11 = .ok (.aload_n 0, 1) := by decide +kernel
theorem dX5_best_12 : decode cX5_best 12 = .ok (.getfield 32, 3) := by decide +kernel
theorem dX5_best_15 : decode cX5_best 15 = .ok (.getfield 148, 3) := by decide +kernel
theorem dX5_best_18 : decode cX5_best 18 = .ok (.ifCond .ne 15, 3) := by decide +kernel
theorem dX5_best_21 : decode cX5_best 21 = .ok (.iload_n 1, 1) := by decide +kernel
theorem dX5_best_22 : decode cX5_best 22 = .ok (.iconst 1, 1) := by decide +kernel
theorem dX5_best_23 : decode cX5_best 23 = .ok (.if_icmp .ne 7, 3) := by decide +kernel
theorem dX5_best_26 : decode cX5_best 26 = .ok (.iconst 0, 1) := by decide +kernel
theorem dX5_best_27 : decode cX5_best 27 = .ok (.goto 5, 3) := by decide +kernel
theorem dX5_best_30 : decode cX5_best 30 = .ok (.bipush (-9), 2) := by decide +kernel
theorem dX5_best_32 : decode cX5_best 32 = .ok (.ireturn, 1) := by decide +kernel
theorem dX5_best_33 : decode cX5_best 33 = .ok (.iload_n 1, 1) := by decide +kernel
theorem dX5_best_34 : decode cX5_best 34 = .ok (.ifCond .ne 18, 3) := by decide +kernel
theorem dX5_best_37 : decode cX5_best 37 = .ok (.aload_n 0, 1) := by decide +kernel
theorem dX5_best_38 : decode cX5_best 38 = .ok (.getfield 32, 3) := by decide +kernel
theorem dX5_best_41 : decode cX5_best 41 = .ok (.aload_n 0, 1) := by decide +kernel
theorem dX5_best_42 : decode cX5_best 42 = .ok (.getfield 10, 3) := by decide +kernel
theorem dX5_best_45 : decode cX5_best 45 = .ok (.getfield 53, 3) := by decide +kernel
theorem dX5_best_48 : decode cX5_best 48 = .ok (.invokevirtual 161, 3) := by decide +kernel
theorem dX5_best_51 : decode cX5_best 51 = .ok (.ireturn, 1) := by decide +kernel
theorem dX5_best_52 : decode cX5_best 52 = .ok (.aload_n 0, 1) := by decide +kernel
theorem dX5_best_53 : decode cX5_best 53 = .ok (.getfield 32, 3) := by decide +kernel
theorem dX5_best_56 : decode cX5_best 56 = .ok (.aload_n 0, 1) := by decide +kernel
theorem dX5_best_57 : decode cX5_best 57 = .ok (.getfield 10, 3) := by decide +kernel
theorem dX5_best_60 : decode cX5_best 60 = .ok (.getfield 53, 3) := by decide +kernel
theorem dX5_best_63 : decode cX5_best 63 = .ok (.aload_n 0, 1) := by decide +kernel
theorem dX5_best_64 : decode cX5_best 64 = .ok (.getfield 39, 3) := by decide +kernel
theorem dX5_best_67 : decode cX5_best 67 = .ok (.invokevirtual 165, 3) := by decide +kernel
theorem dX5_best_70 : decode cX5_best 70 = .ok (.istore_n 2, 1) := by decide +kernel
theorem dX5_best_71 : decode cX5_best 71 = .ok (.iload_n 1, 1) := by decide +kernel
theorem dX5_best_72 : decode cX5_best 72 = .ok (.iconst 1, 1) := by decide +kernel
theorem dX5_best_73 : decode cX5_best 73 = .ok (.if_icmp .ne 5, 3) := by decide +kernel
theorem dX5_best_76 : decode cX5_best 76 = .ok (.iload_n 2, 1) := by decide +kernel
theorem dX5_best_77 : decode cX5_best 77 = .ok (.ireturn, 1) := by decide +kernel
theorem dX5_best_78 : decode cX5_best 78 = .ok (.aload_n 0, 1) := by decide +kernel
theorem dX5_best_79 : decode cX5_best 79 = .ok (.getfield 32, 3) := by decide +kernel
theorem dX5_best_82 : decode cX5_best 82 = .ok (.iload_n 2, 1) := by decide +kernel
theorem dX5_best_83 : decode cX5_best 83 = .ok (.invokevirtual 169, 3) := by decide +kernel
theorem dX5_best_86 : decode cX5_best 86 = .ok (.istore_n 3, 1) := by decide +kernel
theorem dX5_best_87 : decode cX5_best 87 = .ok (.iload_n 1, 1) := by decide +kernel
theorem dX5_best_88 : decode cX5_best 88 = .ok (.iconst 2, 1) := by decide +kernel
theorem dX5_best_89 : decode cX5_best 89 = .ok (.if_icmp .ne 7, 3) := by decide +kernel
theorem dX5_best_92 : decode cX5_best 92 = .ok (.iload_n 3, 1) := by decide +kernel
theorem dX5_best_93 : decode cX5_best 93 = .ok (.goto 12, 3) := by decide +kernel
theorem dX5_best_96 : decode cX5_best 96 = .ok (.aload_n 0, 1) := by decide +kernel
theorem dX5_best_97 : decode cX5_best 97 = .ok (.getfield 32, 3) := by decide +kernel
theorem dX5_best_100 : decode cX5_best 100 = .ok (.iload_n 2, 1) := by decide +kernel
theorem dX5_best_101 : decode cX5_best 101 = .ok (.iload_n 3, 1) := by decide +kernel
theorem dX5_best_102 : decode cX5_best 102 = .ok (.invokevirtual 172, 3) := by decide +kernel
theorem dX5_best_105 : decode cX5_best 105 = .ok (.ireturn, 1) := by decide +kernel
set_option maxRecDepth 20000 in
theorem ggX5_span_X5_within : GoodIn wsX5_span wsX5_within := goodIn_r _ [5] (by decide +kernel) (by decide +kernel)
set_option maxRecDepth 20000 in
theorem gX5_span_X5_within : GoodIn wsX5_span (va_wsS RX5 49 yX5_within wsX5_within) := goodIn_app (goodIn_of _ (by decide +kernel)) ggX5_span_X5_within
theorem dX5_span_0 : decode cX5_span 0 = .ok (.iload_n 1, 1) := by decide +kernel
theorem dX5_span_1 : decode cX5_span 1 = .ok (.iconst 0, 1) := by decide +kernel
theorem dX5_span_2 : decode cX5_span 2 = .ok (.sipush 999, 3) := by decide +kernel
theorem dX5_span_5 : decode cX5_span 5 = .ok (.invokestatic 49, 3) := by decide +kernel
theorem dX5_span_8 : decode cX5_span 8 = .ok (.ifCond .ne 5, 3) := by decide +kernel
theorem dX5_span_11 : decode cX5_span 11 = .ok (.iconst (-1), 1) := by decide +kernel
theorem dX5_span_12 : decode cX5_span 12 = .ok (.ireturn, 1) := by decide +kernel
theorem dX5_span_13 : decode cX5_span 13 = .ok (.aload_n 0, 1) := by decide +kernel
theorem dX5_span_14 : decode cX5_span 14 = .ok (.getfield 39, 3) := by decide +kernel
theorem dX5_span_17 : decode cX5_span 17 = .ok (.istore_n 2, 1) := by decide +kernel
theorem dX5_span_18 : decode cX5_span 18 = .ok (.aload_n 0, 1) := by decide +kernel
theorem dX5_span_19 : decode cX5_span 19 = .ok (.iload_n 1, 1) := by decide +kernel
theorem dX5_span_20 : decode cX5_span 20 = .ok (.putfield 39, 3) := by decide +kernel
theorem dX5_span_23 : decode cX5_span 23 = .ok (.iload_n 2, 1) := by decide +kernel
theorem dX5_span_24 : decode cX5_span 24 = .ok (.ireturn, 1) := by decide +kernel
set_option maxRecDepth 20000 in
theorem ggX5_sure_X5_areTenths : GoodIn wsX5_sure wsX5_areTenths := goodIn_r _ [5, 6, 7, 4, 8] (by decide +kernel) (by decide +kernel)
set_option maxRecDepth 20000 in
theorem gX5_sure_X5_areTenths : GoodIn wsX5_sure (va_wsS RX5 175 yX5_areTenths wsX5_areTenths) := goodIn_app (goodIn_of _ (by decide +kernel)) ggX5_sure_X5_areTenths
set_option maxRecDepth 20000 in
theorem ggX5_sure_X5_within : GoodIn wsX5_sure wsX5_within := goodIn_r _ [8] (by decide +kernel) (by decide +kernel)
set_option maxRecDepth 20000 in
theorem gX5_sure_X5_within : GoodIn wsX5_sure (va_wsS RX5 49 yX5_within wsX5_within) := goodIn_app (goodIn_of _ (by decide +kernel)) ggX5_sure_X5_within
set_option maxRecDepth 20000 in
theorem ggX5_sure_X5_isDistance : GoodIn wsX5_sure wsX5_isDistance := goodIn_r _ [11, 6, 7, 4, 8] (by decide +kernel) (by decide +kernel)
set_option maxRecDepth 20000 in
theorem gX5_sure_X5_isDistance : GoodIn wsX5_sure (va_wsS RX5 179 yX5_isDistance wsX5_isDistance) := goodIn_app (goodIn_of _ (by decide +kernel)) ggX5_sure_X5_isDistance
set_option maxRecDepth 20000 in
theorem ggX5_sure_X5_sureRows : GoodIn wsX5_sure wsX5_sureRows := goodIn_r _ [14, 15, 16, 4, 17, 18, 19, 20, 21, 22, 23] (by decide +kernel) (by decide +kernel)
set_option maxRecDepth 20000 in
theorem gX5_sure_X5_sureRows : GoodIn wsX5_sure (va_wsS RX5 182 yX5_sureRows wsX5_sureRows) := goodIn_app (goodIn_of _ (by decide +kernel)) ggX5_sure_X5_sureRows
theorem dX5_sure_0 : decode cX5_sure 0 = .ok (.iload_n 1, 1) := by decide +kernel
theorem dX5_sure_1 : decode cX5_sure 1 = .ok (.iload_n 2, 1) := by decide +kernel
theorem dX5_sure_2 : decode cX5_sure 2 = .ok (.invokestatic 175, 3) := by decide +kernel
theorem dX5_sure_5 : decode cX5_sure 5 = .ok (.ifCond .eq 32, 3) := by decide +kernel
theorem dX5_sure_8 : decode cX5_sure 8 = .ok (.iload_n 3, 1) := by decide +kernel
theorem dX5_sure_9 : decode cX5_sure 9 = .ok (.iconst 1, 1) := by decide +kernel
theorem dX5_sure_10 : decode cX5_sure 10 = .ok (.bipush 9, 2) := by decide +kernel
theorem dX5_sure_12 : decode cX5_sure 12 = .ok (.invokestatic 49, 3) := by decide +kernel
theorem dX5_sure_15 : decode cX5_sure 15 = .ok (.ifCond .eq 22, 3) := by decide +kernel
theorem dX5_sure_18 : decode cX5_sure 18 = .ok (.iload 4, 2) := by decide +kernel
theorem dX5_sure_20 : decode cX5_sure 20 = .ok (.invokestatic 179, 3) := by decide +kernel
theorem dX5_sure_23 : decode cX5_sure 23 = .ok (.ifCond .eq 14, 3) := by decide +kernel
theorem dX5_sure_26 : decode cX5_sure 26 = .ok (.iload_n 1, 1) := by decide +kernel
theorem dX5_sure_27 : decode cX5_sure 27 = .ok (.iload_n 2, 1) := by decide +kernel
theorem dX5_sure_28 : decode cX5_sure 28 = .ok (.iload_n 3, 1) := by decide +kernel
theorem dX5_sure_29 : decode cX5_sure 29 = .ok (.iload 4, 2) := by decide +kernel
theorem dX5_sure_31 : decode cX5_sure 31 = .ok (.invokestatic 182, 3) := by decide +kernel
theorem dX5_sure_34 : decode cX5_sure 34 = .ok (.goto 6, 3) := by decide +kernel
theorem dX5_sure_37 : decode cX5_sure 37 = .ok (.ldc2_w 186, 3) := by decide +kernel
theorem dX5_sure_40 : decode cX5_sure 40 = .ok (.lreturn, 1) := by decide +kernel
set_option maxRecDepth 20000 in
theorem ggX5_need_X5_areTenths : GoodIn wsX5_need wsX5_areTenths := goodIn_r _ [4, 5, 6, 3, 7] (by decide +kernel) (by decide +kernel)
set_option maxRecDepth 20000 in
theorem gX5_need_X5_areTenths : GoodIn wsX5_need (va_wsS RX5 175 yX5_areTenths wsX5_areTenths) := goodIn_app (goodIn_of _ (by decide +kernel)) ggX5_need_X5_areTenths
set_option maxRecDepth 20000 in
theorem ggX5_need_X5_isDistance : GoodIn wsX5_need wsX5_isDistance := goodIn_r _ [10, 5, 6, 3, 7] (by decide +kernel) (by decide +kernel)
set_option maxRecDepth 20000 in
theorem gX5_need_X5_isDistance : GoodIn wsX5_need (va_wsS RX5 179 yX5_isDistance wsX5_isDistance) := goodIn_app (goodIn_of _ (by decide +kernel)) ggX5_need_X5_isDistance
set_option maxRecDepth 20000 in
theorem ggX5_need_X5_within : GoodIn wsX5_need wsX5_within := goodIn_r _ [7] (by decide +kernel) (by decide +kernel)
set_option maxRecDepth 20000 in
theorem gX5_need_X5_within : GoodIn wsX5_need (va_wsS RX5 49 yX5_within wsX5_within) := goodIn_app (goodIn_of _ (by decide +kernel)) ggX5_need_X5_within
set_option maxRecDepth 20000 in
theorem ggX5_need_X5_sureRows : GoodIn wsX5_need wsX5_sureRows := goodIn_r _ [13, 14, 15, 3, 16, 17, 18, 19, 20, 21, 22] (by decide +kernel) (by decide +kernel)
set_option maxRecDepth 20000 in
theorem gX5_need_X5_sureRows : GoodIn wsX5_need (va_wsS RX5 182 yX5_sureRows wsX5_sureRows) := goodIn_app (goodIn_of _ (by decide +kernel)) ggX5_need_X5_sureRows
set_option maxRecDepth 20000 in
theorem ggX5_need_X5_power : GoodIn wsX5_need wsX5_power := goodIn_r _ [22] (by decide +kernel) (by decide +kernel)
set_option maxRecDepth 20000 in
theorem gX5_need_X5_power : GoodIn wsX5_need (va_wsS RX5 188 yX5_power wsX5_power) := goodIn_app (goodIn_of _ (by decide +kernel)) ggX5_need_X5_power
theorem dX5_need_0 : decode cX5_need 0 = .ok (.iload_n 1, 1) := by decide +kernel
theorem dX5_need_1 : decode cX5_need 1 = .ok (.iload_n 2, 1) := by decide +kernel
theorem dX5_need_2 : decode cX5_need 2 = .ok (.invokestatic 175, 3) := by decide +kernel
theorem dX5_need_5 : decode cX5_need 5 = .ok (.ifCond .eq 21, 3) := by decide +kernel
theorem dX5_need_8 : decode cX5_need 8 = .ok (.iload_n 3, 1) := by decide +kernel
theorem dX5_need_9 : decode cX5_need 9 = .ok (.invokestatic 179, 3) := by decide +kernel
theorem dX5_need_12 : decode cX5_need 12 = .ok (.ifCond .eq 14, 3) := by decide +kernel
theorem dX5_need_15 : decode cX5_need 15 = .ok (.iload 4, 2) := by decide +kernel
theorem dX5_need_17 : decode cX5_need 17 = .ok (.iconst 1, 1) := by decide +kernel
theorem dX5_need_18 : decode cX5_need 18 = .ok (.bipush 100, 2) := by decide +kernel
theorem dX5_need_20 : decode cX5_need 20 = .ok (.invokestatic 49, 3) := by decide +kernel
theorem dX5_need_23 : decode cX5_need 23 = .ok (.ifCond .ne 5, 3) := by decide +kernel
theorem dX5_need_26 : decode cX5_need 26 = .ok (.iconst (-1), 1) := by decide +kernel
theorem dX5_need_27 : decode cX5_need 27 = .ok (.ireturn, 1) := by decide +kernel
theorem dX5_need_28 : decode cX5_need 28 = .ok (.iconst 1, 1) := by decide +kernel
theorem dX5_need_29 : decode cX5_need 29 = .ok (.istore 5, 2) := by decide +kernel
theorem dX5_need_31 : decode cX5_need 31 = .ok (.iload 5, 2) := by decide +kernel
theorem dX5_need_33 : decode cX5_need 33 = .ok (.bipush 9, 2) := by decide +kernel
theorem dX5_need_35 : decode cX5_need 35 = .ok (.if_icmp .gt 39, 3) := by decide +kernel
theorem dX5_need_38 : decode cX5_need 38 = .ok (.iload_n 1, 1) := by decide +kernel
theorem dX5_need_39 : decode cX5_need 39 = .ok (.iload_n 2, 1) := by decide +kernel
theorem dX5_need_40 : decode cX5_need 40 = .ok (.iload 5, 2) := by decide +kernel
theorem dX5_need_42 : decode cX5_need 42 = .ok (.iload_n 3, 1) := by decide +kernel
theorem dX5_need_43 : decode cX5_need 43 = .ok (.invokestatic 182, 3) := by decide +kernel
theorem dX5_need_46 : decode cX5_need 46 = .ok (.iload 4, 2) := by decide +kernel
theorem dX5_need_48 : decode cX5_need 48 = .ok (.i2l, 1) := by decide +kernel
theorem dX5_need_49 : decode cX5_need 49 = .ok (.bipush 10, 2) := by decide +kernel
theorem dX5_need_51 : decode cX5_need 51 = .ok (.iconst 2, 1) := by decide +kernel
theorem dX5_need_52 : decode cX5_need 52 = .ok (.iload 5, 2) := by decide +kernel
theorem dX5_need_54 : decode cX5_need 54 = .ok (.imul, 1) := by decide +kernel
theorem dX5_need_55 : decode cX5_need 55 = .ok (.iconst 2, 1) := by decide +kernel
theorem dX5_need_56 : decode cX5_need 56 = .ok (.isub, 1) := by decide +kernel
theorem dX5_need_57 : decode cX5_need 57 = .ok (.invokestatic 188, 3) := by decide +kernel
theorem dX5_need_60 : decode cX5_need 60 = .ok (.lmul, 1) := by decide +kernel
theorem dX5_need_61 : decode cX5_need 61 = .ok (.lcmp, 1) := by decide +kernel
theorem dX5_need_62 : decode cX5_need 62 = .ok (.ifCond .lt 6, 3) := by decide +kernel
theorem dX5_need_65 : decode cX5_need 65 = .ok (.iload 5, 2) := by decide +kernel
theorem dX5_need_67 : decode cX5_need 67 = .ok (.ireturn, 1) := by decide +kernel
theorem dX5_need_68 : decode cX5_need 68 = .ok (.iinc 5 1, 3) := by decide +kernel
theorem dX5_need_71 : decode cX5_need 71 = .ok (.goto (-40), 3) := by decide +kernel
theorem dX5_need_74 : decode cX5_need 74 = .ok (.bipush (-9), 2) := by decide +kernel
theorem dX5_need_76 : decode cX5_need 76 = .ok (.ireturn, 1) := by decide +kernel
set_option maxRecDepth 20000 in
theorem ggX5_finding_X5_within : GoodIn wsX5_finding wsX5_within := goodIn_r _ [6] (by decide +kernel) (by decide +kernel)
set_option maxRecDepth 20000 in
theorem gX5_finding_X5_within : GoodIn wsX5_finding (va_wsS RX5 49 yX5_within wsX5_within) := goodIn_app (goodIn_of _ (by decide +kernel)) ggX5_finding_X5_within
set_option maxRecDepth 20000 in
theorem ggX5_finding_X1_isFull : GoodIn wsX5_finding wsX1_isFull := goodIn_r _ [11, 12, 32, 33, 34, 35, 36] (by decide +kernel) (by decide +kernel)
set_option maxRecDepth 20000 in
theorem gX5_finding_X1_isFull : GoodIn wsX5_finding (wsV RX5 195 RX1 yX1_isFull wsX1_isFull) := goodIn_app (goodIn_of _ (by decide +kernel)) ggX5_finding_X1_isFull
set_option maxRecDepth 20000 in
theorem ggX5_finding_X1_add : GoodIn wsX5_finding wsX1_add := goodIn_r _ [16, 17, 12, 18, 19, 20, 32, 33, 34, 35, 36] (by decide +kernel) (by decide +kernel)
set_option maxRecDepth 20000 in
theorem gX5_finding_X1_add : GoodIn wsX5_finding (wsV RX5 198 RX1 yX1_add wsX1_add) := goodIn_app (goodIn_of _ (by decide +kernel)) ggX5_finding_X1_add
theorem dX5_finding_0 : decode cX5_finding 0 = .ok (.iload_n 1, 1) := by decide +kernel
theorem dX5_finding_1 : decode cX5_finding 1 = .ok (.iconst 0, 1) := by decide +kernel
theorem dX5_finding_2 : decode cX5_finding 2 = .ok (.bipush 100, 2) := by decide +kernel
theorem dX5_finding_4 : decode cX5_finding 4 = .ok (.invokestatic 49, 3) := by decide +kernel
theorem dX5_finding_7 : decode cX5_finding 7 = .ok (.ifCond .eq 22, 3) := by decide +kernel
theorem dX5_finding_10 : decode cX5_finding 10 = .ok (.iload_n 2, 1) := by decide +kernel
theorem dX5_finding_11 : decode cX5_finding 11 = .ok (.iconst 0, 1) := by decide +kernel
theorem dX5_finding_12 : decode cX5_finding 12 = .ok (.bipush 100, 2) := by decide +kernel
theorem dX5_finding_14 : decode cX5_finding 14 = .ok (.invokestatic 49, 3) := by decide +kernel
theorem dX5_finding_17 : decode cX5_finding 17 = .ok (.ifCond .eq 12, 3) := by decide +kernel
theorem dX5_finding_20 : decode cX5_finding 20 = .ok (.iload_n 3, 1) := by decide +kernel
theorem dX5_finding_21 : decode cX5_finding 21 = .ok (.iconst 0, 1) := by decide +kernel
theorem dX5_finding_22 : decode cX5_finding 22 = .ok (.iconst 1, 1) := by decide +kernel
theorem dX5_finding_23 : decode cX5_finding 23 = .ok (.invokestatic 49, 3) := by decide +kernel
theorem dX5_finding_26 : decode cX5_finding 26 = .ok (.ifCond .ne 5, 3) := by decide +kernel
theorem dX5_finding_29 : decode cX5_finding 29 = .ok (.iconst (-1), 1) := by decide +kernel
theorem dX5_finding_30 : decode cX5_finding 30 = .ok (.ireturn, 1) := by decide +kernel
theorem dX5_finding_31 : decode cX5_finding 31 = .ok (.aload_n 0, 1) := by decide +kernel
theorem dX5_finding_32 : decode cX5_finding 32 = .ok (.getfield 10, 3) := by decide +kernel
theorem dX5_finding_35 : decode cX5_finding 35 = .ok (.getfield 191, 3) := by decide +kernel
theorem dX5_finding_38 : decode cX5_finding 38 = .ok (.invokevirtual 195, 3) := by decide +kernel
theorem dX5_finding_41 : decode cX5_finding 41 = .ok (.ifCond .eq 8, 3) := by decide +kernel
theorem dX5_finding_44 : decode cX5_finding 44 = .ok (.bipush (-3), 2) := by decide +kernel
theorem dX5_finding_46 : decode cX5_finding 46 = .ok (.goto 16, 3) := by decide +kernel
theorem dX5_finding_49 : decode cX5_finding 49 = .ok (.aload_n 0, 1) := by decide +kernel
theorem dX5_finding_50 : decode cX5_finding 50 = .ok (.getfield 10, 3) := by decide +kernel
theorem dX5_finding_53 : decode cX5_finding 53 = .ok (.getfield 191, 3) := by decide +kernel
theorem dX5_finding_56 : decode cX5_finding 56 = .ok (.iload_n 1, 1) := by decide +kernel
theorem dX5_finding_57 : decode cX5_finding 57 = .ok (.iload_n 2, 1) := by decide +kernel
theorem dX5_finding_58 : decode cX5_finding 58 = .ok (.iload_n 3, 1) := by decide +kernel
theorem dX5_finding_59 : decode cX5_finding 59 = .ok (.invokevirtual 198, 3) := by decide +kernel
theorem dX5_finding_62 : decode cX5_finding 62 = .ok (.ireturn, 1) := by decide +kernel
set_option maxRecDepth 20000 in
theorem ggX5_held_X5_within : GoodIn wsX5_held wsX5_within := goodIn_r _ [8] (by decide +kernel) (by decide +kernel)
set_option maxRecDepth 20000 in
theorem gX5_held_X5_within : GoodIn wsX5_held (va_wsS RX5 49 yX5_within wsX5_within) := goodIn_app (goodIn_of _ (by decide +kernel)) ggX5_held_X5_within
set_option maxRecDepth 20000 in
theorem ggX5_held_X1_squaresOff : GoodIn wsX5_held wsX1_squaresOff := goodIn_r _ [13, 14, 15, 44, 45, 46, 47, 48] (by decide +kernel) (by decide +kernel)
set_option maxRecDepth 20000 in
theorem gX5_held_X1_squaresOff : GoodIn wsX5_held (wsV RX5 206 RX1 yX1_squaresOff wsX1_squaresOff) := goodIn_app (goodIn_of _ (by decide +kernel)) ggX5_held_X1_squaresOff
set_option maxRecDepth 20000 in
theorem ggX5_held_X1_pairsRight : GoodIn wsX5_held wsX1_pairsRight := goodIn_r _ [19, 14, 15, 20, 21, 22, 23, 44, 45, 46, 47, 48] (by decide +kernel) (by decide +kernel)
set_option maxRecDepth 20000 in
theorem gX5_held_X1_pairsRight : GoodIn wsX5_held (wsV RX5 210 RX1 yX1_pairsRight wsX1_pairsRight) := goodIn_app (goodIn_of _ (by decide +kernel)) ggX5_held_X1_pairsRight
set_option maxRecDepth 20000 in
theorem ggX5_held_X1_cut : GoodIn wsX5_held wsX1_cut := goodIn_r _ [27, 28, 29, 30, 12, 31, 14, 15, 44, 45, 46, 47, 48] (by decide +kernel) (by decide +kernel)
set_option maxRecDepth 20000 in
theorem gX5_held_X1_cut : GoodIn wsX5_held (wsV RX5 213 RX1 yX1_cut wsX1_cut) := goodIn_app (goodIn_of _ (by decide +kernel)) ggX5_held_X1_cut
set_option maxRecDepth 20000 in
theorem ggX5_held_X1_rightBy : GoodIn wsX5_held wsX1_rightBy := goodIn_r _ [31, 14, 15, 44, 45, 46, 47, 48] (by decide +kernel) (by decide +kernel)
set_option maxRecDepth 20000 in
theorem gX5_held_X1_rightBy : GoodIn wsX5_held (wsV RX5 216 RX1 yX1_rightBy wsX1_rightBy) := goodIn_app (goodIn_of _ (by decide +kernel)) ggX5_held_X1_rightBy
theorem dX5_held_0 : decode cX5_held 0 = .ok (.iload_n 1, 1) := by decide +kernel
theorem dX5_held_1 : decode cX5_held 1 = .ok (.iconst 0, 1) := by decide +kernel
theorem dX5_held_2 : decode cX5_held 2 = .ok (.iconst 1, 1) := by decide +kernel
theorem dX5_held_3 : decode cX5_held 3 = .ok (.invokestatic 49, 3) := by decide +kernel
theorem dX5_held_6 : decode cX5_held 6 = .ok (.ifCond .ne 5, 3) := by decide +kernel
theorem dX5_held_9 : decode cX5_held 9 = .ok (.iconst (-1), 1) := by decide +kernel
theorem dX5_held_10 : decode cX5_held 10 = .ok (.ireturn, 1) := by decide +kernel
theorem dX5_held_11 : decode cX5_held 11 = .ok (.aload_n 0, 1) := by decide +kernel
theorem dX5_held_12 : decode cX5_held 12 = .ok (.getfield 10, 3) := by decide +kernel
theorem dX5_held_15 : decode cX5_held 15 = .ok (.getfield 191, 3) := by decide +kernel
theorem dX5_held_18 : decode cX5_held 18 = .ok (.astore_n 3, 1) := by decide +kernel
theorem dX5_held_19 : decode cX5_held 19 = .ok (.iload_n 1, 1) := by decide +kernel
theorem dX5_held_20 : decode cX5_held 20 = .ok (.ifCond .ne 10, 3) := by decide +kernel
theorem dX5_held_23 : decode cX5_held 23 = .ok (.aload_n 3, 1) := by decide +kernel
theorem dX5_held_24 : decode cX5_held 24 = .ok (.getfield 200, 3) := by decide +kernel
theorem dX5_held_27 : decode cX5_held 27 = .ok (.goto 7, 3) := by decide +kernel
theorem dX5_held_30 : decode cX5_held 30 = .ok (.aload_n 3, 1) := by decide +kernel
theorem dX5_held_31 : decode cX5_held 31 = .ok (.getfield 203, 3) := by decide +kernel
theorem dX5_held_34 : decode cX5_held 34 = .ok (.astore 4, 2) := by decide +kernel
theorem dX5_held_36 : decode cX5_held 36 = .ok (.iload_n 2, 1) := by decide +kernel
theorem dX5_held_37 : decode cX5_held 37 = .ok (.tableswitch 65 0 3 #[31, 38, 45, 52], 31) := by decide +kernel
theorem dX5_held_68 : decode cX5_held 68 = .ok (.aload_n 3, 1) := by decide +kernel
theorem dX5_held_69 : decode cX5_held 69 = .ok (.aload 4, 2) := by decide +kernel
theorem dX5_held_71 : decode cX5_held 71 = .ok (.invokevirtual 206, 3) := by decide +kernel
theorem dX5_held_74 : decode cX5_held 74 = .ok (.ireturn, 1) := by decide +kernel
theorem dX5_held_75 : decode cX5_held 75 = .ok (.aload_n 3, 1) := by decide +kernel
theorem dX5_held_76 : decode cX5_held 76 = .ok (.aload 4, 2) := by decide +kernel
theorem dX5_held_78 : decode cX5_held 78 = .ok (.invokevirtual 210, 3) := by decide +kernel
theorem dX5_held_81 : decode cX5_held 81 = .ok (.ireturn, 1) := by decide +kernel
theorem dX5_held_82 : decode cX5_held 82 = .ok (.aload_n 3, 1) := by decide +kernel
theorem dX5_held_83 : decode cX5_held 83 = .ok (.aload 4, 2) := by decide +kernel
theorem dX5_held_85 : decode cX5_held 85 = .ok (.invokevirtual 213, 3) := by decide +kernel
theorem dX5_held_88 : decode cX5_held 88 = .ok (.ireturn, 1) := by decide +kernel
theorem dX5_held_89 : decode cX5_held 89 = .ok (.aload_n 3, 1) := by decide +kernel
theorem dX5_held_90 : decode cX5_held 90 = .ok (.aload 4, 2) := by decide +kernel
theorem dX5_held_92 : decode cX5_held 92 = .ok (.aload_n 3, 1) := by decide +kernel
theorem dX5_held_93 : decode cX5_held 93 = .ok (.aload 4, 2) := by decide +kernel
theorem dX5_held_95 : decode cX5_held 95 = .ok (.invokevirtual 213, 3) := by decide +kernel
theorem dX5_held_98 : decode cX5_held 98 = .ok (.invokevirtual 216, 3) := by decide +kernel
theorem dX5_held_101 : decode cX5_held 101 = .ok (.ireturn, 1) := by decide +kernel
theorem dX5_held_102 : decode cX5_held 102 = .ok (.iconst (-1), 1) := by decide +kernel
theorem dX5_held_103 : decode cX5_held 103 = .ok (.ireturn, 1) := by decide +kernel
set_option maxRecDepth 20000 in
theorem ggX5_stands_X1_has : GoodIn wsX5_stands wsX1_has := goodIn_r _ [7, 8, 44, 45, 46, 47, 48] (by decide +kernel) (by decide +kernel)
set_option maxRecDepth 20000 in
theorem gX5_stands_X1_has : GoodIn wsX5_stands (wsV RX5 220 RX1 yX1_has wsX1_has) := goodIn_app (goodIn_of _ (by decide +kernel)) ggX5_stands_X1_has
set_option maxRecDepth 20000 in
theorem ggX5_stands_X5_within : GoodIn wsX5_stands wsX5_within := goodIn_r _ [12] (by decide +kernel) (by decide +kernel)
set_option maxRecDepth 20000 in
theorem gX5_stands_X5_within : GoodIn wsX5_stands (va_wsS RX5 49 yX5_within wsX5_within) := goodIn_app (goodIn_of _ (by decide +kernel)) ggX5_stands_X5_within
set_option maxRecDepth 20000 in
theorem ggX5_stands_X1_isOn : GoodIn wsX5_stands wsX1_isOn := goodIn_r _ [16, 17, 44, 45, 46, 47, 48] (by decide +kernel) (by decide +kernel)
set_option maxRecDepth 20000 in
theorem gX5_stands_X1_isOn : GoodIn wsX5_stands (wsV RX5 221 RX1 yX1_isOn wsX1_isOn) := goodIn_app (goodIn_of _ (by decide +kernel)) ggX5_stands_X1_isOn
set_option maxRecDepth 20000 in
theorem ggX5_stands_X1_isLaden : GoodIn wsX5_stands wsX1_isLaden := goodIn_r _ [21, 17, 22, 23, 24, 25, 26, 27, 28, 44, 45, 46, 47, 48] (by decide +kernel) (by decide +kernel)
set_option maxRecDepth 20000 in
theorem gX5_stands_X1_isLaden : GoodIn wsX5_stands (wsV RX5 224 RX1 yX1_isLaden wsX1_isLaden) := goodIn_app (goodIn_of _ (by decide +kernel)) ggX5_stands_X1_isLaden
set_option maxRecDepth 20000 in
theorem ggX5_stands_X1_setOn : GoodIn wsX5_stands wsX1_setOn := goodIn_r _ [32, 17, 22, 23, 24, 25, 26, 27, 28, 44, 45, 46, 47, 48] (by decide +kernel) (by decide +kernel)
set_option maxRecDepth 20000 in
theorem gX5_stands_X1_setOn : GoodIn wsX5_stands (wsV RX5 227 RX1 yX1_setOn wsX1_setOn) := goodIn_app (goodIn_of _ (by decide +kernel)) ggX5_stands_X1_setOn
theorem dX5_stands_0 : decode cX5_stands 0 = .ok (.aload_n 0, 1) := by decide +kernel
theorem dX5_stands_1 : decode cX5_stands 1 = .ok (.getfield 10, 3) := by decide +kernel
theorem dX5_stands_4 : decode cX5_stands 4 = .ok (.getfield 191, 3) := by decide +kernel
theorem dX5_stands_7 : decode cX5_stands 7 = .ok (.astore_n 3, 1) := by decide +kernel
theorem dX5_stands_8 : decode cX5_stands 8 = .ok (.aload_n 3, 1) := by decide +kernel
theorem dX5_stands_9 : decode cX5_stands 9 = .ok (.iload_n 1, 1) := by decide +kernel
theorem dX5_stands_10 : decode cX5_stands 10 = .ok (.invokevirtual 220, 3) := by decide +kernel
theorem dX5_stands_13 : decode cX5_stands 13 = .ok (.ifCond .eq 23, 3) := by decide +kernel
theorem dX5_stands_16 : decode cX5_stands 16 = .ok (.iload_n 2, 1) := by decide +kernel
theorem dX5_stands_17 : decode cX5_stands 17 = .ok (.iconst 0, 1) := by decide +kernel
theorem dX5_stands_18 : decode cX5_stands 18 = .ok (.iload_n 1, 1) := by decide +kernel
theorem dX5_stands_19 : decode cX5_stands 19 = .ok (.iconst 1, 1) := by decide +kernel
theorem dX5_stands_20 : decode cX5_stands 20 = .ok (.isub, 1) := by decide +kernel
theorem dX5_stands_21 : decode cX5_stands 21 = .ok (.invokestatic 49, 3) := by decide +kernel
theorem dX5_stands_24 : decode cX5_stands 24 = .ok (.ifCond .eq 12, 3) := by decide +kernel
theorem dX5_stands_27 : decode cX5_stands 27 = .ok (.aload_n 3, 1) := by decide +kernel
theorem dX5_stands_28 : decode cX5_stands 28 = .ok (.iload_n 1, 1) := by decide +kernel
theorem dX5_stands_29 : decode cX5_stands 29 = .ok (.iload_n 2, 1) := by decide +kernel
theorem dX5_stands_30 : decode cX5_stands 30 = .ok (.invokevirtual 221, 3) := by decide +kernel
theorem dX5_stands_33 : decode cX5_stands 33 = .ok (.ifCond .eq 5, 3) := by decide +kernel
theorem dX5_stands_36 : decode cX5_stands 36 = .ok (.iconst (-1), 1) := by decide +kernel
theorem dX5_stands_37 : decode cX5_stands 37 = .ok (.ireturn, 1) := by decide +kernel
theorem dX5_stands_38 : decode cX5_stands 38 = .ok (.aload_n 3, 1) := by decide +kernel
theorem dX5_stands_39 : decode cX5_stands 39 = .ok (.iload_n 1, 1) := by decide +kernel
theorem dX5_stands_40 : decode cX5_stands 40 = .ok (.invokevirtual 224, 3) := by decide +kernel
theorem dX5_stands_43 : decode cX5_stands 43 = .ok (.ifCond .eq 8, 3) := by decide +kernel
theorem dX5_stands_46 : decode cX5_stands 46 = .ok (.bipush (-3), 2) := by decide +kernel
theorem dX5_stands_48 : decode cX5_stands 48 = .ok (.goto 9, 3) := by decide +kernel
theorem dX5_stands_51 : decode cX5_stands 51 = .ok (.aload_n 3, 1) := by decide +kernel
theorem dX5_stands_52 : decode cX5_stands 52 = .ok (.iload_n 1, 1) := by decide +kernel
theorem dX5_stands_53 : decode cX5_stands 53 = .ok (.iload_n 2, 1) := by decide +kernel
theorem dX5_stands_54 : decode cX5_stands 54 = .ok (.invokevirtual 227, 3) := by decide +kernel
theorem dX5_stands_57 : decode cX5_stands 57 = .ok (.ireturn, 1) := by decide +kernel
set_option maxRecDepth 20000 in
theorem ggX5_falls_X1_down : GoodIn wsX5_falls wsX1_down := goodIn_r _ [7, 8, 9, 10, 11, 6, 12, 13, 14, 15, 16, 17, 33, 34, 35, 36, 37] (by decide +kernel) (by decide +kernel)
set_option maxRecDepth 20000 in
theorem gX5_falls_X1_down : GoodIn wsX5_falls (wsV RX5 230 RX1 yX1_down wsX1_down) := goodIn_app (goodIn_of _ (by decide +kernel)) ggX5_falls_X1_down
set_option maxRecDepth 20000 in
theorem ggX5_falls_X1_rounds : GoodIn wsX5_falls wsX1_rounds := goodIn_r _ [21, 8, 9, 10, 11, 6, 12, 13, 14, 15, 16, 17, 33, 34, 35, 36, 37] (by decide +kernel) (by decide +kernel)
set_option maxRecDepth 20000 in
theorem gX5_falls_X1_rounds : GoodIn wsX5_falls (wsV RX5 233 RX1 yX1_rounds wsX1_rounds) := goodIn_app (goodIn_of _ (by decide +kernel)) ggX5_falls_X1_rounds
theorem dX5_falls_0 : decode cX5_falls 0 = .ok (.iload_n 2, 1) := by decide +kernel
theorem dX5_falls_1 : decode cX5_falls 1 = .ok (.lookupswitch 51 #[(0, 27), (1, 39)], 27) := by decide +kernel
theorem dX5_falls_28 : decode cX5_falls 28 = .ok (.aload_n 0, 1) := by decide +kernel
theorem dX5_falls_29 : decode cX5_falls 29 = .ok (.getfield 10, 3) := by decide +kernel
theorem dX5_falls_32 : decode cX5_falls 32 = .ok (.getfield 191, 3) := by decide +kernel
theorem dX5_falls_35 : decode cX5_falls 35 = .ok (.iload_n 1, 1) := by decide +kernel
theorem dX5_falls_36 : decode cX5_falls 36 = .ok (.invokevirtual 230, 3) := by decide +kernel
theorem dX5_falls_39 : decode cX5_falls 39 = .ok (.ireturn, 1) := by decide +kernel
theorem dX5_falls_40 : decode cX5_falls 40 = .ok (.aload_n 0, 1) := by decide +kernel
theorem dX5_falls_41 : decode cX5_falls 41 = .ok (.getfield 10, 3) := by decide +kernel
theorem dX5_falls_44 : decode cX5_falls 44 = .ok (.getfield 191, 3) := by decide +kernel
theorem dX5_falls_47 : decode cX5_falls 47 = .ok (.iload_n 1, 1) := by decide +kernel
theorem dX5_falls_48 : decode cX5_falls 48 = .ok (.invokevirtual 233, 3) := by decide +kernel
theorem dX5_falls_51 : decode cX5_falls 51 = .ok (.ireturn, 1) := by decide +kernel
theorem dX5_falls_52 : decode cX5_falls 52 = .ok (.iconst (-1), 1) := by decide +kernel
theorem dX5_falls_53 : decode cX5_falls 53 = .ok (.ireturn, 1) := by decide +kernel
set_option maxRecDepth 20000 in
theorem ggX5_bears_X1_mostBearing : GoodIn wsX5_bears wsX1_mostBearing := goodIn_r _ [8, 9, 10, 11, 12, 7, 13, 14, 15, 16, 17, 18, 19, 20, 21, 22, 23, 24, 25, 26, 27, 28, 29, 41, 42, 43, 44, 45] (by decide +kernel) (by decide +kernel)
set_option maxRecDepth 20000 in
theorem gX5_bears_X1_mostBearing : GoodIn wsX5_bears (wsV RX5 237 RX1 yX1_mostBearing wsX1_mostBearing) := goodIn_app (goodIn_of _ (by decide +kernel)) ggX5_bears_X1_mostBearing
theorem dX5_bears_0 : decode cX5_bears 0 = .ok (.aload_n 0, 1) := by decide +kernel
theorem dX5_bears_1 : decode cX5_bears 1 = .ok (.getfield 10, 3) := by decide +kernel
theorem dX5_bears_4 : decode cX5_bears 4 = .ok (.getfield 191, 3) := by decide +kernel
theorem dX5_bears_7 : decode cX5_bears 7 = .ok (.getfield 236, 3) := by decide +kernel
theorem dX5_bears_10 : decode cX5_bears 10 = .ok (.ifCond .ne 8, 3) := by decide +kernel
theorem dX5_bears_13 : decode cX5_bears 13 = .ok (.bipush (-9), 2) := by decide +kernel
theorem dX5_bears_15 : decode cX5_bears 15 = .ok (.goto 13, 3) := by decide +kernel
theorem dX5_bears_18 : decode cX5_bears 18 = .ok (.aload_n 0, 1) := by decide +kernel
theorem dX5_bears_19 : decode cX5_bears 19 = .ok (.getfield 10, 3) := by decide +kernel
theorem dX5_bears_22 : decode cX5_bears 22 = .ok (.getfield 191, 3) := by decide +kernel
theorem dX5_bears_25 : decode cX5_bears 25 = .ok (.invokevirtual 237, 3) := by decide +kernel
theorem dX5_bears_28 : decode cX5_bears 28 = .ok (.ireturn, 1) := by decide +kernel
set_option maxRecDepth 20000 in
theorem ggX5_weight_X2_has : GoodIn wsX5_weight wsX2_has := goodIn_r _ [7, 8, 74, 75, 76, 77, 78] (by decide +kernel) (by decide +kernel)
set_option maxRecDepth 20000 in
theorem gX5_weight_X2_has : GoodIn wsX5_weight (wsV RX5 65 RX2 yX2_has wsX2_has) := goodIn_app (goodIn_of _ (by decide +kernel)) ggX5_weight_X2_has
set_option maxRecDepth 20000 in
theorem ggX5_weight_X5_houseWeight : GoodIn wsX5_weight wsX5_houseWeight := goodIn_r _ [13, 14, 1, 2, 15, 63, 64, 65, 66, 67, 68, 69, 70, 71, 72, 73, 74, 75, 76, 77, 78] (by decide +kernel) (by decide +kernel)
set_option maxRecDepth 20000 in
theorem gX5_weight_X5_houseWeight : GoodIn wsX5_weight (wsV RX5 240 RX5 yX5_houseWeight wsX5_houseWeight) := goodIn_app (goodIn_of _ (by decide +kernel)) ggX5_weight_X5_houseWeight
set_option maxRecDepth 20000 in
theorem ggX5_weight_X5_firstWeight : GoodIn wsX5_weight wsX5_firstWeight := goodIn_r _ [19, 14, 20, 9, 10, 11, 12, 13, 1, 2, 15, 63, 64, 65, 66, 67, 68, 69, 70, 71, 72, 73, 74, 75, 76, 77, 78] (by decide +kernel) (by decide +kernel)
set_option maxRecDepth 20000 in
theorem gX5_weight_X5_firstWeight : GoodIn wsX5_weight (wsV RX5 243 RX5 yX5_firstWeight wsX5_firstWeight) := goodIn_app (goodIn_of _ (by decide +kernel)) ggX5_weight_X5_firstWeight
set_option maxRecDepth 20000 in
theorem ggX5_weight_X5_closeWeight : GoodIn wsX5_weight wsX5_closeWeight := goodIn_r _ [24, 14, 25, 9, 10, 11, 12, 13, 1, 2, 15, 63, 64, 65, 66, 67, 68, 69, 70, 71, 72, 73, 74, 75, 76, 77, 78] (by decide +kernel) (by decide +kernel)
set_option maxRecDepth 20000 in
theorem gX5_weight_X5_closeWeight : GoodIn wsX5_weight (wsV RX5 246 RX5 yX5_closeWeight wsX5_closeWeight) := goodIn_app (goodIn_of _ (by decide +kernel)) ggX5_weight_X5_closeWeight
set_option maxRecDepth 20000 in
theorem ggX5_weight_X5_scepticWeight : GoodIn wsX5_weight wsX5_scepticWeight := goodIn_r _ [29, 14, 30, 1, 2, 31, 21, 22, 23, 12, 24, 25, 9, 10, 11, 13, 15, 63, 64, 65, 66, 67, 68, 69, 70, 71, 72, 73, 74, 75, 76, 77, 78] (by decide +kernel) (by decide +kernel)
set_option maxRecDepth 20000 in
theorem gX5_weight_X5_scepticWeight : GoodIn wsX5_weight (wsV RX5 249 RX5 yX5_scepticWeight wsX5_scepticWeight) := goodIn_app (goodIn_of _ (by decide +kernel)) ggX5_weight_X5_scepticWeight
set_option maxRecDepth 20000 in
theorem ggX5_weight_X5_believingWeight : GoodIn wsX5_weight wsX5_believingWeight := goodIn_r _ [35, 14, 36, 1, 2, 37, 21, 22, 23, 12, 24, 25, 9, 10, 11, 13, 15, 63, 64, 65, 66, 67, 68, 69, 70, 71, 72, 73, 74, 75, 76, 77, 78] (by decide +kernel) (by decide +kernel)
set_option maxRecDepth 20000 in
theorem gX5_weight_X5_believingWeight : GoodIn wsX5_weight (wsV RX5 252 RX5 yX5_believingWeight wsX5_believingWeight) := goodIn_app (goodIn_of _ (by decide +kernel)) ggX5_weight_X5_believingWeight
set_option maxRecDepth 20000 in
theorem ggX5_weight_X5_smallWeight : GoodIn wsX5_weight wsX5_smallWeight := goodIn_r _ [41, 14, 42, 43, 44, 45, 46, 9, 10, 11, 12, 13, 1, 2, 15, 63, 64, 65, 66, 67, 68, 69, 70, 71, 72, 73, 74, 75, 76, 77, 78] (by decide +kernel) (by decide +kernel)
set_option maxRecDepth 20000 in
theorem gX5_weight_X5_smallWeight : GoodIn wsX5_weight (wsV RX5 255 RX5 yX5_smallWeight wsX5_smallWeight) := goodIn_app (goodIn_of _ (by decide +kernel)) ggX5_weight_X5_smallWeight
set_option maxRecDepth 20000 in
theorem ggX5_weight_X5_faultyWeight : GoodIn wsX5_weight wsX5_faultyWeight := goodIn_r _ [50, 14, 51, 1, 2, 9, 10, 11, 12, 13, 15, 52, 53, 54, 6, 55, 8, 56, 57, 58, 59, 60, 61, 62, 63, 64, 65, 66, 67, 68, 69, 70, 71, 72, 73, 74, 75, 76, 77, 78] (by decide +kernel) (by decide +kernel)
set_option maxRecDepth 20000 in
theorem gX5_weight_X5_faultyWeight : GoodIn wsX5_weight (wsV RX5 258 RX5 yX5_faultyWeight wsX5_faultyWeight) := goodIn_app (goodIn_of _ (by decide +kernel)) ggX5_weight_X5_faultyWeight
theorem dX5_weight_0 : decode cX5_weight 0 = .ok (.aload_n 0, 1) := by decide +kernel
theorem dX5_weight_1 : decode cX5_weight 1 = .ok (.getfield 10, 3) := by decide +kernel
theorem dX5_weight_4 : decode cX5_weight 4 = .ok (.getfield 53, 3) := by decide +kernel
theorem dX5_weight_7 : decode cX5_weight 7 = .ok (.iload_n 2, 1) := by decide +kernel
theorem dX5_weight_8 : decode cX5_weight 8 = .ok (.invokevirtual 65, 3) := by decide +kernel
theorem dX5_weight_11 : decode cX5_weight 11 = .ok (.ifCond .ne 5, 3) := by decide +kernel
theorem dX5_weight_14 : decode cX5_weight 14 = .ok (.iconst (-1), 1) := by decide +kernel
theorem dX5_weight_15 : decode cX5_weight 15 = .ok (.ireturn, 1) := by decide +kernel
theorem dX5_weight_16 : decode cX5_weight 16 = .ok (.iload_n 1, 1) := by decide +kernel
theorem dX5_weight_17 : decode cX5_weight 17 = .ok (.tableswitch 85 0 6 #[43, 49, 55, 61, 67, 73, 79], 43) := by decide +kernel
theorem dX5_weight_60 : decode cX5_weight 60 = .ok (.aload_n 0, 1) := by decide +kernel
theorem dX5_weight_61 : decode cX5_weight 61 = .ok (.iload_n 2, 1) := by decide +kernel
theorem dX5_weight_62 : decode cX5_weight 62 = .ok (.invokevirtual 240, 3) := by decide +kernel
theorem dX5_weight_65 : decode cX5_weight 65 = .ok (.ireturn, 1) := by decide +kernel
theorem dX5_weight_66 : decode cX5_weight 66 = .ok (.aload_n 0, 1) := by decide +kernel
theorem dX5_weight_67 : decode cX5_weight 67 = .ok (.iload_n 2, 1) := by decide +kernel
theorem dX5_weight_68 : decode cX5_weight 68 = .ok (.invokevirtual 243, 3) := by decide +kernel
theorem dX5_weight_71 : decode cX5_weight 71 = .ok (.ireturn, 1) := by decide +kernel
theorem dX5_weight_72 : decode cX5_weight 72 = .ok (.aload_n 0, 1) := by decide +kernel
theorem dX5_weight_73 : decode cX5_weight 73 = .ok (.iload_n 2, 1) := by decide +kernel
theorem dX5_weight_74 : decode cX5_weight 74 = .ok (.invokevirtual 246, 3) := by decide +kernel
theorem dX5_weight_77 : decode cX5_weight 77 = .ok (.ireturn, 1) := by decide +kernel
theorem dX5_weight_78 : decode cX5_weight 78 = .ok (.aload_n 0, 1) := by decide +kernel
theorem dX5_weight_79 : decode cX5_weight 79 = .ok (.iload_n 2, 1) := by decide +kernel
theorem dX5_weight_80 : decode cX5_weight 80 = .ok (.invokevirtual 249, 3) := by decide +kernel
theorem dX5_weight_83 : decode cX5_weight 83 = .ok (.ireturn, 1) := by decide +kernel
theorem dX5_weight_84 : decode cX5_weight 84 = .ok (.aload_n 0, 1) := by decide +kernel
theorem dX5_weight_85 : decode cX5_weight 85 = .ok (.iload_n 2, 1) := by decide +kernel
theorem dX5_weight_86 : decode cX5_weight 86 = .ok (.invokevirtual 252, 3) := by decide +kernel
theorem dX5_weight_89 : decode cX5_weight 89 = .ok (.ireturn, 1) := by decide +kernel
theorem dX5_weight_90 : decode cX5_weight 90 = .ok (.aload_n 0, 1) := by decide +kernel
theorem dX5_weight_91 : decode cX5_weight 91 = .ok (.iload_n 2, 1) := by decide +kernel
theorem dX5_weight_92 : decode cX5_weight 92 = .ok (.invokevirtual 255, 3) := by decide +kernel
theorem dX5_weight_95 : decode cX5_weight 95 = .ok (.ireturn, 1) := by decide +kernel
theorem dX5_weight_96 : decode cX5_weight 96 = .ok (.aload_n 0, 1) := by decide +kernel
theorem dX5_weight_97 : decode cX5_weight 97 = .ok (.iload_n 2, 1) := by decide +kernel
theorem dX5_weight_98 : decode cX5_weight 98 = .ok (.invokevirtual 258, 3) := by decide +kernel
theorem dX5_weight_101 : decode cX5_weight 101 = .ok (.ireturn, 1) := by decide +kernel
theorem dX5_weight_102 : decode cX5_weight 102 = .ok (.iconst (-1), 1) := by decide +kernel
theorem dX5_weight_103 : decode cX5_weight 103 = .ok (.ireturn, 1) := by decide +kernel
set_option maxRecDepth 20000 in
theorem ggX5_keep_X5_within : GoodIn wsX5_keep wsX5_within := goodIn_r _ [6] (by decide +kernel) (by decide +kernel)
set_option maxRecDepth 20000 in
theorem gX5_keep_X5_within : GoodIn wsX5_keep (va_wsS RX5 49 yX5_within wsX5_within) := goodIn_app (goodIn_of _ (by decide +kernel)) ggX5_keep_X5_within
set_option maxRecDepth 20000 in
theorem ggX5_keep_X5_imageOf : GoodIn wsX5_keep wsX5_imageOf := goodIn_r _ [10, 11, 12, 51, 52, 53, 54, 55, 56, 57, 58] (by decide +kernel) (by decide +kernel)
set_option maxRecDepth 20000 in
theorem gX5_keep_X5_imageOf : GoodIn wsX5_keep (wsV RX5 261 RX5 yX5_imageOf wsX5_imageOf) := goodIn_app (goodIn_of _ (by decide +kernel)) ggX5_keep_X5_imageOf
set_option maxRecDepth 20000 in
theorem ggX5_keep_X0_copyFrom : GoodIn wsX5_keep wsX0_copyFrom := goodIn_r _ [17, 18, 19, 20, 21, 22, 23, 24, 25, 26, 27, 28, 29, 30, 31, 32, 33, 34, 35, 36, 37, 38, 39, 40, 41, 42, 43, 44, 59, 60, 61, 62, 63, 64, 65, 66, 67, 68, 69, 70, 71] (by decide +kernel) (by decide +kernel)
set_option maxRecDepth 20000 in
theorem gX5_keep_X0_copyFrom : GoodIn wsX5_keep (wsV RX5 265 RX0 yX0_copyFrom wsX0_copyFrom) := goodIn_app (goodIn_of _ (by decide +kernel)) ggX5_keep_X0_copyFrom
set_option maxRecDepth 20000 in
theorem ggX5_keep_X0_entries : GoodIn wsX5_keep wsX0_entries := goodIn_r _ [48, 18, 49, 19, 50, 59, 60, 61, 62, 63, 64, 65, 66, 67, 68, 69, 70, 71] (by decide +kernel) (by decide +kernel)
set_option maxRecDepth 20000 in
theorem gX5_keep_X0_entries : GoodIn wsX5_keep (wsV RX5 273 RX0 yX0_entries wsX0_entries) := goodIn_app (goodIn_of _ (by decide +kernel)) ggX5_keep_X0_entries
theorem dX5_keep_0 : decode cX5_keep 0 = .ok (.iload_n 1, 1) := by decide +kernel
theorem dX5_keep_1 : decode cX5_keep 1 = .ok (.iconst 0, 1) := by decide +kernel
theorem dX5_keep_2 : decode cX5_keep 2 = .ok (.iconst 1, 1) := by decide +kernel
theorem dX5_keep_3 : decode cX5_keep 3 = .ok (.invokestatic 49, 3) := by decide +kernel
theorem dX5_keep_6 : decode cX5_keep 6 = .ok (.ifCond .ne 5, 3) := by decide +kernel
theorem dX5_keep_9 : decode cX5_keep 9 = .ok (.iconst (-1), 1) := by decide +kernel
theorem dX5_keep_10 : decode cX5_keep 10 = .ok (.ireturn, 1) := by decide +kernel
theorem dX5_keep_11 : decode cX5_keep 11 = .ok (.aload_n 0, 1) := by decide +kernel
theorem dX5_keep_12 : decode cX5_keep 12 = .ok (.iload_n 1, 1) := by decide +kernel
theorem dX5_keep_13 : decode cX5_keep 13 = .ok (.invokevirtual 261, 3) := by decide +kernel
theorem dX5_keep_16 : decode cX5_keep 16 = .ok (.astore_n 2, 1) := by decide +kernel
theorem dX5_keep_17 : decode cX5_keep 17 = .ok (.aload_n 2, 1) := by decide +kernel
theorem dX5_keep_18 : decode cX5_keep 18 = .ok (.aload_n 0, 1) := by decide +kernel
theorem dX5_keep_19 : decode cX5_keep 19 = .ok (.getfield 10, 3) := by decide +kernel
theorem dX5_keep_22 : decode cX5_keep 22 = .ok (.invokevirtual 265, 3) := by decide +kernel
theorem dX5_keep_25 : decode cX5_keep 25 = .ok (.aload_n 2, 1) := by decide +kernel
theorem dX5_keep_26 : decode cX5_keep 26 = .ok (.iconst 1, 1) := by decide +kernel
theorem dX5_keep_27 : decode cX5_keep 27 = .ok (.putfield 269, 3) := by decide +kernel
theorem dX5_keep_30 : decode cX5_keep 30 = .ok (.aload_n 2, 1) := by decide +kernel
theorem dX5_keep_31 : decode cX5_keep 31 = .ok (.invokevirtual 273, 3) := by decide +kernel
theorem dX5_keep_34 : decode cX5_keep 34 = .ok (.ireturn, 1) := by decide +kernel
set_option maxRecDepth 20000 in
theorem ggX5_back_X5_within : GoodIn wsX5_back wsX5_within := goodIn_r _ [6] (by decide +kernel) (by decide +kernel)
set_option maxRecDepth 20000 in
theorem gX5_back_X5_within : GoodIn wsX5_back (va_wsS RX5 49 yX5_within wsX5_within) := goodIn_app (goodIn_of _ (by decide +kernel)) ggX5_back_X5_within
set_option maxRecDepth 20000 in
theorem ggX5_back_X5_imageOf : GoodIn wsX5_back wsX5_imageOf := goodIn_r _ [10, 11, 12, 54, 55, 56, 57, 58, 59, 60, 61] (by decide +kernel) (by decide +kernel)
set_option maxRecDepth 20000 in
theorem gX5_back_X5_imageOf : GoodIn wsX5_back (wsV RX5 261 RX5 yX5_imageOf wsX5_imageOf) := goodIn_app (goodIn_of _ (by decide +kernel)) ggX5_back_X5_imageOf
set_option maxRecDepth 20000 in
theorem ggX5_back_X0_copyFrom : GoodIn wsX5_back wsX0_copyFrom := goodIn_r _ [17, 18, 19, 20, 21, 22, 23, 24, 25, 26, 27, 28, 29, 30, 31, 32, 33, 34, 35, 36, 37, 38, 39, 40, 41, 42, 43, 44, 51, 52, 53, 62, 63, 64, 65, 66, 67, 68, 69, 70, 71] (by decide +kernel) (by decide +kernel)
set_option maxRecDepth 20000 in
theorem gX5_back_X0_copyFrom : GoodIn wsX5_back (wsV RX5 265 RX0 yX0_copyFrom wsX0_copyFrom) := goodIn_app (goodIn_of _ (by decide +kernel)) ggX5_back_X0_copyFrom
set_option maxRecDepth 20000 in
theorem ggX5_back_X0_entries : GoodIn wsX5_back wsX0_entries := goodIn_r _ [48, 18, 49, 19, 50, 51, 52, 53, 62, 63, 64, 65, 66, 67, 68, 69, 70, 71] (by decide +kernel) (by decide +kernel)
set_option maxRecDepth 20000 in
theorem gX5_back_X0_entries : GoodIn wsX5_back (wsV RX5 273 RX0 yX0_entries wsX0_entries) := goodIn_app (goodIn_of _ (by decide +kernel)) ggX5_back_X0_entries
theorem dX5_back_0 : decode cX5_back 0 = .ok (.iload_n 1, 1) := by decide +kernel
theorem dX5_back_1 : decode cX5_back 1 = .ok (.iconst 0, 1) := by decide +kernel
theorem dX5_back_2 : decode cX5_back 2 = .ok (.iconst 1, 1) := by decide +kernel
theorem dX5_back_3 : decode cX5_back 3 = .ok (.invokestatic 49, 3) := by decide +kernel
theorem dX5_back_6 : decode cX5_back 6 = .ok (.ifCond .ne 5, 3) := by decide +kernel
theorem dX5_back_9 : decode cX5_back 9 = .ok (.iconst (-1), 1) := by decide +kernel
theorem dX5_back_10 : decode cX5_back 10 = .ok (.ireturn, 1) := by decide +kernel
theorem dX5_back_11 : decode cX5_back 11 = .ok (.aload_n 0, 1) := by decide +kernel
theorem dX5_back_12 : decode cX5_back 12 = .ok (.iload_n 1, 1) := by decide +kernel
theorem dX5_back_13 : decode cX5_back 13 = .ok (.invokevirtual 261, 3) := by decide +kernel
theorem dX5_back_16 : decode cX5_back 16 = .ok (.astore_n 2, 1) := by decide +kernel
theorem dX5_back_17 : decode cX5_back 17 = .ok (.aload_n 2, 1) := by decide +kernel
theorem dX5_back_18 : decode cX5_back 18 = .ok (.getfield 269, 3) := by decide +kernel
theorem dX5_back_21 : decode cX5_back 21 = .ok (.ifCond .ne 6, 3) := by decide +kernel
theorem dX5_back_24 : decode cX5_back 24 = .ok (.bipush (-2), 2) := by decide +kernel
theorem dX5_back_26 : decode cX5_back 26 = .ok (.ireturn, 1) := by decide +kernel
theorem dX5_back_27 : decode cX5_back 27 = .ok (.aload_n 0, 1) := by decide +kernel
theorem dX5_back_28 : decode cX5_back 28 = .ok (.getfield 10, 3) := by decide +kernel
theorem dX5_back_31 : decode cX5_back 31 = .ok (.aload_n 2, 1) := by decide +kernel
theorem dX5_back_32 : decode cX5_back 32 = .ok (.invokevirtual 265, 3) := by decide +kernel
theorem dX5_back_35 : decode cX5_back 35 = .ok (.aload_n 0, 1) := by decide +kernel
theorem dX5_back_36 : decode cX5_back 36 = .ok (.getfield 10, 3) := by decide +kernel
theorem dX5_back_39 : decode cX5_back 39 = .ok (.invokevirtual 273, 3) := by decide +kernel
theorem dX5_back_42 : decode cX5_back 42 = .ok (.ireturn, 1) := by decide +kernel
set_option maxRecDepth 20000 in
theorem ggX5_count_X2_all : GoodIn wsX5_count wsX2_all := goodIn_r _ [14, 15, 39, 40, 41, 42, 43] (by decide +kernel) (by decide +kernel)
set_option maxRecDepth 20000 in
theorem gX5_count_X2_all : GoodIn wsX5_count (wsV RX5 276 RX2 yX2_all wsX2_all) := goodIn_app (goodIn_of _ (by decide +kernel)) ggX5_count_X2_all
set_option maxRecDepth 20000 in
theorem ggX5_count_X2_peopleOf : GoodIn wsX5_count wsX2_peopleOf := goodIn_r _ [19, 15, 20, 39, 40, 41, 42, 43] (by decide +kernel) (by decide +kernel)
set_option maxRecDepth 20000 in
theorem gX5_count_X2_peopleOf : GoodIn wsX5_count (wsV RX5 82 RX2 yX2_peopleOf wsX2_peopleOf) := goodIn_app (goodIn_of _ (by decide +kernel)) ggX5_count_X2_peopleOf
set_option maxRecDepth 20000 in
theorem ggX5_count_X1_cameCount : GoodIn wsX5_count wsX1_cameCount := goodIn_r _ [25, 26, 27, 49, 50, 51, 52, 53] (by decide +kernel) (by decide +kernel)
set_option maxRecDepth 20000 in
theorem gX5_count_X1_cameCount : GoodIn wsX5_count (wsV RX5 279 RX1 yX1_cameCount wsX1_cameCount) := goodIn_app (goodIn_of _ (by decide +kernel)) ggX5_count_X1_cameCount
theorem dX5_count_0 : decode cX5_count 0 = .ok (.iload_n 1, 1) := by decide +kernel
theorem dX5_count_1 : decode cX5_count 1 = .ok (.tableswitch 111 0 5 #[39, 50, 73, 81, 92, 103], 39) := by decide +kernel
theorem dX5_count_40 : decode cX5_count 40 = .ok (.aload_n 0, 1) := by decide +kernel
theorem dX5_count_41 : decode cX5_count 41 = .ok (.getfield 10, 3) := by decide +kernel
theorem dX5_count_44 : decode cX5_count 44 = .ok (.getfield 53, 3) := by decide +kernel
theorem dX5_count_47 : decode cX5_count 47 = .ok (.getfield 104, 3) := by decide +kernel
theorem dX5_count_50 : decode cX5_count 50 = .ok (.ireturn, 1) := by decide +kernel
theorem dX5_count_51 : decode cX5_count 51 = .ok (.iconst 2, 1) := by decide +kernel
theorem dX5_count_52 : decode cX5_count 52 = .ok (.aload_n 0, 1) := by decide +kernel
theorem dX5_count_53 : decode cX5_count 53 = .ok (.getfield 10, 3) := by decide +kernel
theorem dX5_count_56 : decode cX5_count 56 = .ok (.getfield 53, 3) := by decide +kernel
theorem dX5_count_59 : decode cX5_count 59 = .ok (.aload_n 0, 1) := by decide +kernel
theorem dX5_count_60 : decode cX5_count 60 = .ok (.getfield 10, 3) := by decide +kernel
theorem dX5_count_63 : decode cX5_count 63 = .ok (.getfield 53, 3) := by decide +kernel
theorem dX5_count_66 : decode cX5_count 66 = .ok (.invokevirtual 276, 3) := by decide +kernel
theorem dX5_count_69 : decode cX5_count 69 = .ok (.invokevirtual 82, 3) := by decide +kernel
theorem dX5_count_72 : decode cX5_count 72 = .ok (.imul, 1) := by decide +kernel
theorem dX5_count_73 : decode cX5_count 73 = .ok (.ireturn, 1) := by decide +kernel
theorem dX5_count_74 : decode cX5_count 74 = .ok (.aload_n 0, 1) := by decide +kernel
theorem dX5_count_75 : decode cX5_count 75 = .ok (.getfield 32, 3) := by decide +kernel
theorem dX5_count_78 : decode cX5_count 78 = .ok (.getfield 148, 3) := by decide +kernel
theorem dX5_count_81 : decode cX5_count 81 = .ok (.ireturn, 1) := by decide +kernel
theorem dX5_count_82 : decode cX5_count 82 = .ok (.aload_n 0, 1) := by decide +kernel
theorem dX5_count_83 : decode cX5_count 83 = .ok (.getfield 10, 3) := by decide +kernel
theorem dX5_count_86 : decode cX5_count 86 = .ok (.getfield 191, 3) := by decide +kernel
theorem dX5_count_89 : decode cX5_count 89 = .ok (.getfield 236, 3) := by decide +kernel
theorem dX5_count_92 : decode cX5_count 92 = .ok (.ireturn, 1) := by decide +kernel
theorem dX5_count_93 : decode cX5_count 93 = .ok (.aload_n 0, 1) := by decide +kernel
theorem dX5_count_94 : decode cX5_count 94 = .ok (.getfield 10, 3) := by decide +kernel
theorem dX5_count_97 : decode cX5_count 97 = .ok (.getfield 191, 3) := by decide +kernel
theorem dX5_count_100 : decode cX5_count 100 = .ok (.invokevirtual 279, 3) := by decide +kernel
theorem dX5_count_103 : decode cX5_count 103 = .ok (.ireturn, 1) := by decide +kernel
theorem dX5_count_104 : decode cX5_count 104 = .ok (.aload_n 0, 1) := by decide +kernel
theorem dX5_count_105 : decode cX5_count 105 = .ok (.getfield 25, 3) := by decide +kernel
theorem dX5_count_108 : decode cX5_count 108 = .ok (.getfield 137, 3) := by decide +kernel
theorem dX5_count_111 : decode cX5_count 111 = .ok (.ireturn, 1) := by decide +kernel
theorem dX5_count_112 : decode cX5_count 112 = .ok (.iconst (-1), 1) := by decide +kernel
theorem dX5_count_113 : decode cX5_count 113 = .ok (.ireturn, 1) := by decide +kernel
theorem dX5_trace_0 : decode cX5_trace 0 = .ok (.aload_n 0, 1) := by decide +kernel
theorem dX5_trace_1 : decode cX5_trace 1 = .ok (.getfield 43, 3) := by decide +kernel
theorem dX5_trace_4 : decode cX5_trace 4 = .ok (.lreturn, 1) := by decide +kernel
theorem dX5_houseWeight_0 : decode cX5_houseWeight 0 = .ok (.aload_n 0, 1) := by decide +kernel
theorem dX5_houseWeight_1 : decode cX5_houseWeight 1 = .ok (.dup, 1) := by decide +kernel
theorem dX5_houseWeight_2 : decode cX5_houseWeight 2 = .ok (.getfield 43, 3) := by decide +kernel
theorem dX5_houseWeight_5 : decode cX5_houseWeight 5 = .ok (.lconst 1, 1) := by decide +kernel
theorem dX5_houseWeight_6 : decode cX5_houseWeight 6 = .ok (.ladd, 1) := by decide +kernel
theorem dX5_houseWeight_7 : decode cX5_houseWeight 7 = .ok (.putfield 43, 3) := by decide +kernel
theorem dX5_houseWeight_10 : decode cX5_houseWeight 10 = .ok (.aload_n 0, 1) := by decide +kernel
theorem dX5_houseWeight_11 : decode cX5_houseWeight 11 = .ok (.getfield 10, 3) := by decide +kernel
theorem dX5_houseWeight_14 : decode cX5_houseWeight 14 = .ok (.getfield 53, 3) := by decide +kernel
theorem dX5_houseWeight_17 : decode cX5_houseWeight 17 = .ok (.getfield 69, 3) := by decide +kernel
theorem dX5_houseWeight_20 : decode cX5_houseWeight 20 = .ok (.iload_n 1, 1) := by decide +kernel
theorem dX5_houseWeight_21 : decode cX5_houseWeight 21 = .ok (.iaload, 1) := by decide +kernel
theorem dX5_houseWeight_22 : decode cX5_houseWeight 22 = .ok (.ireturn, 1) := by decide +kernel
set_option maxRecDepth 20000 in
theorem ggX5_firstWeight_X5_houseWeight : GoodIn wsX5_firstWeight wsX5_houseWeight := goodIn_r _ [7, 1, 8, 9, 10, 11, 12, 13, 14, 15, 16, 17, 18, 19, 20, 21, 22, 23, 24, 25, 26] (by decide +kernel) (by decide +kernel)
set_option maxRecDepth 20000 in
theorem gX5_firstWeight_X5_houseWeight : GoodIn wsX5_firstWeight (wsV RX5 240 RX5 yX5_houseWeight wsX5_houseWeight) := goodIn_app (goodIn_of _ (by decide +kernel)) ggX5_firstWeight_X5_houseWeight
theorem dX5_firstWeight_0 : decode cX5_firstWeight 0 = .ok (.aload_n 0, 1) := by decide +kernel
theorem dX5_firstWeight_1 : decode cX5_firstWeight 1 = .ok (.dup, 1) := by decide +kernel
theorem dX5_firstWeight_2 : decode cX5_firstWeight 2 = .ok (.getfield 43, 3) := by decide +kernel
theorem dX5_firstWeight_5 : decode cX5_firstWeight 5 = .ok (.ldc2_w 282, 3) := by decide +kernel
theorem dX5_firstWeight_8 : decode cX5_firstWeight 8 = .ok (.ladd, 1) := by decide +kernel
theorem dX5_firstWeight_9 : decode cX5_firstWeight 9 = .ok (.putfield 43, 3) := by decide +kernel
theorem dX5_firstWeight_12 : decode cX5_firstWeight 12 = .ok (.aload_n 0, 1) := by decide +kernel
theorem dX5_firstWeight_13 : decode cX5_firstWeight 13 = .ok (.iload_n 1, 1) := by decide +kernel
theorem dX5_firstWeight_14 : decode cX5_firstWeight 14 = .ok (.invokevirtual 240, 3) := by decide +kernel
theorem dX5_firstWeight_17 : decode cX5_firstWeight 17 = .ok (.iconst 2, 1) := by decide +kernel
theorem dX5_firstWeight_18 : decode cX5_firstWeight 18 = .ok (.idiv, 1) := by decide +kernel
theorem dX5_firstWeight_19 : decode cX5_firstWeight 19 = .ok (.ireturn, 1) := by decide +kernel
set_option maxRecDepth 20000 in
theorem ggX5_closeWeight_X5_houseWeight : GoodIn wsX5_closeWeight wsX5_houseWeight := goodIn_r _ [7, 1, 8, 9, 10, 11, 12, 13, 14, 15, 16, 17, 18, 19, 20, 21, 22, 23, 24, 25, 26] (by decide +kernel) (by decide +kernel)
set_option maxRecDepth 20000 in
theorem gX5_closeWeight_X5_houseWeight : GoodIn wsX5_closeWeight (wsV RX5 240 RX5 yX5_houseWeight wsX5_houseWeight) := goodIn_app (goodIn_of _ (by decide +kernel)) ggX5_closeWeight_X5_houseWeight
theorem dX5_closeWeight_0 : decode cX5_closeWeight 0 = .ok (.aload_n 0, 1) := by decide +kernel
theorem dX5_closeWeight_1 : decode cX5_closeWeight 1 = .ok (.dup, 1) := by decide +kernel
theorem dX5_closeWeight_2 : decode cX5_closeWeight 2 = .ok (.getfield 43, 3) := by decide +kernel
theorem dX5_closeWeight_5 : decode cX5_closeWeight 5 = .ok (.ldc2_w 284, 3) := by decide +kernel
theorem dX5_closeWeight_8 : decode cX5_closeWeight 8 = .ok (.ladd, 1) := by decide +kernel
theorem dX5_closeWeight_9 : decode cX5_closeWeight 9 = .ok (.putfield 43, 3) := by decide +kernel
theorem dX5_closeWeight_12 : decode cX5_closeWeight 12 = .ok (.iconst 2, 1) := by decide +kernel
theorem dX5_closeWeight_13 : decode cX5_closeWeight 13 = .ok (.aload_n 0, 1) := by decide +kernel
theorem dX5_closeWeight_14 : decode cX5_closeWeight 14 = .ok (.iload_n 1, 1) := by decide +kernel
theorem dX5_closeWeight_15 : decode cX5_closeWeight 15 = .ok (.invokevirtual 240, 3) := by decide +kernel
theorem dX5_closeWeight_18 : decode cX5_closeWeight 18 = .ok (.imul, 1) := by decide +kernel
theorem dX5_closeWeight_19 : decode cX5_closeWeight 19 = .ok (.ireturn, 1) := by decide +kernel
set_option maxRecDepth 20000 in
theorem ggX5_scepticWeight_X5_closeWeight : GoodIn wsX5_scepticWeight wsX5_closeWeight := goodIn_r _ [10, 1, 11, 12, 13, 14, 9, 15, 3, 4, 16, 17, 18, 19, 20, 21, 22, 23, 24, 25, 26, 27, 28, 29, 30, 31, 32] (by decide +kernel) (by decide +kernel)
set_option maxRecDepth 20000 in
theorem gX5_scepticWeight_X5_closeWeight : GoodIn wsX5_scepticWeight (wsV RX5 246 RX5 yX5_closeWeight wsX5_closeWeight) := goodIn_app (goodIn_of _ (by decide +kernel)) ggX5_scepticWeight_X5_closeWeight
theorem dX5_scepticWeight_0 : decode cX5_scepticWeight 0 = .ok (.aload_n 0, 1) := by decide +kernel
theorem dX5_scepticWeight_1 : decode cX5_scepticWeight 1 = .ok (.dup, 1) := by decide +kernel
theorem dX5_scepticWeight_2 : decode cX5_scepticWeight 2 = .ok (.getfield 43, 3) := by decide +kernel
theorem dX5_scepticWeight_5 : decode cX5_scepticWeight 5 = .ok (.ldc2_w 286, 3) := by decide +kernel
theorem dX5_scepticWeight_8 : decode cX5_scepticWeight 8 = .ok (.ladd, 1) := by decide +kernel
theorem dX5_scepticWeight_9 : decode cX5_scepticWeight 9 = .ok (.putfield 43, 3) := by decide +kernel
theorem dX5_scepticWeight_12 : decode cX5_scepticWeight 12 = .ok (.aload_n 0, 1) := by decide +kernel
theorem dX5_scepticWeight_13 : decode cX5_scepticWeight 13 = .ok (.iload_n 1, 1) := by decide +kernel
theorem dX5_scepticWeight_14 : decode cX5_scepticWeight 14 = .ok (.invokevirtual 246, 3) := by decide +kernel
theorem dX5_scepticWeight_17 : decode cX5_scepticWeight 17 = .ok (.aload_n 0, 1) := by decide +kernel
theorem dX5_scepticWeight_18 : decode cX5_scepticWeight 18 = .ok (.getfield 10, 3) := by decide +kernel
theorem dX5_scepticWeight_21 : decode cX5_scepticWeight 21 = .ok (.getfield 53, 3) := by decide +kernel
theorem dX5_scepticWeight_24 : decode cX5_scepticWeight 24 = .ok (.getfield 76, 3) := by decide +kernel
theorem dX5_scepticWeight_27 : decode cX5_scepticWeight 27 = .ok (.iload_n 1, 1) := by decide +kernel
theorem dX5_scepticWeight_28 : decode cX5_scepticWeight 28 = .ok (.iaload, 1) := by decide +kernel
theorem dX5_scepticWeight_29 : decode cX5_scepticWeight 29 = .ok (.iadd, 1) := by decide +kernel
theorem dX5_scepticWeight_30 : decode cX5_scepticWeight 30 = .ok (.ireturn, 1) := by decide +kernel
set_option maxRecDepth 20000 in
theorem ggX5_believingWeight_X5_closeWeight : GoodIn wsX5_believingWeight wsX5_closeWeight := goodIn_r _ [10, 1, 11, 12, 13, 14, 9, 15, 3, 4, 16, 17, 18, 19, 20, 21, 22, 23, 24, 25, 26, 27, 28, 29, 30, 31, 32] (by decide +kernel) (by decide +kernel)
set_option maxRecDepth 20000 in
theorem gX5_believingWeight_X5_closeWeight : GoodIn wsX5_believingWeight (wsV RX5 246 RX5 yX5_closeWeight wsX5_closeWeight) := goodIn_app (goodIn_of _ (by decide +kernel)) ggX5_believingWeight_X5_closeWeight
theorem dX5_believingWeight_0 : decode cX5_believingWeight 0 = .ok (.aload_n 0, 1) := by decide +kernel
theorem dX5_believingWeight_1 : decode cX5_believingWeight 1 = .ok (.dup, 1) := by decide +kernel
theorem dX5_believingWeight_2 : decode cX5_believingWeight 2 = .ok (.getfield 43, 3) := by decide +kernel
theorem dX5_believingWeight_5 : decode cX5_believingWeight 5 = .ok (.ldc2_w 288, 3) := by decide +kernel
theorem dX5_believingWeight_8 : decode cX5_believingWeight 8 = .ok (.ladd, 1) := by decide +kernel
theorem dX5_believingWeight_9 : decode cX5_believingWeight 9 = .ok (.putfield 43, 3) := by decide +kernel
theorem dX5_believingWeight_12 : decode cX5_believingWeight 12 = .ok (.aload_n 0, 1) := by decide +kernel
theorem dX5_believingWeight_13 : decode cX5_believingWeight 13 = .ok (.iload_n 1, 1) := by decide +kernel
theorem dX5_believingWeight_14 : decode cX5_believingWeight 14 = .ok (.invokevirtual 246, 3) := by decide +kernel
theorem dX5_believingWeight_17 : decode cX5_believingWeight 17 = .ok (.aload_n 0, 1) := by decide +kernel
theorem dX5_believingWeight_18 : decode cX5_believingWeight 18 = .ok (.getfield 10, 3) := by decide +kernel
theorem dX5_believingWeight_21 : decode cX5_believingWeight 21 = .ok (.getfield 53, 3) := by decide +kernel
theorem dX5_believingWeight_24 : decode cX5_believingWeight 24 = .ok (.getfield 73, 3) := by decide +kernel
theorem dX5_believingWeight_27 : decode cX5_believingWeight 27 = .ok (.iload_n 1, 1) := by decide +kernel
theorem dX5_believingWeight_28 : decode cX5_believingWeight 28 = .ok (.iaload, 1) := by decide +kernel
theorem dX5_believingWeight_29 : decode cX5_believingWeight 29 = .ok (.iadd, 1) := by decide +kernel
theorem dX5_believingWeight_30 : decode cX5_believingWeight 30 = .ok (.ireturn, 1) := by decide +kernel
set_option maxRecDepth 20000 in
theorem ggX5_smallWeight_X5_houseWeight : GoodIn wsX5_smallWeight wsX5_houseWeight := goodIn_r _ [11, 1, 12, 13, 14, 15, 16, 17, 18, 19, 20, 21, 22, 23, 24, 25, 26, 27, 28, 29, 30] (by decide +kernel) (by decide +kernel)
set_option maxRecDepth 20000 in
theorem gX5_smallWeight_X5_houseWeight : GoodIn wsX5_smallWeight (wsV RX5 240 RX5 yX5_houseWeight wsX5_houseWeight) := goodIn_app (goodIn_of _ (by decide +kernel)) ggX5_smallWeight_X5_houseWeight
theorem dX5_smallWeight_0 : decode cX5_smallWeight 0 = .ok (.aload_n 0, 1) := by decide +kernel
theorem dX5_smallWeight_1 : decode cX5_smallWeight 1 = .ok (.dup, 1) := by decide +kernel
theorem dX5_smallWeight_2 : decode cX5_smallWeight 2 = .ok (.getfield 43, 3) := by decide +kernel
theorem dX5_smallWeight_5 : decode cX5_smallWeight 5 = .ok (.ldc2_w 290, 3) := by decide +kernel
theorem dX5_smallWeight_8 : decode cX5_smallWeight 8 = .ok (.ladd, 1) := by decide +kernel
theorem dX5_smallWeight_9 : decode cX5_smallWeight 9 = .ok (.putfield 43, 3) := by decide +kernel
theorem dX5_smallWeight_12 : decode cX5_smallWeight 12 = .ok (.iconst 0, 1) := by decide +kernel
theorem dX5_smallWeight_13 : decode cX5_smallWeight 13 = .ok (.aload_n 0, 1) := by decide +kernel
theorem dX5_smallWeight_14 : decode cX5_smallWeight 14 = .ok (.iload_n 1, 1) := by decide +kernel
theorem dX5_smallWeight_15 : decode cX5_smallWeight 15 = .ok (.invokevirtual 240, 3) := by decide +kernel
theorem dX5_smallWeight_18 : decode cX5_smallWeight 18 = .ok (.iconst 3, 1) := by decide +kernel
theorem dX5_smallWeight_19 : decode cX5_smallWeight 19 = .ok (.isub, 1) := by decide +kernel
theorem dX5_smallWeight_20 : decode cX5_smallWeight 20 = .ok (.invokestatic 292, 3) := by decide +kernel
theorem dX5_smallWeight_23 : decode cX5_smallWeight 23 = .ok (.ireturn, 1) := by decide +kernel
set_option maxRecDepth 20000 in
theorem ggX5_faultyWeight_X5_houseWeight : GoodIn wsX5_faultyWeight wsX5_houseWeight := goodIn_r _ [9, 1, 3, 4, 10, 24, 25, 26, 27, 28, 29, 30, 31, 32, 33, 34, 35, 36, 37, 38, 39] (by decide +kernel) (by decide +kernel)
set_option maxRecDepth 20000 in
theorem gX5_faultyWeight_X5_houseWeight : GoodIn wsX5_faultyWeight (wsV RX5 240 RX5 yX5_houseWeight wsX5_houseWeight) := goodIn_app (goodIn_of _ (by decide +kernel)) ggX5_faultyWeight_X5_houseWeight
set_option maxRecDepth 20000 in
theorem ggX5_faultyWeight_X2_alikeTo : GoodIn wsX5_faultyWeight wsX2_alikeTo := goodIn_r _ [15, 16, 17, 18, 19, 14, 20, 21, 22, 23, 35, 36, 37, 38, 39] (by decide +kernel) (by decide +kernel)
set_option maxRecDepth 20000 in
theorem gX5_faultyWeight_X2_alikeTo : GoodIn wsX5_faultyWeight (wsV RX5 299 RX2 yX2_alikeTo wsX2_alikeTo) := goodIn_app (goodIn_of _ (by decide +kernel)) ggX5_faultyWeight_X2_alikeTo
theorem dX5_faultyWeight_0 : decode cX5_faultyWeight 0 = .ok (.aload_n 0, 1) := by decide +kernel
theorem dX5_faultyWeight_1 : decode cX5_faultyWeight 1 = .ok (.dup, 1) := by decide +kernel
theorem dX5_faultyWeight_2 : decode cX5_faultyWeight 2 = .ok (.getfield 43, 3) := by decide +kernel
theorem dX5_faultyWeight_5 : decode cX5_faultyWeight 5 = .ok (.ldc2_w 297, 3) := by decide +kernel
theorem dX5_faultyWeight_8 : decode cX5_faultyWeight 8 = .ok (.ladd, 1) := by decide +kernel
theorem dX5_faultyWeight_9 : decode cX5_faultyWeight 9 = .ok (.putfield 43, 3) := by decide +kernel
theorem dX5_faultyWeight_12 : decode cX5_faultyWeight 12 = .ok (.aload_n 0, 1) := by decide +kernel
theorem dX5_faultyWeight_13 : decode cX5_faultyWeight 13 = .ok (.iload_n 1, 1) := by decide +kernel
theorem dX5_faultyWeight_14 : decode cX5_faultyWeight 14 = .ok (.invokevirtual 240, 3) := by decide +kernel
theorem dX5_faultyWeight_17 : decode cX5_faultyWeight 17 = .ok (.aload_n 0, 1) := by decide +kernel
theorem dX5_faultyWeight_18 : decode cX5_faultyWeight 18 = .ok (.getfield 10, 3) := by decide +kernel
theorem dX5_faultyWeight_21 : decode cX5_faultyWeight 21 = .ok (.getfield 53, 3) := by decide +kernel
theorem dX5_faultyWeight_24 : decode cX5_faultyWeight 24 = .ok (.iload_n 1, 1) := by decide +kernel
theorem dX5_faultyWeight_25 : decode cX5_faultyWeight 25 = .ok (.invokevirtual 299, 3) := by decide +kernel
theorem dX5_faultyWeight_28 : decode cX5_faultyWeight 28 = .ok (.imul, 1) := by decide +kernel
theorem dX5_faultyWeight_29 : decode cX5_faultyWeight 29 = .ok (.ireturn, 1) := by decide +kernel
theorem dX5_imageOf_0 : decode cX5_imageOf 0 = .ok (.iload_n 1, 1) := by decide +kernel
theorem dX5_imageOf_1 : decode cX5_imageOf 1 = .ok (.ifCond .ne 10, 3) := by decide +kernel
theorem dX5_imageOf_4 : decode cX5_imageOf 4 = .ok (.aload_n 0, 1) := by decide +kernel
theorem dX5_imageOf_5 : decode cX5_imageOf 5 = .ok (.getfield 16, 3) := by decide +kernel
theorem dX5_imageOf_8 : decode cX5_imageOf 8 = .ok (.goto 7, 3) := by decide +kernel
theorem dX5_imageOf_11 : decode cX5_imageOf 11 = .ok (.aload_n 0, 1) := by decide +kernel
theorem dX5_imageOf_12 : decode cX5_imageOf 12 = .ok (.getfield 19, 3) := by decide +kernel
theorem dX5_imageOf_15 : decode cX5_imageOf 15 = .ok (.areturn, 1) := by decide +kernel
theorem dX5_within_0 : decode cX5_within 0 = .ok (.iload_n 0, 1) := by decide +kernel
theorem dX5_within_1 : decode cX5_within 1 = .ok (.iload_n 1, 1) := by decide +kernel
theorem dX5_within_2 : decode cX5_within 2 = .ok (.if_icmp .lt 12, 3) := by decide +kernel
theorem dX5_within_5 : decode cX5_within 5 = .ok (.iload_n 0, 1) := by decide +kernel
theorem dX5_within_6 : decode cX5_within 6 = .ok (.iload_n 2, 1) := by decide +kernel
theorem dX5_within_7 : decode cX5_within 7 = .ok (.if_icmp .gt 7, 3) := by decide +kernel
theorem dX5_within_10 : decode cX5_within 10 = .ok (.iconst 1, 1) := by decide +kernel
theorem dX5_within_11 : decode cX5_within 11 = .ok (.goto 4, 3) := by decide +kernel
theorem dX5_within_14 : decode cX5_within 14 = .ok (.iconst 0, 1) := by decide +kernel
theorem dX5_within_15 : decode cX5_within 15 = .ok (.ireturn, 1) := by decide +kernel
set_option maxRecDepth 20000 in
theorem ggX5_areTenths_X5_within : GoodIn wsX5_areTenths wsX5_within := goodIn_r _ [4] (by decide +kernel) (by decide +kernel)
set_option maxRecDepth 20000 in
theorem gX5_areTenths_X5_within : GoodIn wsX5_areTenths (va_wsS RX5 49 yX5_within wsX5_within) := goodIn_app (goodIn_of _ (by decide +kernel)) ggX5_areTenths_X5_within
theorem dX5_areTenths_0 : decode cX5_areTenths 0 = .ok (.iload_n 0, 1) := by decide +kernel
theorem dX5_areTenths_1 : decode cX5_areTenths 1 = .ok (.iconst 0, 1) := by decide +kernel
theorem dX5_areTenths_2 : decode cX5_areTenths 2 = .ok (.bipush 10, 2) := by decide +kernel
theorem dX5_areTenths_4 : decode cX5_areTenths 4 = .ok (.invokestatic 49, 3) := by decide +kernel
theorem dX5_areTenths_7 : decode cX5_areTenths 7 = .ok (.ifCond .eq 17, 3) := by decide +kernel
theorem dX5_areTenths_10 : decode cX5_areTenths 10 = .ok (.iload_n 1, 1) := by decide +kernel
theorem dX5_areTenths_11 : decode cX5_areTenths 11 = .ok (.iconst 0, 1) := by decide +kernel
theorem dX5_areTenths_12 : decode cX5_areTenths 12 = .ok (.bipush 10, 2) := by decide +kernel
theorem dX5_areTenths_14 : decode cX5_areTenths 14 = .ok (.invokestatic 49, 3) := by decide +kernel
theorem dX5_areTenths_17 : decode cX5_areTenths 17 = .ok (.ifCond .eq 7, 3) := by decide +kernel
theorem dX5_areTenths_20 : decode cX5_areTenths 20 = .ok (.iconst 1, 1) := by decide +kernel
theorem dX5_areTenths_21 : decode cX5_areTenths 21 = .ok (.goto 4, 3) := by decide +kernel
theorem dX5_areTenths_24 : decode cX5_areTenths 24 = .ok (.iconst 0, 1) := by decide +kernel
theorem dX5_areTenths_25 : decode cX5_areTenths 25 = .ok (.ireturn, 1) := by decide +kernel
set_option maxRecDepth 20000 in
theorem ggX5_isDistance_X5_within : GoodIn wsX5_isDistance wsX5_within := goodIn_r _ [4] (by decide +kernel) (by decide +kernel)
set_option maxRecDepth 20000 in
theorem gX5_isDistance_X5_within : GoodIn wsX5_isDistance (va_wsS RX5 49 yX5_within wsX5_within) := goodIn_app (goodIn_of _ (by decide +kernel)) ggX5_isDistance_X5_within
theorem dX5_isDistance_0 : decode cX5_isDistance 0 = .ok (.iload_n 0, 1) := by decide +kernel
theorem dX5_isDistance_1 : decode cX5_isDistance 1 = .ok (.bipush (-9), 2) := by decide +kernel
theorem dX5_isDistance_3 : decode cX5_isDistance 3 = .ok (.bipush 9, 2) := by decide +kernel
theorem dX5_isDistance_5 : decode cX5_isDistance 5 = .ok (.invokestatic 49, 3) := by decide +kernel
theorem dX5_isDistance_8 : decode cX5_isDistance 8 = .ok (.ireturn, 1) := by decide +kernel
set_option maxRecDepth 20000 in
theorem ggX5_inLeastTerms_X5_greatestDivisor : GoodIn wsX5_inLeastTerms wsX5_greatestDivisor := goodIn_r _ [9] (by decide +kernel) (by decide +kernel)
set_option maxRecDepth 20000 in
theorem gX5_inLeastTerms_X5_greatestDivisor : GoodIn wsX5_inLeastTerms (va_wsS RX5 305 yX5_greatestDivisor wsX5_greatestDivisor) := goodIn_app (goodIn_of _ (by decide +kernel)) ggX5_inLeastTerms_X5_greatestDivisor
theorem dX5_inLeastTerms_0 : decode cX5_inLeastTerms 0 = .ok (.iload_n 0, 1) := by decide +kernel
theorem dX5_inLeastTerms_1 : decode cX5_inLeastTerms 1 = .ok (.invokestatic 302, 3) := by decide +kernel
theorem dX5_inLeastTerms_4 : decode cX5_inLeastTerms 4 = .ok (.iload_n 1, 1) := by decide +kernel
theorem dX5_inLeastTerms_5 : decode cX5_inLeastTerms 5 = .ok (.invokestatic 305, 3) := by decide +kernel
theorem dX5_inLeastTerms_8 : decode cX5_inLeastTerms 8 = .ok (.istore_n 3, 1) := by decide +kernel
theorem dX5_inLeastTerms_9 : decode cX5_inLeastTerms 9 = .ok (.iload_n 3, 1) := by decide +kernel
theorem dX5_inLeastTerms_10 : decode cX5_inLeastTerms 10 = .ok (.ifCond .ne 6, 3) := by decide +kernel
theorem dX5_inLeastTerms_13 : decode cX5_inLeastTerms 13 = .ok (.ldc 86, 2) := by decide +kernel
theorem dX5_inLeastTerms_15 : decode cX5_inLeastTerms 15 = .ok (.ireturn, 1) := by decide +kernel
theorem dX5_inLeastTerms_16 : decode cX5_inLeastTerms 16 = .ok (.iload_n 2, 1) := by decide +kernel
theorem dX5_inLeastTerms_17 : decode cX5_inLeastTerms 17 = .ok (.ifCond .ne 9, 3) := by decide +kernel
theorem dX5_inLeastTerms_20 : decode cX5_inLeastTerms 20 = .ok (.iload_n 0, 1) := by decide +kernel
theorem dX5_inLeastTerms_21 : decode cX5_inLeastTerms 21 = .ok (.iload_n 3, 1) := by decide +kernel
theorem dX5_inLeastTerms_22 : decode cX5_inLeastTerms 22 = .ok (.idiv, 1) := by decide +kernel
theorem dX5_inLeastTerms_23 : decode cX5_inLeastTerms 23 = .ok (.goto 6, 3) := by decide +kernel
theorem dX5_inLeastTerms_26 : decode cX5_inLeastTerms 26 = .ok (.iload_n 1, 1) := by decide +kernel
theorem dX5_inLeastTerms_27 : decode cX5_inLeastTerms 27 = .ok (.iload_n 3, 1) := by decide +kernel
theorem dX5_inLeastTerms_28 : decode cX5_inLeastTerms 28 = .ok (.idiv, 1) := by decide +kernel
theorem dX5_inLeastTerms_29 : decode cX5_inLeastTerms 29 = .ok (.ireturn, 1) := by decide +kernel
theorem dX5_greatestDivisor_0 : decode cX5_greatestDivisor 0 = .ok (.iload_n 0, 1) := by decide +kernel
theorem dX5_greatestDivisor_1 : decode cX5_greatestDivisor 1 = .ok (.istore_n 2, 1) := by decide +kernel
theorem dX5_greatestDivisor_2 : decode cX5_greatestDivisor 2 = .ok (.iload_n 1, 1) := by decide +kernel
theorem dX5_greatestDivisor_3 : decode cX5_greatestDivisor 3 = .ok (.istore_n 3, 1) := by decide +kernel
theorem dX5_greatestDivisor_4 : decode cX5_greatestDivisor 4 = .ok (.iconst 0, 1) := by decide +kernel
theorem dX5_greatestDivisor_5 : decode cX5_greatestDivisor 5 = .ok (.istore 4, 2) := by decide +kernel
theorem dX5_greatestDivisor_7 : decode cX5_greatestDivisor 7 = .ok (.iload 4, 2) := by decide +kernel
theorem dX5_greatestDivisor_9 : decode cX5_greatestDivisor 9 = .ok (.bipush 64, 2) := by decide +kernel
theorem dX5_greatestDivisor_11 : decode cX5_greatestDivisor 11 = .ok (.if_icmp .ge 23, 3) := by decide +kernel
theorem dX5_greatestDivisor_14 : decode cX5_greatestDivisor 14 = .ok (.iload_n 3, 1) := by decide +kernel
theorem dX5_greatestDivisor_15 : decode cX5_greatestDivisor 15 = .ok (.ifCond .eq 19, 3) := by decide +kernel
theorem dX5_greatestDivisor_18 : decode cX5_greatestDivisor 18 = .ok (.iload_n 2, 1) := by decide +kernel
theorem dX5_greatestDivisor_19 : decode cX5_greatestDivisor 19 = .ok (.iload_n 3, 1) := by decide +kernel
theorem dX5_greatestDivisor_20 : decode cX5_greatestDivisor 20 = .ok (.irem, 1) := by decide +kernel
theorem dX5_greatestDivisor_21 : decode cX5_greatestDivisor 21 = .ok (.istore 5, 2) := by decide +kernel
theorem dX5_greatestDivisor_23 : decode cX5_greatestDivisor 23 = .ok (.iload_n 3, 1) := by decide +kernel
theorem dX5_greatestDivisor_24 : decode cX5_greatestDivisor 24 = .ok (.istore_n 2, 1) := by decide +kernel
theorem dX5_greatestDivisor_25 : decode cX5_greatestDivisor 25 = .ok (.iload 5, 2) := by decide +kernel
theorem dX5_greatestDivisor_27 : decode cX5_greatestDivisor 27 = .ok (.istore_n 3, 1) := by decide +kernel
theorem dX5_greatestDivisor_28 : decode cX5_greatestDivisor 28 = .ok (.iinc 4 1, 3) := by decide +kernel
theorem dX5_greatestDivisor_31 : decode cX5_greatestDivisor 31 = .ok (.goto (-24), 3) := by decide +kernel
theorem dX5_greatestDivisor_34 : decode cX5_greatestDivisor 34 = .ok (.iload_n 2, 1) := by decide +kernel
theorem dX5_greatestDivisor_35 : decode cX5_greatestDivisor 35 = .ok (.ireturn, 1) := by decide +kernel
theorem dX5_choose_0 : decode cX5_choose 0 = .ok (.iload_n 1, 1) := by decide +kernel
theorem dX5_choose_1 : decode cX5_choose 1 = .ok (.ifCond .lt 8, 3) := by decide +kernel
theorem dX5_choose_4 : decode cX5_choose 4 = .ok (.iload_n 1, 1) := by decide +kernel
theorem dX5_choose_5 : decode cX5_choose 5 = .ok (.iload_n 0, 1) := by decide +kernel
theorem dX5_choose_6 : decode cX5_choose 6 = .ok (.if_icmp .le 5, 3) := by decide +kernel
theorem dX5_choose_9 : decode cX5_choose 9 = .ok (.lconst 0, 1) := by decide +kernel
theorem dX5_choose_10 : decode cX5_choose 10 = .ok (.lreturn, 1) := by decide +kernel
theorem dX5_choose_11 : decode cX5_choose 11 = .ok (.lconst 1, 1) := by decide +kernel
theorem dX5_choose_12 : decode cX5_choose 12 = .ok (.lstore_n 2, 1) := by decide +kernel
theorem dX5_choose_13 : decode cX5_choose 13 = .ok (.iconst 1, 1) := by decide +kernel
theorem dX5_choose_14 : decode cX5_choose 14 = .ok (.istore 4, 2) := by decide +kernel
theorem dX5_choose_16 : decode cX5_choose 16 = .ok (.iload 4, 2) := by decide +kernel
theorem dX5_choose_18 : decode cX5_choose 18 = .ok (.iload_n 1, 1) := by decide +kernel
theorem dX5_choose_19 : decode cX5_choose 19 = .ok (.if_icmp .gt 23, 3) := by decide +kernel
theorem dX5_choose_22 : decode cX5_choose 22 = .ok (.lload_n 2, 1) := by decide +kernel
theorem dX5_choose_23 : decode cX5_choose 23 = .ok (.iload_n 0, 1) := by decide +kernel
theorem dX5_choose_24 : decode cX5_choose 24 = .ok (.iload_n 1, 1) := by decide +kernel
theorem dX5_choose_25 : decode cX5_choose 25 = .ok (.isub, 1) := by decide +kernel
theorem dX5_choose_26 : decode cX5_choose 26 = .ok (.iload 4, 2) := by decide +kernel
theorem dX5_choose_28 : decode cX5_choose 28 = .ok (.iadd, 1) := by decide +kernel
theorem dX5_choose_29 : decode cX5_choose 29 = .ok (.i2l, 1) := by decide +kernel
theorem dX5_choose_30 : decode cX5_choose 30 = .ok (.lmul, 1) := by decide +kernel
theorem dX5_choose_31 : decode cX5_choose 31 = .ok (.iload 4, 2) := by decide +kernel
theorem dX5_choose_33 : decode cX5_choose 33 = .ok (.i2l, 1) := by decide +kernel
theorem dX5_choose_34 : decode cX5_choose 34 = .ok (.ldiv, 1) := by decide +kernel
theorem dX5_choose_35 : decode cX5_choose 35 = .ok (.lstore_n 2, 1) := by decide +kernel
theorem dX5_choose_36 : decode cX5_choose 36 = .ok (.iinc 4 1, 3) := by decide +kernel
theorem dX5_choose_39 : decode cX5_choose 39 = .ok (.goto (-23), 3) := by decide +kernel
theorem dX5_choose_42 : decode cX5_choose 42 = .ok (.lload_n 2, 1) := by decide +kernel
theorem dX5_choose_43 : decode cX5_choose 43 = .ok (.lreturn, 1) := by decide +kernel
theorem dX5_power_0 : decode cX5_power 0 = .ok (.lconst 1, 1) := by decide +kernel
theorem dX5_power_1 : decode cX5_power 1 = .ok (.lstore_n 2, 1) := by decide +kernel
theorem dX5_power_2 : decode cX5_power 2 = .ok (.iconst 0, 1) := by decide +kernel
theorem dX5_power_3 : decode cX5_power 3 = .ok (.istore 4, 2) := by decide +kernel
theorem dX5_power_5 : decode cX5_power 5 = .ok (.iload 4, 2) := by decide +kernel
theorem dX5_power_7 : decode cX5_power 7 = .ok (.iload_n 1, 1) := by decide +kernel
theorem dX5_power_8 : decode cX5_power 8 = .ok (.if_icmp .ge 14, 3) := by decide +kernel
theorem dX5_power_11 : decode cX5_power 11 = .ok (.lload_n 2, 1) := by decide +kernel
theorem dX5_power_12 : decode cX5_power 12 = .ok (.iload_n 0, 1) := by decide +kernel
theorem dX5_power_13 : decode cX5_power 13 = .ok (.i2l, 1) := by decide +kernel
theorem dX5_power_14 : decode cX5_power 14 = .ok (.lmul, 1) := by decide +kernel
theorem dX5_power_15 : decode cX5_power 15 = .ok (.lstore_n 2, 1) := by decide +kernel
theorem dX5_power_16 : decode cX5_power 16 = .ok (.iinc 4 1, 3) := by decide +kernel
theorem dX5_power_19 : decode cX5_power 19 = .ok (.goto (-14), 3) := by decide +kernel
theorem dX5_power_22 : decode cX5_power 22 = .ok (.lload_n 2, 1) := by decide +kernel
theorem dX5_power_23 : decode cX5_power 23 = .ok (.lreturn, 1) := by decide +kernel
set_option maxRecDepth 20000 in
theorem ggX5_rowsWith_X5_choose : GoodIn wsX5_rowsWith wsX5_choose := goodIn_r _ [4] (by decide +kernel) (by decide +kernel)
set_option maxRecDepth 20000 in
theorem gX5_rowsWith_X5_choose : GoodIn wsX5_rowsWith (va_wsS RX5 130 yX5_choose wsX5_choose) := goodIn_app (goodIn_of _ (by decide +kernel)) ggX5_rowsWith_X5_choose
set_option maxRecDepth 20000 in
theorem ggX5_rowsWith_X5_power : GoodIn wsX5_rowsWith wsX5_power := goodIn_r _ [7] (by decide +kernel) (by decide +kernel)
set_option maxRecDepth 20000 in
theorem gX5_rowsWith_X5_power : GoodIn wsX5_rowsWith (va_wsS RX5 188 yX5_power wsX5_power) := goodIn_app (goodIn_of _ (by decide +kernel)) ggX5_rowsWith_X5_power
theorem dX5_rowsWith_0 : decode cX5_rowsWith 0 = .ok (.iload_n 1, 1) := by decide +kernel
theorem dX5_rowsWith_1 : decode cX5_rowsWith 1 = .ok (.iload_n 2, 1) := by decide +kernel
theorem dX5_rowsWith_2 : decode cX5_rowsWith 2 = .ok (.invokestatic 130, 3) := by decide +kernel
theorem dX5_rowsWith_5 : decode cX5_rowsWith 5 = .ok (.iload_n 0, 1) := by decide +kernel
theorem dX5_rowsWith_6 : decode cX5_rowsWith 6 = .ok (.iload_n 2, 1) := by decide +kernel
theorem dX5_rowsWith_7 : decode cX5_rowsWith 7 = .ok (.invokestatic 188, 3) := by decide +kernel
theorem dX5_rowsWith_10 : decode cX5_rowsWith 10 = .ok (.lmul, 1) := by decide +kernel
theorem dX5_rowsWith_11 : decode cX5_rowsWith 11 = .ok (.bipush 10, 2) := by decide +kernel
theorem dX5_rowsWith_13 : decode cX5_rowsWith 13 = .ok (.iload_n 0, 1) := by decide +kernel
theorem dX5_rowsWith_14 : decode cX5_rowsWith 14 = .ok (.isub, 1) := by decide +kernel
theorem dX5_rowsWith_15 : decode cX5_rowsWith 15 = .ok (.iload_n 1, 1) := by decide +kernel
theorem dX5_rowsWith_16 : decode cX5_rowsWith 16 = .ok (.iload_n 2, 1) := by decide +kernel
theorem dX5_rowsWith_17 : decode cX5_rowsWith 17 = .ok (.isub, 1) := by decide +kernel
theorem dX5_rowsWith_18 : decode cX5_rowsWith 18 = .ok (.invokestatic 188, 3) := by decide +kernel
theorem dX5_rowsWith_21 : decode cX5_rowsWith 21 = .ok (.lmul, 1) := by decide +kernel
theorem dX5_rowsWith_22 : decode cX5_rowsWith 22 = .ok (.lreturn, 1) := by decide +kernel
set_option maxRecDepth 20000 in
theorem ggX5_sureRows_X5_rowsWith : GoodIn wsX5_sureRows wsX5_rowsWith := goodIn_r _ [4, 5, 6, 3, 7, 8, 9, 10] (by decide +kernel) (by decide +kernel)
set_option maxRecDepth 20000 in
theorem gX5_sureRows_X5_rowsWith : GoodIn wsX5_sureRows (va_wsS RX5 308 yX5_rowsWith wsX5_rowsWith) := goodIn_app (goodIn_of _ (by decide +kernel)) ggX5_sureRows_X5_rowsWith
theorem dX5_sureRows_0 : decode cX5_sureRows 0 = .ok (.lconst 0, 1) := by decide +kernel
theorem dX5_sureRows_1 : decode cX5_sureRows 1 = .ok (.lstore 4, 2) := by decide +kernel
theorem dX5_sureRows_3 : decode cX5_sureRows 3 = .ok (.lconst 0, 1) := by decide +kernel
theorem dX5_sureRows_4 : decode cX5_sureRows 4 = .ok (.lstore 6, 2) := by decide +kernel
theorem dX5_sureRows_6 : decode cX5_sureRows 6 = .ok (.iconst 0, 1) := by decide +kernel
theorem dX5_sureRows_7 : decode cX5_sureRows 7 = .ok (.istore 8, 2) := by decide +kernel
theorem dX5_sureRows_9 : decode cX5_sureRows 9 = .ok (.iconst 0, 1) := by decide +kernel
theorem dX5_sureRows_10 : decode cX5_sureRows 10 = .ok (.istore 9, 2) := by decide +kernel
theorem dX5_sureRows_12 : decode cX5_sureRows 12 = .ok (.iload 9, 2) := by decide +kernel
theorem dX5_sureRows_14 : decode cX5_sureRows 14 = .ok (.iload_n 2, 1) := by decide +kernel
theorem dX5_sureRows_15 : decode cX5_sureRows 15 = .ok (.if_icmp .gt 57, 3) := by decide +kernel
theorem dX5_sureRows_18 : decode cX5_sureRows 18 = .ok (.iload 8, 2) := by decide +kernel
theorem dX5_sureRows_20 : decode cX5_sureRows 20 = .ok (.iload_n 2, 1) := by decide +kernel
theorem dX5_sureRows_21 : decode cX5_sureRows 21 = .ok (.if_icmp .gt 30, 3) := by decide +kernel
theorem dX5_sureRows_24 : decode cX5_sureRows 24 = .ok (.iload 8, 2) := by decide +kernel
theorem dX5_sureRows_26 : decode cX5_sureRows 26 = .ok (.iload 9, 2) := by decide +kernel
theorem dX5_sureRows_28 : decode cX5_sureRows 28 = .ok (.iload_n 3, 1) := by decide +kernel
theorem dX5_sureRows_29 : decode cX5_sureRows 29 = .ok (.isub, 1) := by decide +kernel
theorem dX5_sureRows_30 : decode cX5_sureRows 30 = .ok (.if_icmp .gt 21, 3) := by decide +kernel
theorem dX5_sureRows_33 : decode cX5_sureRows 33 = .ok (.lload 6, 2) := by decide +kernel
theorem dX5_sureRows_35 : decode cX5_sureRows 35 = .ok (.iload_n 1, 1) := by decide +kernel
theorem dX5_sureRows_36 : decode cX5_sureRows 36 = .ok (.iload_n 2, 1) := by decide +kernel
theorem dX5_sureRows_37 : decode cX5_sureRows 37 = .ok (.iload 8, 2) := by decide +kernel
theorem dX5_sureRows_39 : decode cX5_sureRows 39 = .ok (.invokestatic 308, 3) := by decide +kernel
theorem dX5_sureRows_42 : decode cX5_sureRows 42 = .ok (.ladd, 1) := by decide +kernel
theorem dX5_sureRows_43 : decode cX5_sureRows 43 = .ok (.lstore 6, 2) := by decide +kernel
theorem dX5_sureRows_45 : decode cX5_sureRows 45 = .ok (.iinc 8 1, 3) := by decide +kernel
theorem dX5_sureRows_48 : decode cX5_sureRows 48 = .ok (.goto (-30), 3) := by decide +kernel
theorem dX5_sureRows_51 : decode cX5_sureRows 51 = .ok (.lload 4, 2) := by decide +kernel
theorem dX5_sureRows_53 : decode cX5_sureRows 53 = .ok (.iload_n 0, 1) := by decide +kernel
theorem dX5_sureRows_54 : decode cX5_sureRows 54 = .ok (.iload_n 2, 1) := by decide +kernel
theorem dX5_sureRows_55 : decode cX5_sureRows 55 = .ok (.iload 9, 2) := by decide +kernel
theorem dX5_sureRows_57 : decode cX5_sureRows 57 = .ok (.invokestatic 308, 3) := by decide +kernel
theorem dX5_sureRows_60 : decode cX5_sureRows 60 = .ok (.lload 6, 2) := by decide +kernel
theorem dX5_sureRows_62 : decode cX5_sureRows 62 = .ok (.lmul, 1) := by decide +kernel
theorem dX5_sureRows_63 : decode cX5_sureRows 63 = .ok (.ladd, 1) := by decide +kernel
theorem dX5_sureRows_64 : decode cX5_sureRows 64 = .ok (.lstore 4, 2) := by decide +kernel
theorem dX5_sureRows_66 : decode cX5_sureRows 66 = .ok (.iinc 9 1, 3) := by decide +kernel
theorem dX5_sureRows_69 : decode cX5_sureRows 69 = .ok (.goto (-57), 3) := by decide +kernel
theorem dX5_sureRows_72 : decode cX5_sureRows 72 = .ok (.lload 4, 2) := by decide +kernel
theorem dX5_sureRows_74 : decode cX5_sureRows 74 = .ok (.lreturn, 1) := by decide +kernel

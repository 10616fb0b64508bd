theorem dX6_init_0 : decode cX6_init 0 = .ok (.aload_n 0, 1) := by decide +kernel
theorem dX6_init_1 : decode cX6_init 1 = .ok (.invokespecial 1, 3) := by decide +kernel
theorem dX6_init_4 : decode cX6_init 4 = .ok (.aload_n 0, 1) := by decide +kernel
theorem dX6_init_5 : decode cX6_init 5 = .ok (.bipush 114, 2) := by decide +kernel
theorem dX6_init_7 : decode cX6_init 7 = .ok (.newarray .int, 2) := by decide +kernel
theorem dX6_init_9 : decode cX6_init 9 = .ok (.putfield 7, 3) := by decide +kernel
theorem dX6_init_12 : decode cX6_init 12 = .ok (.aload_n 0, 1) := by decide +kernel
theorem dX6_init_13 : decode cX6_init 13 = .ok (.sipush 228, 3) := by decide +kernel
theorem dX6_init_16 : decode cX6_init 16 = .ok (.newarray .int, 2) := by decide +kernel
theorem dX6_init_18 : decode cX6_init 18 = .ok (.putfield 13, 3) := by decide +kernel
theorem dX6_init_21 : decode cX6_init 21 = .ok (.aload_n 0, 1) := by decide +kernel
theorem dX6_init_22 : decode cX6_init 22 = .ok (.iconst 2, 1) := by decide +kernel
theorem dX6_init_23 : decode cX6_init 23 = .ok (.newarray .boolean, 2) := by decide +kernel
theorem dX6_init_25 : decode cX6_init 25 = .ok (.putfield 16, 3) := by decide +kernel
theorem dX6_init_28 : decode cX6_init 28 = .ok (.aload_n 0, 1) := by decide +kernel
theorem dX6_init_29 : decode cX6_init 29 = .ok (.sipush 300, 3) := by decide +kernel
theorem dX6_init_32 : decode cX6_init 32 = .ok (.newarray .int, 2) := by decide +kernel
theorem dX6_init_34 : decode cX6_init 34 = .ok (.putfield 20, 3) := by decide +kernel
theorem dX6_init_37 : decode cX6_init 37 = .ok (.aload_n 0, 1) := by decide +kernel
theorem dX6_init_38 : decode cX6_init 38 = .ok (.bipush 48, 2) := by decide +kernel
theorem dX6_init_40 : decode cX6_init 40 = .ok (.newarray .int, 2) := by decide +kernel
theorem dX6_init_42 : decode cX6_init 42 = .ok (.putfield 23, 3) := by decide +kernel
theorem dX6_init_45 : decode cX6_init 45 = .ok (.aload_n 0, 1) := by decide +kernel
theorem dX6_init_46 : decode cX6_init 46 = .ok (.bipush 20, 2) := by decide +kernel
theorem dX6_init_48 : decode cX6_init 48 = .ok (.putfield 26, 3) := by decide +kernel
theorem dX6_init_51 : decode cX6_init 51 = .ok (.aload_n 0, 1) := by decide +kernel
theorem dX6_init_52 : decode cX6_init 52 = .ok (.sipush 625, 3) := by decide +kernel
theorem dX6_init_55 : decode cX6_init 55 = .ok (.newarray .long, 2) := by decide +kernel
theorem dX6_init_57 : decode cX6_init 57 = .ok (.putfield 30, 3) := by decide +kernel
theorem dX6_init_60 : decode cX6_init 60 = .ok (.iconst 0, 1) := by decide +kernel
theorem dX6_init_61 : decode cX6_init 61 = .ok (.istore_n 1, 1) := by decide +kernel
theorem dX6_init_62 : decode cX6_init 62 = .ok (.iload_n 1, 1) := by decide +kernel
theorem dX6_init_63 : decode cX6_init 63 = .ok (.bipush 25, 2) := by decide +kernel
theorem dX6_init_65 : decode cX6_init 65 = .ok (.if_icmp .ge 81, 3) := by decide +kernel
theorem dX6_init_68 : decode cX6_init 68 = .ok (.aload_n 0, 1) := by decide +kernel
theorem dX6_init_69 : decode cX6_init 69 = .ok (.getfield 30, 3) := by decide +kernel
theorem dX6_init_72 : decode cX6_init 72 = .ok (.bipush 25, 2) := by decide +kernel
theorem dX6_init_74 : decode cX6_init 74 = .ok (.iload_n 1, 1) := by decide +kernel
theorem dX6_init_75 : decode cX6_init 75 = .ok (.imul, 1) := by decide +kernel
theorem dX6_init_76 : decode cX6_init 76 = .ok (.lconst 1, 1) := by decide +kernel
theorem dX6_init_77 : decode cX6_init 77 = .ok (.lastore, 1) := by decide +kernel
theorem dX6_init_78 : decode cX6_init 78 = .ok (.iconst 1, 1) := by decide +kernel
theorem dX6_init_79 : decode cX6_init 79 = .ok (.istore_n 2, 1) := by decide +kernel
theorem dX6_init_80 : decode cX6_init 80 = .ok (.iload_n 2, 1) := by decide +kernel
theorem dX6_init_81 : decode cX6_init 81 = .ok (.iload_n 1, 1) := by decide +kernel
theorem dX6_init_82 : decode cX6_init 82 = .ok (.if_icmp .gt 58, 3) := by decide +kernel
theorem dX6_init_85 : decode cX6_init 85 = .ok (.aload_n 0, 1) := by decide +kernel
theorem dX6_init_86 : decode cX6_init 86 = .ok (.getfield 30, 3) := by decide +kernel
theorem dX6_init_89 : decode cX6_init 89 = .ok (.bipush 25, 2) := by decide +kernel
theorem dX6_init_91 : decode cX6_init 91 = .ok (.iload_n 1, 1) := by decide +kernel
theorem dX6_init_92 : decode cX6_init 92 = .ok (.imul, 1) := by decide +kernel
theorem dX6_init_93 : decode cX6_init 93 = .ok (.iload_n 2, 1) := by decide +kernel
theorem dX6_init_94 : decode cX6_init 94 = .ok (.iadd, 1) := by decide +kernel
theorem dX6_init_95 : decode cX6_init 95 = .ok (.aload_n 0, 1) := by decide +kernel
theorem dX6_init_96 : decode cX6_init 96 = .ok (.getfield 30, 3) := by decide +kernel
theorem dX6_init_99 : decode cX6_init 99 = .ok (.bipush 25, 2) := by decide +kernel
theorem dX6_init_101 : decode cX6_init 101 = .ok (.iload_n 1, 1) := by decide +kernel
theorem dX6_init_102 : decode cX6_init 102 = .ok (.iconst 1, 1) := by decide +kernel
theorem dX6_init_103 : decode cX6_init 103 = .ok (.isub, 1) := by decide +kernel
theorem dX6_init_104 : decode cX6_init 104 = .ok (.imul, 1) := by decide +kernel
theorem dX6_init_105 : decode cX6_init 105 = .ok (.iload_n 2, 1) := by decide +kernel
theorem dX6_init_106 : decode cX6_init 106 = .ok (.iadd, 1) := by decide +kernel
theorem dX6_init_107 : decode cX6_init 107 = .ok (.iconst 1, 1) := by decide +kernel
theorem dX6_init_108 : decode cX6_init 108 = .ok (.isub, 1) := by decide +kernel
theorem dX6_init_109 : decode cX6_init 109 = .ok (.laload, 1) := by decide +kernel
theorem dX6_init_110 : decode cX6_init 110 = .ok (.iload_n 2, 1) := by decide +kernel
theorem dX6_init_111 : decode cX6_init 111 = .ok (.iload_n 1, 1) := by decide +kernel
theorem dX6_init_112 : decode cX6_init 112 = .ok (.if_icmp .ge 19, 3) := by decide +kernel
theorem dX6_init_115 : decode cX6_init 115 = .ok (.aload_n 0, 1) := by decide +kernel
theorem dX6_init_116 : decode cX6_init 116 = .ok (.getfield 30, 3) := by decide +kernel
theorem dX6_init_119 : decode cX6_init 119 = .ok (.bipush 25, 2) := by decide +kernel
theorem dX6_init_121 : decode cX6_init 121 = .ok (.iload_n 1, 1) := by decide +kernel
theorem dX6_init_122 : decode cX6_init 122 = .ok (.iconst 1, 1) := by decide +kernel
theorem dX6_init_123 : decode cX6_init 123 = .ok (.isub, 1) := by decide +kernel
theorem dX6_init_124 : decode cX6_init 124 = .ok (.imul, 1) := by decide +kernel
theorem dX6_init_125 : decode cX6_init 125 = .ok (.iload_n 2, 1) := by decide +kernel
theorem dX6_init_126 : decode cX6_init 126 = .ok (.iadd, 1) := by decide +kernel
theorem dX6_init_127 : decode cX6_init 127 = .ok (.laload, 1) := by decide +kernel
theorem dX6_init_128 : decode cX6_init 128 = .ok (.goto 4, 3) := by decide +kernel
theorem dX6_init_131 : decode cX6_init 131 = .ok (.lconst 0, 1) := by decide +kernel
theorem dX6_init_132 : decode cX6_init 132 = .ok (.ladd, 1) := by decide +kernel
theorem dX6_init_133 : decode cX6_init 133 = .ok (.lastore, 1) := by decide +kernel
theorem dX6_init_134 : decode cX6_init 134 = .ok (.iinc 2 1, 3) := by decide +kernel
theorem dX6_init_137 : decode cX6_init 137 = .ok (.goto (-57), 3) := by decide +kernel
theorem dX6_init_140 : decode cX6_init 140 = .ok (.iinc 1 1, 3) := by decide +kernel
theorem dX6_init_143 : decode cX6_init 143 = .ok (.goto (-81), 3) := by decide +kernel
theorem dX6_init_146 : decode cX6_init 146 = .ok (.return_, 1) := by decide +kernel
theorem dX6_in_0 : decode cX6_in 0 = .ok (.iload_n 0, 1) := by decide +kernel
theorem dX6_in_1 : decode cX6_in 1 = .ok (.iload_n 1, 1) := by decide +kernel
theorem dX6_in_2 : decode cX6_in 2 = .ok (.if_icmp .lt 12, 3) := by decide +kernel
theorem dX6_in_5 : decode cX6_in 5 = .ok (.iload_n 0, 1) := by decide +kernel
theorem dX6_in_6 : decode cX6_in 6 = .ok (.iload_n 2, 1) := by decide +kernel
theorem dX6_in_7 : decode cX6_in 7 = .ok (.if_icmp .gt 7, 3) := by decide +kernel
theorem dX6_in_10 : decode cX6_in 10 = .ok (.iconst 1, 1) := by decide +kernel
theorem dX6_in_11 : decode cX6_in 11 = .ok (.goto 4, 3) := by decide +kernel
theorem dX6_in_14 : decode cX6_in 14 = .ok (.iconst 0, 1) := by decide +kernel
theorem dX6_in_15 : decode cX6_in 15 = .ok (.ireturn, 1) := by decide +kernel
theorem dX6_size_0 : decode cX6_size 0 = .ok (.iload_n 0, 1) := by decide +kernel
theorem dX6_size_1 : decode cX6_size 1 = .ok (.ifCond .ge 8, 3) := by decide +kernel
theorem dX6_size_4 : decode cX6_size 4 = .ok (.iload_n 0, 1) := by decide +kernel
theorem dX6_size_5 : decode cX6_size 5 = .ok (.ineg, 1) := by decide +kernel
theorem dX6_size_6 : decode cX6_size 6 = .ok (.goto 4, 3) := by decide +kernel
theorem dX6_size_9 : decode cX6_size 9 = .ok (.iload_n 0, 1) := by decide +kernel
theorem dX6_size_10 : decode cX6_size 10 = .ok (.ireturn, 1) := by decide +kernel
theorem dX6_choose_0 : decode cX6_choose 0 = .ok (.iload_n 2, 1) := by decide +kernel
theorem dX6_choose_1 : decode cX6_choose 1 = .ok (.ifCond .lt 8, 3) := by decide +kernel
theorem dX6_choose_4 : decode cX6_choose 4 = .ok (.iload_n 2, 1) := by decide +kernel
theorem dX6_choose_5 : decode cX6_choose 5 = .ok (.iload_n 1, 1) := by decide +kernel
theorem dX6_choose_6 : decode cX6_choose 6 = .ok (.if_icmp .le 7, 3) := by decide +kernel
theorem dX6_choose_9 : decode cX6_choose 9 = .ok (.lconst 0, 1) := by decide +kernel
theorem dX6_choose_10 : decode cX6_choose 10 = .ok (.goto 14, 3) := by decide +kernel
theorem dX6_choose_13 : decode cX6_choose 13 = .ok (.aload_n 0, 1) := by decide +kernel
theorem dX6_choose_14 : decode cX6_choose 14 = .ok (.getfield 30, 3) := by decide +kernel
theorem dX6_choose_17 : decode cX6_choose 17 = .ok (.bipush 25, 2) := by decide +kernel
theorem dX6_choose_19 : decode cX6_choose 19 = .ok (.iload_n 1, 1) := by decide +kernel
theorem dX6_choose_20 : decode cX6_choose 20 = .ok (.imul, 1) := by decide +kernel
theorem dX6_choose_21 : decode cX6_choose 21 = .ok (.iload_n 2, 1) := by decide +kernel
theorem dX6_choose_22 : decode cX6_choose 22 = .ok (.iadd, 1) := by decide +kernel
theorem dX6_choose_23 : decode cX6_choose 23 = .ok (.laload, 1) := by decide +kernel
theorem dX6_choose_24 : decode cX6_choose 24 = .ok (.lreturn, 1) := by decide +kernel
set_option maxRecDepth 20000 in
theorem ggX6_isHouse_X6_in : GoodIn wsX6_isHouse wsX6_in := goodIn_r _ [5] (by decide +kernel) (by decide +kernel)
set_option maxRecDepth 20000 in
theorem gX6_isHouse_X6_in : GoodIn wsX6_isHouse (va_wsS RX6 37 yX6_in wsX6_in) := goodIn_app (goodIn_of _ (by decide +kernel)) ggX6_isHouse_X6_in
theorem dX6_isHouse_0 : decode cX6_isHouse 0 = .ok (.iload_n 1, 1) := by decide +kernel
theorem dX6_isHouse_1 : decode cX6_isHouse 1 = .ok (.iconst 0, 1) := by decide +kernel
theorem dX6_isHouse_2 : decode cX6_isHouse 2 = .ok (.aload_n 0, 1) := by decide +kernel
theorem dX6_isHouse_3 : decode cX6_isHouse 3 = .ok (.getfield 7, 3) := by decide +kernel
theorem dX6_isHouse_6 : decode cX6_isHouse 6 = .ok (.iconst 0, 1) := by decide +kernel
theorem dX6_isHouse_7 : decode cX6_isHouse 7 = .ok (.iaload, 1) := by decide +kernel
theorem dX6_isHouse_8 : decode cX6_isHouse 8 = .ok (.iconst 1, 1) := by decide +kernel
theorem dX6_isHouse_9 : decode cX6_isHouse 9 = .ok (.isub, 1) := by decide +kernel
theorem dX6_isHouse_10 : decode cX6_isHouse 10 = .ok (.invokestatic 37, 3) := by decide +kernel
theorem dX6_isHouse_13 : decode cX6_isHouse 13 = .ok (.ireturn, 1) := by decide +kernel
theorem dX6_of_0 : decode cX6_of 0 = .ok (.aload_n 0, 1) := by decide +kernel
theorem dX6_of_1 : decode cX6_of 1 = .ok (.getfield 7, 3) := by decide +kernel
theorem dX6_of_4 : decode cX6_of 4 = .ok (.iconst 1, 1) := by decide +kernel
theorem dX6_of_5 : decode cX6_of 5 = .ok (.iconst 4, 1) := by decide +kernel
theorem dX6_of_6 : decode cX6_of 6 = .ok (.iload_n 1, 1) := by decide +kernel
theorem dX6_of_7 : decode cX6_of 7 = .ok (.imul, 1) := by decide +kernel
theorem dX6_of_8 : decode cX6_of 8 = .ok (.iadd, 1) := by decide +kernel
theorem dX6_of_9 : decode cX6_of 9 = .ok (.iload_n 2, 1) := by decide +kernel
theorem dX6_of_10 : decode cX6_of 10 = .ok (.iadd, 1) := by decide +kernel
theorem dX6_of_11 : decode cX6_of 11 = .ok (.iaload, 1) := by decide +kernel
theorem dX6_of_12 : decode cX6_of 12 = .ok (.ireturn, 1) := by decide +kernel
set_option maxRecDepth 20000 in
theorem ggX6_house_X6_in : GoodIn wsX6_house wsX6_in := goodIn_r _ [6] (by decide +kernel) (by decide +kernel)
set_option maxRecDepth 20000 in
theorem gX6_house_X6_in : GoodIn wsX6_house (va_wsS RX6 37 yX6_in wsX6_in) := goodIn_app (goodIn_of _ (by decide +kernel)) ggX6_house_X6_in
theorem dX6_house_0 : decode cX6_house 0 = .ok (.aload_n 0, 1) := by decide +kernel
theorem dX6_house_1 : decode cX6_house 1 = .ok (.iconst 0, 1) := by decide +kernel
theorem dX6_house_2 : decode cX6_house 2 = .ok (.putfield 34, 3) := by decide +kernel
theorem dX6_house_5 : decode cX6_house 5 = .ok (.iload_n 1, 1) := by decide +kernel
theorem dX6_house_6 : decode cX6_house 6 = .ok (.iconst 1, 1) := by decide +kernel
theorem dX6_house_7 : decode cX6_house 7 = .ok (.bipush 12, 2) := by decide +kernel
theorem dX6_house_9 : decode cX6_house 9 = .ok (.invokestatic 37, 3) := by decide +kernel
theorem dX6_house_12 : decode cX6_house 12 = .ok (.ifCond .eq 32, 3) := by decide +kernel
theorem dX6_house_15 : decode cX6_house 15 = .ok (.iload_n 2, 1) := by decide +kernel
theorem dX6_house_16 : decode cX6_house 16 = .ok (.iconst 0, 1) := by decide +kernel
theorem dX6_house_17 : decode cX6_house 17 = .ok (.iload_n 1, 1) := by decide +kernel
theorem dX6_house_18 : decode cX6_house 18 = .ok (.invokestatic 37, 3) := by decide +kernel
theorem dX6_house_21 : decode cX6_house 21 = .ok (.ifCond .eq 23, 3) := by decide +kernel
theorem dX6_house_24 : decode cX6_house 24 = .ok (.iload_n 3, 1) := by decide +kernel
theorem dX6_house_25 : decode cX6_house 25 = .ok (.iconst 0, 1) := by decide +kernel
theorem dX6_house_26 : decode cX6_house 26 = .ok (.iload_n 1, 1) := by decide +kernel
theorem dX6_house_27 : decode cX6_house 27 = .ok (.invokestatic 37, 3) := by decide +kernel
theorem dX6_house_30 : decode cX6_house 30 = .ok (.ifCond .eq 14, 3) := by decide +kernel
theorem dX6_house_33 : decode cX6_house 33 = .ok (.iload 4, 2) := by decide +kernel
theorem dX6_house_35 : decode cX6_house 35 = .ok (.iconst 0, 1) := by decide +kernel
theorem dX6_house_36 : decode cX6_house 36 = .ok (.bipush 63, 2) := by decide +kernel
theorem dX6_house_38 : decode cX6_house 38 = .ok (.invokestatic 37, 3) := by decide +kernel
theorem dX6_house_41 : decode cX6_house 41 = .ok (.ifCond .ne 5, 3) := by decide +kernel
theorem dX6_house_44 : decode cX6_house 44 = .ok (.iconst (-1), 1) := by decide +kernel
theorem dX6_house_45 : decode cX6_house 45 = .ok (.ireturn, 1) := by decide +kernel
theorem dX6_house_46 : decode cX6_house 46 = .ok (.aload_n 0, 1) := by decide +kernel
theorem dX6_house_47 : decode cX6_house 47 = .ok (.getfield 7, 3) := by decide +kernel
theorem dX6_house_50 : decode cX6_house 50 = .ok (.iconst 0, 1) := by decide +kernel
theorem dX6_house_51 : decode cX6_house 51 = .ok (.iaload, 1) := by decide +kernel
theorem dX6_house_52 : decode cX6_house 52 = .ok (.bipush 12, 2) := by decide +kernel
theorem dX6_house_54 : decode cX6_house 54 = .ok (.if_icmp .ne 6, 3) := by decide +kernel
theorem dX6_house_57 : decode cX6_house 57 = .ok (.bipush (-3), 2) := by decide +kernel
theorem dX6_house_59 : decode cX6_house 59 = .ok (.ireturn, 1) := by decide +kernel
theorem dX6_house_60 : decode cX6_house 60 = .ok (.iconst 1, 1) := by decide +kernel
theorem dX6_house_61 : decode cX6_house 61 = .ok (.iconst 4, 1) := by decide +kernel
theorem dX6_house_62 : decode cX6_house 62 = .ok (.aload_n 0, 1) := by decide +kernel
theorem dX6_house_63 : decode cX6_house 63 = .ok (.getfield 7, 3) := by decide +kernel
theorem dX6_house_66 : decode cX6_house 66 = .ok (.iconst 0, 1) := by decide +kernel
theorem dX6_house_67 : decode cX6_house 67 = .ok (.iaload, 1) := by decide +kernel
theorem dX6_house_68 : decode cX6_house 68 = .ok (.imul, 1) := by decide +kernel
theorem dX6_house_69 : decode cX6_house 69 = .ok (.iadd, 1) := by decide +kernel
theorem dX6_house_70 : decode cX6_house 70 = .ok (.istore 5, 2) := by decide +kernel
theorem dX6_house_72 : decode cX6_house 72 = .ok (.aload_n 0, 1) := by decide +kernel
theorem dX6_house_73 : decode cX6_house 73 = .ok (.getfield 7, 3) := by decide +kernel
theorem dX6_house_76 : decode cX6_house 76 = .ok (.iload 5, 2) := by decide +kernel
theorem dX6_house_78 : decode cX6_house 78 = .ok (.iload_n 1, 1) := by decide +kernel
theorem dX6_house_79 : decode cX6_house 79 = .ok (.iastore, 1) := by decide +kernel
theorem dX6_house_80 : decode cX6_house 80 = .ok (.aload_n 0, 1) := by decide +kernel
theorem dX6_house_81 : decode cX6_house 81 = .ok (.getfield 7, 3) := by decide +kernel
theorem dX6_house_84 : decode cX6_house 84 = .ok (.iload 5, 2) := by decide +kernel
theorem dX6_house_86 : decode cX6_house 86 = .ok (.iconst 1, 1) := by decide +kernel
theorem dX6_house_87 : decode cX6_house 87 = .ok (.iadd, 1) := by decide +kernel
theorem dX6_house_88 : decode cX6_house 88 = .ok (.iload_n 2, 1) := by decide +kernel
theorem dX6_house_89 : decode cX6_house 89 = .ok (.iastore, 1) := by decide +kernel
theorem dX6_house_90 : decode cX6_house 90 = .ok (.aload_n 0, 1) := by decide +kernel
theorem dX6_house_91 : decode cX6_house 91 = .ok (.getfield 7, 3) := by decide +kernel
theorem dX6_house_94 : decode cX6_house 94 = .ok (.iload 5, 2) := by decide +kernel
theorem dX6_house_96 : decode cX6_house 96 = .ok (.iconst 2, 1) := by decide +kernel
theorem dX6_house_97 : decode cX6_house 97 = .ok (.iadd, 1) := by decide +kernel
theorem dX6_house_98 : decode cX6_house 98 = .ok (.iload_n 3, 1) := by decide +kernel
theorem dX6_house_99 : decode cX6_house 99 = .ok (.iastore, 1) := by decide +kernel
theorem dX6_house_100 : decode cX6_house 100 = .ok (.aload_n 0, 1) := by decide +kernel
theorem dX6_house_101 : decode cX6_house 101 = .ok (.getfield 7, 3) := by decide +kernel
theorem dX6_house_104 : decode cX6_house 104 = .ok (.iload 5, 2) := by decide +kernel
theorem dX6_house_106 : decode cX6_house 106 = .ok (.iconst 3, 1) := by decide +kernel
theorem dX6_house_107 : decode cX6_house 107 = .ok (.iadd, 1) := by decide +kernel
theorem dX6_house_108 : decode cX6_house 108 = .ok (.iload 4, 2) := by decide +kernel
theorem dX6_house_110 : decode cX6_house 110 = .ok (.iastore, 1) := by decide +kernel
theorem dX6_house_111 : decode cX6_house 111 = .ok (.aload_n 0, 1) := by decide +kernel
theorem dX6_house_112 : decode cX6_house 112 = .ok (.getfield 7, 3) := by decide +kernel
theorem dX6_house_115 : decode cX6_house 115 = .ok (.iconst 0, 1) := by decide +kernel
theorem dX6_house_116 : decode cX6_house 116 = .ok (.dup2, 1) := by decide +kernel
theorem dX6_house_117 : decode cX6_house 117 = .ok (.iaload, 1) := by decide +kernel
theorem dX6_house_118 : decode cX6_house 118 = .ok (.iconst 1, 1) := by decide +kernel
theorem dX6_house_119 : decode cX6_house 119 = .ok (.iadd, 1) := by decide +kernel
theorem dX6_house_120 : decode cX6_house 120 = .ok (.iastore, 1) := by decide +kernel
theorem dX6_house_121 : decode cX6_house 121 = .ok (.aload_n 0, 1) := by decide +kernel
theorem dX6_house_122 : decode cX6_house 122 = .ok (.getfield 7, 3) := by decide +kernel
theorem dX6_house_125 : decode cX6_house 125 = .ok (.iconst 0, 1) := by decide +kernel
theorem dX6_house_126 : decode cX6_house 126 = .ok (.iaload, 1) := by decide +kernel
theorem dX6_house_127 : decode cX6_house 127 = .ok (.iconst 1, 1) := by decide +kernel
theorem dX6_house_128 : decode cX6_house 128 = .ok (.isub, 1) := by decide +kernel
theorem dX6_house_129 : decode cX6_house 129 = .ok (.ireturn, 1) := by decide +kernel
set_option maxRecDepth 20000 in
theorem ggX6_about_X6_isHouse : GoodIn wsX6_about wsX6_isHouse := goodIn_r _ [6, 7, 8, 9, 5, 10, 15, 16, 17, 18, 19, 20, 21, 22, 23, 24, 25, 26, 27, 28, 29, 30, 31, 32, 33, 34] (by decide +kernel) (by decide +kernel)
set_option maxRecDepth 20000 in
theorem gX6_about_X6_isHouse : GoodIn wsX6_about (wsV RX6 41 RX6 yX6_isHouse wsX6_isHouse) := goodIn_app (goodIn_of _ (by decide +kernel)) ggX6_about_X6_isHouse
set_option maxRecDepth 20000 in
theorem ggX6_about_X6_in : GoodIn wsX6_about wsX6_in := goodIn_r _ [10] (by decide +kernel) (by decide +kernel)
set_option maxRecDepth 20000 in
theorem gX6_about_X6_in : GoodIn wsX6_about (va_wsS RX6 37 yX6_in wsX6_in) := goodIn_app (goodIn_of _ (by decide +kernel)) ggX6_about_X6_in
set_option maxRecDepth 20000 in
theorem ggX6_about_X6_of : GoodIn wsX6_about wsX6_of := goodIn_r _ [14, 7, 15, 16, 17, 18, 19, 20, 21, 22, 23, 24, 25, 26, 27, 28, 29, 30, 31, 32, 33, 34] (by decide +kernel) (by decide +kernel)
set_option maxRecDepth 20000 in
theorem gX6_about_X6_of : GoodIn wsX6_about (wsV RX6 45 RX6 yX6_of wsX6_of) := goodIn_app (goodIn_of _ (by decide +kernel)) ggX6_about_X6_of
theorem dX6_about_0 : decode cX6_about 0 = .ok (.aload_n 0, 1) := by decide +kernel
theorem dX6_about_1 : decode cX6_about 1 = .ok (.iconst 0, 1) := by decide +kernel
theorem dX6_about_2 : decode cX6_about 2 = .ok (.putfield 34, 3) := by decide +kernel
theorem dX6_about_5 : decode cX6_about 5 = .ok (.aload_n 0, 1) := by decide +kernel
theorem dX6_about_6 : decode cX6_about 6 = .ok (.iload_n 1, 1) := by decide +kernel
theorem dX6_about_7 : decode cX6_about 7 = .ok (.invokevirtual 41, 3) := by decide +kernel
theorem dX6_about_10 : decode cX6_about 10 = .ok (.ifCond .eq 21, 3) := by decide +kernel
theorem dX6_about_13 : decode cX6_about 13 = .ok (.iload_n 2, 1) := by decide +kernel
theorem dX6_about_14 : decode cX6_about 14 = .ok (.iconst 0, 1) := by decide +kernel
theorem dX6_about_15 : decode cX6_about 15 = .ok (.iconst 3, 1) := by decide +kernel
theorem dX6_about_16 : decode cX6_about 16 = .ok (.invokestatic 37, 3) := by decide +kernel
theorem dX6_about_19 : decode cX6_about 19 = .ok (.ifCond .eq 12, 3) := by decide +kernel
theorem dX6_about_22 : decode cX6_about 22 = .ok (.aload_n 0, 1) := by decide +kernel
theorem dX6_about_23 : decode cX6_about 23 = .ok (.iload_n 1, 1) := by decide +kernel
theorem dX6_about_24 : decode cX6_about 24 = .ok (.iload_n 2, 1) := by decide +kernel
theorem dX6_about_25 : decode cX6_about 25 = .ok (.invokevirtual 45, 3) := by decide +kernel
theorem dX6_about_28 : decode cX6_about 28 = .ok (.goto 4, 3) := by decide +kernel
theorem dX6_about_31 : decode cX6_about 31 = .ok (.iconst (-1), 1) := by decide +kernel
theorem dX6_about_32 : decode cX6_about 32 = .ok (.ireturn, 1) := by decide +kernel
set_option maxRecDepth 20000 in
theorem ggX6_mend_X6_isHouse : GoodIn wsX6_mend wsX6_isHouse := goodIn_r _ [7, 2, 8, 9, 6, 10, 15, 16, 17, 18, 19, 20, 21, 22, 23, 24, 25, 26, 27, 28, 29, 30, 31, 32, 33, 34] (by decide +kernel) (by decide +kernel)
set_option maxRecDepth 20000 in
theorem gX6_mend_X6_isHouse : GoodIn wsX6_mend (wsV RX6 41 RX6 yX6_isHouse wsX6_isHouse) := goodIn_app (goodIn_of _ (by decide +kernel)) ggX6_mend_X6_isHouse
set_option maxRecDepth 20000 in
theorem ggX6_mend_X6_of : GoodIn wsX6_mend wsX6_of := goodIn_r _ [14, 2, 15, 16, 17, 18, 19, 20, 21, 22, 23, 24, 25, 26, 27, 28, 29, 30, 31, 32, 33, 34] (by decide +kernel) (by decide +kernel)
set_option maxRecDepth 20000 in
theorem gX6_mend_X6_of : GoodIn wsX6_mend (wsV RX6 45 RX6 yX6_of wsX6_of) := goodIn_app (goodIn_of _ (by decide +kernel)) ggX6_mend_X6_of
set_option maxRecDepth 20000 in
theorem ggX6_mend_X6_in : GoodIn wsX6_mend wsX6_in := goodIn_r _ [10] (by decide +kernel) (by decide +kernel)
set_option maxRecDepth 20000 in
theorem gX6_mend_X6_in : GoodIn wsX6_mend (va_wsS RX6 37 yX6_in wsX6_in) := goodIn_app (goodIn_of _ (by decide +kernel)) ggX6_mend_X6_in
theorem dX6_mend_0 : decode cX6_mend 0 = .ok (.aload_n 0, 1) := by decide +kernel
theorem dX6_mend_1 : decode cX6_mend 1 = .ok (.iconst 0, 1) := by decide +kernel
theorem dX6_mend_2 : decode cX6_mend 2 = .ok (.putfield 34, 3) := by decide +kernel
theorem dX6_mend_5 : decode cX6_mend 5 = .ok (.aload_n 0, 1) := by decide +kernel
theorem dX6_mend_6 : decode cX6_mend 6 = .ok (.iload_n 1, 1) := by decide +kernel
theorem dX6_mend_7 : decode cX6_mend 7 = .ok (.invokevirtual 41, 3) := by decide +kernel
theorem dX6_mend_10 : decode cX6_mend 10 = .ok (.ifCond .eq 31, 3) := by decide +kernel
theorem dX6_mend_13 : decode cX6_mend 13 = .ok (.iload_n 2, 1) := by decide +kernel
theorem dX6_mend_14 : decode cX6_mend 14 = .ok (.iconst 0, 1) := by decide +kernel
theorem dX6_mend_15 : decode cX6_mend 15 = .ok (.aload_n 0, 1) := by decide +kernel
theorem dX6_mend_16 : decode cX6_mend 16 = .ok (.iload_n 1, 1) := by decide +kernel
theorem dX6_mend_17 : decode cX6_mend 17 = .ok (.iconst 0, 1) := by decide +kernel
theorem dX6_mend_18 : decode cX6_mend 18 = .ok (.invokevirtual 45, 3) := by decide +kernel
theorem dX6_mend_21 : decode cX6_mend 21 = .ok (.invokestatic 37, 3) := by decide +kernel
theorem dX6_mend_24 : decode cX6_mend 24 = .ok (.ifCond .eq 17, 3) := by decide +kernel
theorem dX6_mend_27 : decode cX6_mend 27 = .ok (.iload_n 3, 1) := by decide +kernel
theorem dX6_mend_28 : decode cX6_mend 28 = .ok (.iconst 0, 1) := by decide +kernel
theorem dX6_mend_29 : decode cX6_mend 29 = .ok (.aload_n 0, 1) := by decide +kernel
theorem dX6_mend_30 : decode cX6_mend 30 = .ok (.iload_n 1, 1) := by decide +kernel
theorem dX6_mend_31 : decode cX6_mend 31 = .ok (.iconst 0, 1) := by decide +kernel
theorem dX6_mend_32 : decode cX6_mend 32 = .ok (.invokevirtual 45, 3) := by decide +kernel
theorem dX6_mend_35 : decode cX6_mend 35 = .ok (.invokestatic 37, 3) := by decide +kernel
theorem dX6_mend_38 : decode cX6_mend 38 = .ok (.ifCond .ne 5, 3) := by decide +kernel
theorem dX6_mend_41 : decode cX6_mend 41 = .ok (.iconst (-1), 1) := by decide +kernel
theorem dX6_mend_42 : decode cX6_mend 42 = .ok (.ireturn, 1) := by decide +kernel
theorem dX6_mend_43 : decode cX6_mend 43 = .ok (.bipush 100, 2) := by decide +kernel
theorem dX6_mend_45 : decode cX6_mend 45 = .ok (.aload_n 0, 1) := by decide +kernel
theorem dX6_mend_46 : decode cX6_mend 46 = .ok (.iload_n 1, 1) := by decide +kernel
theorem dX6_mend_47 : decode cX6_mend 47 = .ok (.iconst 1, 1) := by decide +kernel
theorem dX6_mend_48 : decode cX6_mend 48 = .ok (.invokevirtual 45, 3) := by decide +kernel
theorem dX6_mend_51 : decode cX6_mend 51 = .ok (.imul, 1) := by decide +kernel
theorem dX6_mend_52 : decode cX6_mend 52 = .ok (.aload_n 0, 1) := by decide +kernel
theorem dX6_mend_53 : decode cX6_mend 53 = .ok (.iload_n 1, 1) := by decide +kernel
theorem dX6_mend_54 : decode cX6_mend 54 = .ok (.iconst 2, 1) := by decide +kernel
theorem dX6_mend_55 : decode cX6_mend 55 = .ok (.invokevirtual 45, 3) := by decide +kernel
theorem dX6_mend_58 : decode cX6_mend 58 = .ok (.iadd, 1) := by decide +kernel
theorem dX6_mend_59 : decode cX6_mend 59 = .ok (.istore 4, 2) := by decide +kernel
theorem dX6_mend_61 : decode cX6_mend 61 = .ok (.aload_n 0, 1) := by decide +kernel
theorem dX6_mend_62 : decode cX6_mend 62 = .ok (.getfield 7, 3) := by decide +kernel
theorem dX6_mend_65 : decode cX6_mend 65 = .ok (.iconst 1, 1) := by decide +kernel
theorem dX6_mend_66 : decode cX6_mend 66 = .ok (.iconst 4, 1) := by decide +kernel
theorem dX6_mend_67 : decode cX6_mend 67 = .ok (.iload_n 1, 1) := by decide +kernel
theorem dX6_mend_68 : decode cX6_mend 68 = .ok (.imul, 1) := by decide +kernel
theorem dX6_mend_69 : decode cX6_mend 69 = .ok (.iadd, 1) := by decide +kernel
theorem dX6_mend_70 : decode cX6_mend 70 = .ok (.iconst 1, 1) := by decide +kernel
theorem dX6_mend_71 : decode cX6_mend 71 = .ok (.iadd, 1) := by decide +kernel
theorem dX6_mend_72 : decode cX6_mend 72 = .ok (.iload_n 2, 1) := by decide +kernel
theorem dX6_mend_73 : decode cX6_mend 73 = .ok (.iastore, 1) := by decide +kernel
theorem dX6_mend_74 : decode cX6_mend 74 = .ok (.aload_n 0, 1) := by decide +kernel
theorem dX6_mend_75 : decode cX6_mend 75 = .ok (.getfield 7, 3) := by decide +kernel
theorem dX6_mend_78 : decode cX6_mend 78 = .ok (.iconst 1, 1) := by decide +kernel
theorem dX6_mend_79 : decode cX6_mend 79 = .ok (.iconst 4, 1) := by decide +kernel
theorem dX6_mend_80 : decode cX6_mend 80 = .ok (.iload_n 1, 1) := by decide +kernel
theorem dX6_mend_81 : decode cX6_mend 81 = .ok (.imul, 1) := by decide +kernel
theorem dX6_mend_82 : decode cX6_mend 82 = .ok (.iadd, 1) := by decide +kernel
theorem dX6_mend_83 : decode cX6_mend 83 = .ok (.iconst 2, 1) := by decide +kernel
theorem dX6_mend_84 : decode cX6_mend 84 = .ok (.iadd, 1) := by decide +kernel
theorem dX6_mend_85 : decode cX6_mend 85 = .ok (.iload_n 3, 1) := by decide +kernel
theorem dX6_mend_86 : decode cX6_mend 86 = .ok (.iastore, 1) := by decide +kernel
theorem dX6_mend_87 : decode cX6_mend 87 = .ok (.iload 4, 2) := by decide +kernel
theorem dX6_mend_89 : decode cX6_mend 89 = .ok (.ireturn, 1) := by decide +kernel
set_option maxRecDepth 20000 in
theorem ggX6_counts_X6_of : GoodIn wsX6_counts wsX6_of := goodIn_r _ [8, 3, 9, 10, 11, 12, 13, 14, 15, 16, 17, 18, 19, 20, 21, 22, 23, 24, 25, 26, 27, 28] (by decide +kernel) (by decide +kernel)
set_option maxRecDepth 20000 in
theorem gX6_counts_X6_of : GoodIn wsX6_counts (wsV RX6 45 RX6 yX6_of wsX6_of) := goodIn_app (goodIn_of _ (by decide +kernel)) ggX6_counts_X6_of
theorem dX6_counts_0 : decode cX6_counts 0 = .ok (.aload_n 0, 1) := by decide +kernel
theorem dX6_counts_1 : decode cX6_counts 1 = .ok (.iconst 0, 1) := by decide +kernel
theorem dX6_counts_2 : decode cX6_counts 2 = .ok (.putfield 49, 3) := by decide +kernel
theorem dX6_counts_5 : decode cX6_counts 5 = .ok (.aload_n 0, 1) := by decide +kernel
theorem dX6_counts_6 : decode cX6_counts 6 = .ok (.iconst 0, 1) := by decide +kernel
theorem dX6_counts_7 : decode cX6_counts 7 = .ok (.putfield 52, 3) := by decide +kernel
theorem dX6_counts_10 : decode cX6_counts 10 = .ok (.iconst 0, 1) := by decide +kernel
theorem dX6_counts_11 : decode cX6_counts 11 = .ok (.istore_n 2, 1) := by decide +kernel
theorem dX6_counts_12 : decode cX6_counts 12 = .ok (.iload_n 2, 1) := by decide +kernel
theorem dX6_counts_13 : decode cX6_counts 13 = .ok (.aload_n 0, 1) := by decide +kernel
theorem dX6_counts_14 : decode cX6_counts 14 = .ok (.getfield 7, 3) := by decide +kernel
theorem dX6_counts_17 : decode cX6_counts 17 = .ok (.iconst 0, 1) := by decide +kernel
theorem dX6_counts_18 : decode cX6_counts 18 = .ok (.iaload, 1) := by decide +kernel
theorem dX6_counts_19 : decode cX6_counts 19 = .ok (.if_icmp .ge 55, 3) := by decide +kernel
theorem dX6_counts_22 : decode cX6_counts 22 = .ok (.iload_n 1, 1) := by decide +kernel
theorem dX6_counts_23 : decode cX6_counts 23 = .ok (.iload_n 2, 1) := by decide +kernel
theorem dX6_counts_24 : decode cX6_counts 24 = .ok (.ishr, 1) := by decide +kernel
theorem dX6_counts_25 : decode cX6_counts 25 = .ok (.iconst 1, 1) := by decide +kernel
theorem dX6_counts_26 : decode cX6_counts 26 = .ok (.iand, 1) := by decide +kernel
theorem dX6_counts_27 : decode cX6_counts 27 = .ok (.iconst 1, 1) := by decide +kernel
theorem dX6_counts_28 : decode cX6_counts 28 = .ok (.if_icmp .ne 40, 3) := by decide +kernel
theorem dX6_counts_31 : decode cX6_counts 31 = .ok (.aload_n 0, 1) := by decide +kernel
theorem dX6_counts_32 : decode cX6_counts 32 = .ok (.dup, 1) := by decide +kernel
theorem dX6_counts_33 : decode cX6_counts 33 = .ok (.getfield 49, 3) := by decide +kernel
theorem dX6_counts_36 : decode cX6_counts 36 = .ok (.aload_n 0, 1) := by decide +kernel
theorem dX6_counts_37 : decode cX6_counts 37 = .ok (.iload_n 2, 1) := by decide +kernel
theorem dX6_counts_38 : decode cX6_counts 38 = .ok (.iconst 1, 1) := by decide +kernel
theorem dX6_counts_39 : decode cX6_counts 39 = .ok (.invokevirtual 45, 3) := by decide +kernel
theorem dX6_counts_42 : decode cX6_counts 42 = .ok (.aload_n 0, 1) := by decide +kernel
theorem dX6_counts_43 : decode cX6_counts 43 = .ok (.iload_n 2, 1) := by decide +kernel
theorem dX6_counts_44 : decode cX6_counts 44 = .ok (.iconst 2, 1) := by decide +kernel
theorem dX6_counts_45 : decode cX6_counts 45 = .ok (.invokevirtual 45, 3) := by decide +kernel
theorem dX6_counts_48 : decode cX6_counts 48 = .ok (.isub, 1) := by decide +kernel
theorem dX6_counts_49 : decode cX6_counts 49 = .ok (.iadd, 1) := by decide +kernel
theorem dX6_counts_50 : decode cX6_counts 50 = .ok (.putfield 49, 3) := by decide +kernel
theorem dX6_counts_53 : decode cX6_counts 53 = .ok (.aload_n 0, 1) := by decide +kernel
theorem dX6_counts_54 : decode cX6_counts 54 = .ok (.dup, 1) := by decide +kernel
theorem dX6_counts_55 : decode cX6_counts 55 = .ok (.getfield 52, 3) := by decide +kernel
theorem dX6_counts_58 : decode cX6_counts 58 = .ok (.aload_n 0, 1) := by decide +kernel
theorem dX6_counts_59 : decode cX6_counts 59 = .ok (.iload_n 2, 1) := by decide +kernel
theorem dX6_counts_60 : decode cX6_counts 60 = .ok (.iconst 0, 1) := by decide +kernel
theorem dX6_counts_61 : decode cX6_counts 61 = .ok (.invokevirtual 45, 3) := by decide +kernel
theorem dX6_counts_64 : decode cX6_counts 64 = .ok (.iadd, 1) := by decide +kernel
theorem dX6_counts_65 : decode cX6_counts 65 = .ok (.putfield 52, 3) := by decide +kernel
theorem dX6_counts_68 : decode cX6_counts 68 = .ok (.iinc 2 1, 3) := by decide +kernel
theorem dX6_counts_71 : decode cX6_counts 71 = .ok (.goto (-59), 3) := by decide +kernel
theorem dX6_counts_74 : decode cX6_counts 74 = .ok (.aload_n 0, 1) := by decide +kernel
theorem dX6_counts_75 : decode cX6_counts 75 = .ok (.getfield 52, 3) := by decide +kernel
theorem dX6_counts_78 : decode cX6_counts 78 = .ok (.ifCond .le 7, 3) := by decide +kernel
theorem dX6_counts_81 : decode cX6_counts 81 = .ok (.iconst 1, 1) := by decide +kernel
theorem dX6_counts_82 : decode cX6_counts 82 = .ok (.goto 4, 3) := by decide +kernel
theorem dX6_counts_85 : decode cX6_counts 85 = .ok (.iconst 0, 1) := by decide +kernel
theorem dX6_counts_86 : decode cX6_counts 86 = .ok (.ireturn, 1) := by decide +kernel
set_option maxRecDepth 20000 in
theorem ggX6_gcd_X6_size : GoodIn wsX6_gcd wsX6_size := goodIn_r _ [4] (by decide +kernel) (by decide +kernel)
set_option maxRecDepth 20000 in
theorem gX6_gcd_X6_size : GoodIn wsX6_gcd (va_wsS RX6 55 yX6_size wsX6_size) := goodIn_app (goodIn_of _ (by decide +kernel)) ggX6_gcd_X6_size
theorem dX6_gcd_0 : decode cX6_gcd 0 = .ok (.iload_n 0, 1) := by decide +kernel
theorem dX6_gcd_1 : decode cX6_gcd 1 = .ok (.invokestatic 55, 3) := by decide +kernel
theorem dX6_gcd_4 : decode cX6_gcd 4 = .ok (.istore_n 2, 1) := by decide +kernel
theorem dX6_gcd_5 : decode cX6_gcd 5 = .ok (.iload_n 1, 1) := by decide +kernel
theorem dX6_gcd_6 : decode cX6_gcd 6 = .ok (.istore_n 3, 1) := by decide +kernel
theorem dX6_gcd_7 : decode cX6_gcd 7 = .ok (.iload_n 3, 1) := by decide +kernel
theorem dX6_gcd_8 : decode cX6_gcd 8 = .ok (.ifCond .eq 16, 3) := by decide +kernel
theorem dX6_gcd_11 : decode cX6_gcd 11 = .ok (.iload_n 2, 1) := by decide +kernel
theorem dX6_gcd_12 : decode cX6_gcd 12 = .ok (.iload_n 3, 1) := by decide +kernel
theorem dX6_gcd_13 : decode cX6_gcd 13 = .ok (.irem, 1) := by decide +kernel
theorem dX6_gcd_14 : decode cX6_gcd 14 = .ok (.istore 4, 2) := by decide +kernel
theorem dX6_gcd_16 : decode cX6_gcd 16 = .ok (.iload_n 3, 1) := by decide +kernel
theorem dX6_gcd_17 : decode cX6_gcd 17 = .ok (.istore_n 2, 1) := by decide +kernel
theorem dX6_gcd_18 : decode cX6_gcd 18 = .ok (.iload 4, 2) := by decide +kernel
theorem dX6_gcd_20 : decode cX6_gcd 20 = .ok (.istore_n 3, 1) := by decide +kernel
theorem dX6_gcd_21 : decode cX6_gcd 21 = .ok (.goto (-14), 3) := by decide +kernel
theorem dX6_gcd_24 : decode cX6_gcd 24 = .ok (.iload_n 2, 1) := by decide +kernel
theorem dX6_gcd_25 : decode cX6_gcd 25 = .ok (.ireturn, 1) := by decide +kernel
set_option maxRecDepth 20000 in
theorem ggX6_told_X6_gcd : GoodIn wsX6_told wsX6_gcd := goodIn_r _ [6, 7, 8, 5, 9] (by decide +kernel) (by decide +kernel)
set_option maxRecDepth 20000 in
theorem gX6_told_X6_gcd : GoodIn wsX6_told (va_wsS RX6 59 yX6_gcd wsX6_gcd) := goodIn_app (goodIn_of _ (by decide +kernel)) ggX6_told_X6_gcd
theorem dX6_told_0 : decode cX6_told 0 = .ok (.aload_n 0, 1) := by decide +kernel
theorem dX6_told_1 : decode cX6_told 1 = .ok (.getfield 49, 3) := by decide +kernel
theorem dX6_told_4 : decode cX6_told 4 = .ok (.aload_n 0, 1) := by decide +kernel
theorem dX6_told_5 : decode cX6_told 5 = .ok (.getfield 52, 3) := by decide +kernel
theorem dX6_told_8 : decode cX6_told 8 = .ok (.invokestatic 59, 3) := by decide +kernel
theorem dX6_told_11 : decode cX6_told 11 = .ok (.istore_n 2, 1) := by decide +kernel
theorem dX6_told_12 : decode cX6_told 12 = .ok (.iload_n 1, 1) := by decide +kernel
theorem dX6_told_13 : decode cX6_told 13 = .ok (.ifCond .ne 12, 3) := by decide +kernel
theorem dX6_told_16 : decode cX6_told 16 = .ok (.aload_n 0, 1) := by decide +kernel
theorem dX6_told_17 : decode cX6_told 17 = .ok (.getfield 49, 3) := by decide +kernel
theorem dX6_told_20 : decode cX6_told 20 = .ok (.iload_n 2, 1) := by decide +kernel
theorem dX6_told_21 : decode cX6_told 21 = .ok (.idiv, 1) := by decide +kernel
theorem dX6_told_22 : decode cX6_told 22 = .ok (.goto 9, 3) := by decide +kernel
theorem dX6_told_25 : decode cX6_told 25 = .ok (.aload_n 0, 1) := by decide +kernel
theorem dX6_told_26 : decode cX6_told 26 = .ok (.getfield 52, 3) := by decide +kernel
theorem dX6_told_29 : decode cX6_told 29 = .ok (.iload_n 2, 1) := by decide +kernel
theorem dX6_told_30 : decode cX6_told 30 = .ok (.idiv, 1) := by decide +kernel
theorem dX6_told_31 : decode cX6_told 31 = .ok (.ireturn, 1) := by decide +kernel
set_option maxRecDepth 20000 in
theorem ggX6_more_X6_in : GoodIn wsX6_more wsX6_in := goodIn_r _ [6] (by decide +kernel) (by decide +kernel)
set_option maxRecDepth 20000 in
theorem gX6_more_X6_in : GoodIn wsX6_more (va_wsS RX6 37 yX6_in wsX6_in) := goodIn_app (goodIn_of _ (by decide +kernel)) ggX6_more_X6_in
set_option maxRecDepth 20000 in
theorem ggX6_more_X6_counts : GoodIn wsX6_more wsX6_counts := goodIn_r _ [10, 11, 12, 13, 14, 15, 16, 5, 17, 28, 29, 30, 31, 32, 33, 34, 35, 36, 37, 38, 39, 40, 41, 42, 43, 44, 45, 46, 47] (by decide +kernel) (by decide +kernel)
set_option maxRecDepth 20000 in
theorem gX6_more_X6_counts : GoodIn wsX6_more (wsV RX6 62 RX6 yX6_counts wsX6_counts) := goodIn_app (goodIn_of _ (by decide +kernel)) ggX6_more_X6_counts
set_option maxRecDepth 20000 in
theorem ggX6_more_X6_told : GoodIn wsX6_more wsX6_told := goodIn_r _ [21, 11, 12, 22, 23, 5, 24, 25, 26, 27, 28, 29, 30, 31, 32, 33, 34, 35, 36, 37, 38, 39, 40, 41, 42, 43, 44, 45, 46, 47] (by decide +kernel) (by decide +kernel)
set_option maxRecDepth 20000 in
theorem gX6_more_X6_told : GoodIn wsX6_more (wsV RX6 65 RX6 yX6_told wsX6_told) := goodIn_app (goodIn_of _ (by decide +kernel)) ggX6_more_X6_told
theorem dX6_more_0 : decode cX6_more 0 = .ok (.aload_n 0, 1) := by decide +kernel
theorem dX6_more_1 : decode cX6_more 1 = .ok (.iconst 0, 1) := by decide +kernel
theorem dX6_more_2 : decode cX6_more 2 = .ok (.putfield 34, 3) := by decide +kernel
theorem dX6_more_5 : decode cX6_more 5 = .ok (.iload_n 2, 1) := by decide +kernel
theorem dX6_more_6 : decode cX6_more 6 = .ok (.iconst 0, 1) := by decide +kernel
theorem dX6_more_7 : decode cX6_more 7 = .ok (.iconst 1, 1) := by decide +kernel
theorem dX6_more_8 : decode cX6_more 8 = .ok (.invokestatic 37, 3) := by decide +kernel
theorem dX6_more_11 : decode cX6_more 11 = .ok (.ifCond .eq 19, 3) := by decide +kernel
theorem dX6_more_14 : decode cX6_more 14 = .ok (.aload_n 0, 1) := by decide +kernel
theorem dX6_more_15 : decode cX6_more 15 = .ok (.iload_n 1, 1) := by decide +kernel
theorem dX6_more_16 : decode cX6_more 16 = .ok (.invokevirtual 62, 3) := by decide +kernel
theorem dX6_more_19 : decode cX6_more 19 = .ok (.ifCond .eq 11, 3) := by decide +kernel
theorem dX6_more_22 : decode cX6_more 22 = .ok (.aload_n 0, 1) := by decide +kernel
theorem dX6_more_23 : decode cX6_more 23 = .ok (.iload_n 2, 1) := by decide +kernel
theorem dX6_more_24 : decode cX6_more 24 = .ok (.invokevirtual 65, 3) := by decide +kernel
theorem dX6_more_27 : decode cX6_more 27 = .ok (.goto 5, 3) := by decide +kernel
theorem dX6_more_30 : decode cX6_more 30 = .ok (.ldc 68, 2) := by decide +kernel
theorem dX6_more_32 : decode cX6_more 32 = .ok (.ireturn, 1) := by decide +kernel
set_option maxRecDepth 20000 in
theorem ggX6_luck_X6_isHouse : GoodIn wsX6_luck wsX6_isHouse := goodIn_r _ [6, 7, 8, 9, 5, 10, 20, 21, 22, 23, 24, 25, 26, 27, 28, 29, 30, 31, 32, 33, 34, 35, 36, 37, 38, 39] (by decide +kernel) (by decide +kernel)
set_option maxRecDepth 20000 in
theorem gX6_luck_X6_isHouse : GoodIn wsX6_luck (wsV RX6 41 RX6 yX6_isHouse wsX6_isHouse) := goodIn_app (goodIn_of _ (by decide +kernel)) ggX6_luck_X6_isHouse
set_option maxRecDepth 20000 in
theorem ggX6_luck_X6_in : GoodIn wsX6_luck wsX6_in := goodIn_r _ [10] (by decide +kernel) (by decide +kernel)
set_option maxRecDepth 20000 in
theorem gX6_luck_X6_in : GoodIn wsX6_luck (va_wsS RX6 37 yX6_in wsX6_in) := goodIn_app (goodIn_of _ (by decide +kernel)) ggX6_luck_X6_in
set_option maxRecDepth 20000 in
theorem ggX6_luck_X6_of : GoodIn wsX6_luck wsX6_of := goodIn_r _ [14, 7, 20, 21, 22, 23, 24, 25, 26, 27, 28, 29, 30, 31, 32, 33, 34, 35, 36, 37, 38, 39] (by decide +kernel) (by decide +kernel)
set_option maxRecDepth 20000 in
theorem gX6_luck_X6_of : GoodIn wsX6_luck (wsV RX6 45 RX6 yX6_of wsX6_of) := goodIn_app (goodIn_of _ (by decide +kernel)) ggX6_luck_X6_of
set_option maxRecDepth 20000 in
theorem ggX6_luck_X6_choose : GoodIn wsX6_luck wsX6_choose := goodIn_r _ [18, 19, 20, 21, 22, 23, 24, 25, 26, 27, 28, 29, 30, 31, 32, 33, 34, 35, 36, 37, 38, 39] (by decide +kernel) (by decide +kernel)
set_option maxRecDepth 20000 in
theorem gX6_luck_X6_choose : GoodIn wsX6_luck (wsV RX6 69 RX6 yX6_choose wsX6_choose) := goodIn_app (goodIn_of _ (by decide +kernel)) ggX6_luck_X6_choose
theorem dX6_luck_0 : decode cX6_luck 0 = .ok (.aload_n 0, 1) := by decide +kernel
theorem dX6_luck_1 : decode cX6_luck 1 = .ok (.iconst 0, 1) := by decide +kernel
theorem dX6_luck_2 : decode cX6_luck 2 = .ok (.putfield 34, 3) := by decide +kernel
theorem dX6_luck_5 : decode cX6_luck 5 = .ok (.aload_n 0, 1) := by decide +kernel
theorem dX6_luck_6 : decode cX6_luck 6 = .ok (.iload_n 1, 1) := by decide +kernel
theorem dX6_luck_7 : decode cX6_luck 7 = .ok (.invokevirtual 41, 3) := by decide +kernel
theorem dX6_luck_10 : decode cX6_luck 10 = .ok (.ifCond .eq 12, 3) := by decide +kernel
theorem dX6_luck_13 : decode cX6_luck 13 = .ok (.iload_n 2, 1) := by decide +kernel
theorem dX6_luck_14 : decode cX6_luck 14 = .ok (.iconst 0, 1) := by decide +kernel
theorem dX6_luck_15 : decode cX6_luck 15 = .ok (.iconst 1, 1) := by decide +kernel
theorem dX6_luck_16 : decode cX6_luck 16 = .ok (.invokestatic 37, 3) := by decide +kernel
theorem dX6_luck_19 : decode cX6_luck 19 = .ok (.ifCond .ne 5, 3) := by decide +kernel
theorem dX6_luck_22 : decode cX6_luck 22 = .ok (.iconst (-1), 1) := by decide +kernel
theorem dX6_luck_23 : decode cX6_luck 23 = .ok (.ireturn, 1) := by decide +kernel
theorem dX6_luck_24 : decode cX6_luck 24 = .ok (.aload_n 0, 1) := by decide +kernel
theorem dX6_luck_25 : decode cX6_luck 25 = .ok (.iload_n 1, 1) := by decide +kernel
theorem dX6_luck_26 : decode cX6_luck 26 = .ok (.iconst 0, 1) := by decide +kernel
theorem dX6_luck_27 : decode cX6_luck 27 = .ok (.invokevirtual 45, 3) := by decide +kernel
theorem dX6_luck_30 : decode cX6_luck 30 = .ok (.istore_n 3, 1) := by decide +kernel
theorem dX6_luck_31 : decode cX6_luck 31 = .ok (.aload_n 0, 1) := by decide +kernel
theorem dX6_luck_32 : decode cX6_luck 32 = .ok (.iload_n 1, 1) := by decide +kernel
theorem dX6_luck_33 : decode cX6_luck 33 = .ok (.iconst 1, 1) := by decide +kernel
theorem dX6_luck_34 : decode cX6_luck 34 = .ok (.invokevirtual 45, 3) := by decide +kernel
theorem dX6_luck_37 : decode cX6_luck 37 = .ok (.aload_n 0, 1) := by decide +kernel
theorem dX6_luck_38 : decode cX6_luck 38 = .ok (.iload_n 1, 1) := by decide +kernel
theorem dX6_luck_39 : decode cX6_luck 39 = .ok (.iconst 2, 1) := by decide +kernel
theorem dX6_luck_40 : decode cX6_luck 40 = .ok (.invokevirtual 45, 3) := by decide +kernel
theorem dX6_luck_43 : decode cX6_luck 43 = .ok (.iadd, 1) := by decide +kernel
theorem dX6_luck_44 : decode cX6_luck 44 = .ok (.istore 4, 2) := by decide +kernel
theorem dX6_luck_46 : decode cX6_luck 46 = .ok (.lconst 0, 1) := by decide +kernel
theorem dX6_luck_47 : decode cX6_luck 47 = .ok (.lstore 5, 2) := by decide +kernel
theorem dX6_luck_49 : decode cX6_luck 49 = .ok (.aload_n 0, 1) := by decide +kernel
theorem dX6_luck_50 : decode cX6_luck 50 = .ok (.iload_n 1, 1) := by decide +kernel
theorem dX6_luck_51 : decode cX6_luck 51 = .ok (.iconst 1, 1) := by decide +kernel
theorem dX6_luck_52 : decode cX6_luck 52 = .ok (.invokevirtual 45, 3) := by decide +kernel
theorem dX6_luck_55 : decode cX6_luck 55 = .ok (.istore 7, 2) := by decide +kernel
theorem dX6_luck_57 : decode cX6_luck 57 = .ok (.iload 7, 2) := by decide +kernel
theorem dX6_luck_59 : decode cX6_luck 59 = .ok (.iload_n 3, 1) := by decide +kernel
theorem dX6_luck_60 : decode cX6_luck 60 = .ok (.if_icmp .gt 37, 3) := by decide +kernel
theorem dX6_luck_63 : decode cX6_luck 63 = .ok (.lload 5, 2) := by decide +kernel
theorem dX6_luck_65 : decode cX6_luck 65 = .ok (.aload_n 0, 1) := by decide +kernel
theorem dX6_luck_66 : decode cX6_luck 66 = .ok (.iload 4, 2) := by decide +kernel
theorem dX6_luck_68 : decode cX6_luck 68 = .ok (.iload 7, 2) := by decide +kernel
theorem dX6_luck_70 : decode cX6_luck 70 = .ok (.invokevirtual 69, 3) := by decide +kernel
theorem dX6_luck_73 : decode cX6_luck 73 = .ok (.aload_n 0, 1) := by decide +kernel
theorem dX6_luck_74 : decode cX6_luck 74 = .ok (.iconst 2, 1) := by decide +kernel
theorem dX6_luck_75 : decode cX6_luck 75 = .ok (.iload_n 3, 1) := by decide +kernel
theorem dX6_luck_76 : decode cX6_luck 76 = .ok (.imul, 1) := by decide +kernel
theorem dX6_luck_77 : decode cX6_luck 77 = .ok (.iload 4, 2) := by decide +kernel
theorem dX6_luck_79 : decode cX6_luck 79 = .ok (.isub, 1) := by decide +kernel
theorem dX6_luck_80 : decode cX6_luck 80 = .ok (.iload_n 3, 1) := by decide +kernel
theorem dX6_luck_81 : decode cX6_luck 81 = .ok (.iload 7, 2) := by decide +kernel
theorem dX6_luck_83 : decode cX6_luck 83 = .ok (.isub, 1) := by decide +kernel
theorem dX6_luck_84 : decode cX6_luck 84 = .ok (.invokevirtual 69, 3) := by decide +kernel
theorem dX6_luck_87 : decode cX6_luck 87 = .ok (.lmul, 1) := by decide +kernel
theorem dX6_luck_88 : decode cX6_luck 88 = .ok (.ladd, 1) := by decide +kernel
theorem dX6_luck_89 : decode cX6_luck 89 = .ok (.lstore 5, 2) := by decide +kernel
theorem dX6_luck_91 : decode cX6_luck 91 = .ok (.iinc 7 1, 3) := by decide +kernel
theorem dX6_luck_94 : decode cX6_luck 94 = .ok (.goto (-37), 3) := by decide +kernel
theorem dX6_luck_97 : decode cX6_luck 97 = .ok (.iload_n 2, 1) := by decide +kernel
theorem dX6_luck_98 : decode cX6_luck 98 = .ok (.ifCond .ne 8, 3) := by decide +kernel
theorem dX6_luck_101 : decode cX6_luck 101 = .ok (.lload 5, 2) := by decide +kernel
theorem dX6_luck_103 : decode cX6_luck 103 = .ok (.goto 11, 3) := by decide +kernel
theorem dX6_luck_106 : decode cX6_luck 106 = .ok (.aload_n 0, 1) := by decide +kernel
theorem dX6_luck_107 : decode cX6_luck 107 = .ok (.iconst 2, 1) := by decide +kernel
theorem dX6_luck_108 : decode cX6_luck 108 = .ok (.iload_n 3, 1) := by decide +kernel
theorem dX6_luck_109 : decode cX6_luck 109 = .ok (.imul, 1) := by decide +kernel
theorem dX6_luck_110 : decode cX6_luck 110 = .ok (.iload_n 3, 1) := by decide +kernel
theorem dX6_luck_111 : decode cX6_luck 111 = .ok (.invokevirtual 69, 3) := by decide +kernel
theorem dX6_luck_114 : decode cX6_luck 114 = .ok (.l2i, 1) := by decide +kernel
theorem dX6_luck_115 : decode cX6_luck 115 = .ok (.ireturn, 1) := by decide +kernel
set_option maxRecDepth 20000 in
theorem ggX6_can_X6_in : GoodIn wsX6_can wsX6_in := goodIn_r _ [5] (by decide +kernel) (by decide +kernel)
set_option maxRecDepth 20000 in
theorem gX6_can_X6_in : GoodIn wsX6_can (va_wsS RX6 37 yX6_in wsX6_in) := goodIn_app (goodIn_of _ (by decide +kernel)) ggX6_can_X6_in
theorem dX6_can_0 : decode cX6_can 0 = .ok (.aload_n 0, 1) := by decide +kernel
theorem dX6_can_1 : decode cX6_can 1 = .ok (.iconst 0, 1) := by decide +kernel
theorem dX6_can_2 : decode cX6_can 2 = .ok (.putfield 34, 3) := by decide +kernel
theorem dX6_can_5 : decode cX6_can 5 = .ok (.iload_n 1, 1) := by decide +kernel
theorem dX6_can_6 : decode cX6_can 6 = .ok (.iconst 0, 1) := by decide +kernel
theorem dX6_can_7 : decode cX6_can 7 = .ok (.bipush 100, 2) := by decide +kernel
theorem dX6_can_9 : decode cX6_can 9 = .ok (.invokestatic 37, 3) := by decide +kernel
theorem dX6_can_12 : decode cX6_can 12 = .ok (.ifCond .eq 13, 3) := by decide +kernel
theorem dX6_can_15 : decode cX6_can 15 = .ok (.iload_n 2, 1) := by decide +kernel
theorem dX6_can_16 : decode cX6_can 16 = .ok (.iconst 1, 1) := by decide +kernel
theorem dX6_can_17 : decode cX6_can 17 = .ok (.bipush 99, 2) := by decide +kernel
theorem dX6_can_19 : decode cX6_can 19 = .ok (.invokestatic 37, 3) := by decide +kernel
theorem dX6_can_22 : decode cX6_can 22 = .ok (.ifCond .ne 5, 3) := by decide +kernel
theorem dX6_can_25 : decode cX6_can 25 = .ok (.iconst (-1), 1) := by decide +kernel
theorem dX6_can_26 : decode cX6_can 26 = .ok (.ireturn, 1) := by decide +kernel
theorem dX6_can_27 : decode cX6_can 27 = .ok (.iconst 0, 1) := by decide +kernel
theorem dX6_can_28 : decode cX6_can 28 = .ok (.istore_n 3, 1) := by decide +kernel
theorem dX6_can_29 : decode cX6_can 29 = .ok (.iconst 0, 1) := by decide +kernel
theorem dX6_can_30 : decode cX6_can 30 = .ok (.istore 4, 2) := by decide +kernel
theorem dX6_can_32 : decode cX6_can 32 = .ok (.iload 4, 2) := by decide +kernel
theorem dX6_can_34 : decode cX6_can 34 = .ok (.iload_n 2, 1) := by decide +kernel
theorem dX6_can_35 : decode cX6_can 35 = .ok (.if_icmp .gt 33, 3) := by decide +kernel
theorem dX6_can_38 : decode cX6_can 38 = .ok (.iload_n 3, 1) := by decide +kernel
theorem dX6_can_39 : decode cX6_can 39 = .ok (.sipush 200, 3) := by decide +kernel
theorem dX6_can_42 : decode cX6_can 42 = .ok (.iload 4, 2) := by decide +kernel
theorem dX6_can_44 : decode cX6_can 44 = .ok (.imul, 1) := by decide +kernel
theorem dX6_can_45 : decode cX6_can 45 = .ok (.iload_n 2, 1) := by decide +kernel
theorem dX6_can_46 : decode cX6_can 46 = .ok (.iadd, 1) := by decide +kernel
theorem dX6_can_47 : decode cX6_can 47 = .ok (.iconst 2, 1) := by decide +kernel
theorem dX6_can_48 : decode cX6_can 48 = .ok (.iload_n 2, 1) := by decide +kernel
theorem dX6_can_49 : decode cX6_can 49 = .ok (.imul, 1) := by decide +kernel
theorem dX6_can_50 : decode cX6_can 50 = .ok (.idiv, 1) := by decide +kernel
theorem dX6_can_51 : decode cX6_can 51 = .ok (.iload_n 1, 1) := by decide +kernel
theorem dX6_can_52 : decode cX6_can 52 = .ok (.if_icmp .ne 7, 3) := by decide +kernel
theorem dX6_can_55 : decode cX6_can 55 = .ok (.iconst 1, 1) := by decide +kernel
theorem dX6_can_56 : decode cX6_can 56 = .ok (.goto 4, 3) := by decide +kernel
theorem dX6_can_59 : decode cX6_can 59 = .ok (.iconst 0, 1) := by decide +kernel
theorem dX6_can_60 : decode cX6_can 60 = .ok (.ior, 1) := by decide +kernel
theorem dX6_can_61 : decode cX6_can 61 = .ok (.istore_n 3, 1) := by decide +kernel
theorem dX6_can_62 : decode cX6_can 62 = .ok (.iinc 4 1, 3) := by decide +kernel
theorem dX6_can_65 : decode cX6_can 65 = .ok (.goto (-33), 3) := by decide +kernel
theorem dX6_can_68 : decode cX6_can 68 = .ok (.iload_n 3, 1) := by decide +kernel
theorem dX6_can_69 : decode cX6_can 69 = .ok (.ifCond .eq 7, 3) := by decide +kernel
theorem dX6_can_72 : decode cX6_can 72 = .ok (.iconst 1, 1) := by decide +kernel
theorem dX6_can_73 : decode cX6_can 73 = .ok (.goto 4, 3) := by decide +kernel
theorem dX6_can_76 : decode cX6_can 76 = .ok (.iconst 0, 1) := by decide +kernel
theorem dX6_can_77 : decode cX6_can 77 = .ok (.ireturn, 1) := by decide +kernel
set_option maxRecDepth 20000 in
theorem ggX6_isSame_X6_of : GoodIn wsX6_isSame wsX6_of := goodIn_r _ [5, 6, 7, 8, 9, 10, 11, 12, 13, 14, 15, 16, 17, 18, 19, 20, 21, 22, 23, 24, 25, 26] (by decide +kernel) (by decide +kernel)
set_option maxRecDepth 20000 in
theorem gX6_isSame_X6_of : GoodIn wsX6_isSame (wsV RX6 45 RX6 yX6_of wsX6_of) := goodIn_app (goodIn_of _ (by decide +kernel)) ggX6_isSame_X6_of
theorem dX6_isSame_0 : decode cX6_isSame 0 = .ok (.aload_n 0, 1) := by decide +kernel
theorem dX6_isSame_1 : decode cX6_isSame 1 = .ok (.iload_n 1, 1) := by decide +kernel
theorem dX6_isSame_2 : decode cX6_isSame 2 = .ok (.iconst 0, 1) := by decide +kernel
theorem dX6_isSame_3 : decode cX6_isSame 3 = .ok (.invokevirtual 45, 3) := by decide +kernel
theorem dX6_isSame_6 : decode cX6_isSame 6 = .ok (.aload_n 0, 1) := by decide +kernel
theorem dX6_isSame_7 : decode cX6_isSame 7 = .ok (.iload_n 2, 1) := by decide +kernel
theorem dX6_isSame_8 : decode cX6_isSame 8 = .ok (.iconst 0, 1) := by decide +kernel
theorem dX6_isSame_9 : decode cX6_isSame 9 = .ok (.invokevirtual 45, 3) := by decide +kernel
theorem dX6_isSame_12 : decode cX6_isSame 12 = .ok (.if_icmp .ne 37, 3) := by decide +kernel
theorem dX6_isSame_15 : decode cX6_isSame 15 = .ok (.aload_n 0, 1) := by decide +kernel
theorem dX6_isSame_16 : decode cX6_isSame 16 = .ok (.iload_n 1, 1) := by decide +kernel
theorem dX6_isSame_17 : decode cX6_isSame 17 = .ok (.iconst 1, 1) := by decide +kernel
theorem dX6_isSame_18 : decode cX6_isSame 18 = .ok (.invokevirtual 45, 3) := by decide +kernel
theorem dX6_isSame_21 : decode cX6_isSame 21 = .ok (.aload_n 0, 1) := by decide +kernel
theorem dX6_isSame_22 : decode cX6_isSame 22 = .ok (.iload_n 2, 1) := by decide +kernel
theorem dX6_isSame_23 : decode cX6_isSame 23 = .ok (.iconst 1, 1) := by decide +kernel
theorem dX6_isSame_24 : decode cX6_isSame 24 = .ok (.invokevirtual 45, 3) := by decide +kernel
theorem dX6_isSame_27 : decode cX6_isSame 27 = .ok (.if_icmp .ne 22, 3) := by decide +kernel
theorem dX6_isSame_30 : decode cX6_isSame 30 = .ok (.aload_n 0, 1) := by decide +kernel
theorem dX6_isSame_31 : decode cX6_isSame 31 = .ok (.iload_n 1, 1) := by decide +kernel
theorem dX6_isSame_32 : decode cX6_isSame 32 = .ok (.iconst 2, 1) := by decide +kernel
theorem dX6_isSame_33 : decode cX6_isSame 33 = .ok (.invokevirtual 45, 3) := by decide +kernel
theorem dX6_isSame_36 : decode cX6_isSame 36 = .ok (.aload_n 0, 1) := by decide +kernel
theorem dX6_isSame_37 : decode cX6_isSame 37 = .ok (.iload_n 2, 1) := by decide +kernel
theorem dX6_isSame_38 : decode cX6_isSame 38 = .ok (.iconst 2, 1) := by decide +kernel
theorem dX6_isSame_39 : decode cX6_isSame 39 = .ok (.invokevirtual 45, 3) := by decide +kernel
theorem dX6_isSame_42 : decode cX6_isSame 42 = .ok (.if_icmp .ne 7, 3) := by decide +kernel
theorem dX6_isSame_45 : decode cX6_isSame 45 = .ok (.iconst 1, 1) := by decide +kernel
theorem dX6_isSame_46 : decode cX6_isSame 46 = .ok (.goto 4, 3) := by decide +kernel
theorem dX6_isSame_49 : decode cX6_isSame 49 = .ok (.iconst 0, 1) := by decide +kernel
theorem dX6_isSame_50 : decode cX6_isSame 50 = .ok (.ireturn, 1) := by decide +kernel
set_option maxRecDepth 20000 in
theorem ggX6_same_X6_isSame : GoodIn wsX6_same wsX6_isSame := goodIn_r _ [7, 8, 9, 10, 6, 11, 2, 12, 13, 14, 15, 16, 17, 18, 19, 20, 21, 22, 23, 24, 25, 26, 27, 28, 29, 30, 31] (by decide +kernel) (by decide +kernel)
set_option maxRecDepth 20000 in
theorem gX6_same_X6_isSame : GoodIn wsX6_same (wsV RX6 73 RX6 yX6_isSame wsX6_isSame) := goodIn_app (goodIn_of _ (by decide +kernel)) ggX6_same_X6_isSame
theorem dX6_same_0 : decode cX6_same 0 = .ok (.aload_n 0, 1) := by decide +kernel
theorem dX6_same_1 : decode cX6_same 1 = .ok (.iconst 0, 1) := by decide +kernel
theorem dX6_same_2 : decode cX6_same 2 = .ok (.putfield 34, 3) := by decide +kernel
theorem dX6_same_5 : decode cX6_same 5 = .ok (.iconst 0, 1) := by decide +kernel
theorem dX6_same_6 : decode cX6_same 6 = .ok (.istore_n 1, 1) := by decide +kernel
theorem dX6_same_7 : decode cX6_same 7 = .ok (.iconst 0, 1) := by decide +kernel
theorem dX6_same_8 : decode cX6_same 8 = .ok (.istore_n 2, 1) := by decide +kernel
theorem dX6_same_9 : decode cX6_same 9 = .ok (.iload_n 2, 1) := by decide +kernel
theorem dX6_same_10 : decode cX6_same 10 = .ok (.aload_n 0, 1) := by decide +kernel
theorem dX6_same_11 : decode cX6_same 11 = .ok (.getfield 7, 3) := by decide +kernel
theorem dX6_same_14 : decode cX6_same 14 = .ok (.iconst 0, 1) := by decide +kernel
theorem dX6_same_15 : decode cX6_same 15 = .ok (.iaload, 1) := by decide +kernel
theorem dX6_same_16 : decode cX6_same 16 = .ok (.if_icmp .ge 39, 3) := by decide +kernel
theorem dX6_same_19 : decode cX6_same 19 = .ok (.iconst 0, 1) := by decide +kernel
theorem dX6_same_20 : decode cX6_same 20 = .ok (.istore_n 3, 1) := by decide +kernel
theorem dX6_same_21 : decode cX6_same 21 = .ok (.iload_n 3, 1) := by decide +kernel
theorem dX6_same_22 : decode cX6_same 22 = .ok (.iload_n 2, 1) := by decide +kernel
theorem dX6_same_23 : decode cX6_same 23 = .ok (.if_icmp .ge 26, 3) := by decide +kernel
theorem dX6_same_26 : decode cX6_same 26 = .ok (.iload_n 1, 1) := by decide +kernel
theorem dX6_same_27 : decode cX6_same 27 = .ok (.aload_n 0, 1) := by decide +kernel
theorem dX6_same_28 : decode cX6_same 28 = .ok (.iload_n 2, 1) := by decide +kernel
theorem dX6_same_29 : decode cX6_same 29 = .ok (.iload_n 3, 1) := by decide +kernel
theorem dX6_same_30 : decode cX6_same 30 = .ok (.invokevirtual 73, 3) := by decide +kernel
theorem dX6_same_33 : decode cX6_same 33 = .ok (.ifCond .eq 7, 3) := by decide +kernel
theorem dX6_same_36 : decode cX6_same 36 = .ok (.iconst 1, 1) := by decide +kernel
theorem dX6_same_37 : decode cX6_same 37 = .ok (.goto 4, 3) := by decide +kernel
theorem dX6_same_40 : decode cX6_same 40 = .ok (.iconst 0, 1) := by decide +kernel
theorem dX6_same_41 : decode cX6_same 41 = .ok (.iadd, 1) := by decide +kernel
theorem dX6_same_42 : decode cX6_same 42 = .ok (.istore_n 1, 1) := by decide +kernel
theorem dX6_same_43 : decode cX6_same 43 = .ok (.iinc 3 1, 3) := by decide +kernel
theorem dX6_same_46 : decode cX6_same 46 = .ok (.goto (-25), 3) := by decide +kernel
theorem dX6_same_49 : decode cX6_same 49 = .ok (.iinc 2 1, 3) := by decide +kernel
theorem dX6_same_52 : decode cX6_same 52 = .ok (.goto (-43), 3) := by decide +kernel
theorem dX6_same_55 : decode cX6_same 55 = .ok (.iload_n 1, 1) := by decide +kernel
theorem dX6_same_56 : decode cX6_same 56 = .ok (.ireturn, 1) := by decide +kernel
theorem dX6_everyHouse_0 : decode cX6_everyHouse 0 = .ok (.iconst 1, 1) := by decide +kernel
theorem dX6_everyHouse_1 : decode cX6_everyHouse 1 = .ok (.aload_n 0, 1) := by decide +kernel
theorem dX6_everyHouse_2 : decode cX6_everyHouse 2 = .ok (.getfield 7, 3) := by decide +kernel
theorem dX6_everyHouse_5 : decode cX6_everyHouse 5 = .ok (.iconst 0, 1) := by decide +kernel
theorem dX6_everyHouse_6 : decode cX6_everyHouse 6 = .ok (.iaload, 1) := by decide +kernel
theorem dX6_everyHouse_7 : decode cX6_everyHouse 7 = .ok (.ishl, 1) := by decide +kernel
theorem dX6_everyHouse_8 : decode cX6_everyHouse 8 = .ok (.iconst 1, 1) := by decide +kernel
theorem dX6_everyHouse_9 : decode cX6_everyHouse 9 = .ok (.isub, 1) := by decide +kernel
theorem dX6_everyHouse_10 : decode cX6_everyHouse 10 = .ok (.ireturn, 1) := by decide +kernel
set_option maxRecDepth 20000 in
theorem ggX6_without_X6_everyHouse : GoodIn wsX6_without wsX6_everyHouse := goodIn_r _ [10, 3, 22, 23, 24, 25, 26, 27, 28, 29, 30, 31, 32, 33, 34, 35, 36, 37, 38, 39, 40, 41] (by decide +kernel) (by decide +kernel)
set_option maxRecDepth 20000 in
theorem gX6_without_X6_everyHouse : GoodIn wsX6_without (wsV RX6 79 RX6 yX6_everyHouse wsX6_everyHouse) := goodIn_app (goodIn_of _ (by decide +kernel)) ggX6_without_X6_everyHouse
set_option maxRecDepth 20000 in
theorem ggX6_without_X6_counts : GoodIn wsX6_without wsX6_counts := goodIn_r _ [14, 4, 5, 3, 15, 16, 17, 9, 18, 22, 23, 24, 25, 26, 27, 28, 29, 30, 31, 32, 33, 34, 35, 36, 37, 38, 39, 40, 41] (by decide +kernel) (by decide +kernel)
set_option maxRecDepth 20000 in
theorem gX6_without_X6_counts : GoodIn wsX6_without (wsV RX6 62 RX6 yX6_counts wsX6_counts) := goodIn_app (goodIn_of _ (by decide +kernel)) ggX6_without_X6_counts
set_option maxRecDepth 20000 in
theorem ggX6_without_X6_size : GoodIn wsX6_without wsX6_size := goodIn_r _ [21] (by decide +kernel) (by decide +kernel)
set_option maxRecDepth 20000 in
theorem gX6_without_X6_size : GoodIn wsX6_without (va_wsS RX6 55 yX6_size wsX6_size) := goodIn_app (goodIn_of _ (by decide +kernel)) ggX6_without_X6_size
theorem dX6_without_0 : decode cX6_without 0 = .ok (.aload_n 0, 1) := by decide +kernel
theorem dX6_without_1 : decode cX6_without 1 = .ok (.iconst 0, 1) := by decide +kernel
theorem dX6_without_2 : decode cX6_without 2 = .ok (.putfield 34, 3) := by decide +kernel
theorem dX6_without_5 : decode cX6_without 5 = .ok (.bipush (-9), 2) := by decide +kernel
theorem dX6_without_7 : decode cX6_without 7 = .ok (.istore_n 1, 1) := by decide +kernel
theorem dX6_without_8 : decode cX6_without 8 = .ok (.ldc2_w 77, 3) := by decide +kernel
theorem dX6_without_11 : decode cX6_without 11 = .ok (.lstore_n 2, 1) := by decide +kernel
theorem dX6_without_12 : decode cX6_without 12 = .ok (.lconst 1, 1) := by decide +kernel
theorem dX6_without_13 : decode cX6_without 13 = .ok (.lstore 4, 2) := by decide +kernel
theorem dX6_without_15 : decode cX6_without 15 = .ok (.iconst 0, 1) := by decide +kernel
theorem dX6_without_16 : decode cX6_without 16 = .ok (.istore 6, 2) := by decide +kernel
theorem dX6_without_18 : decode cX6_without 18 = .ok (.iload 6, 2) := by decide +kernel
theorem dX6_without_20 : decode cX6_without 20 = .ok (.aload_n 0, 1) := by decide +kernel
theorem dX6_without_21 : decode cX6_without 21 = .ok (.getfield 7, 3) := by decide +kernel
theorem dX6_without_24 : decode cX6_without 24 = .ok (.iconst 0, 1) := by decide +kernel
theorem dX6_without_25 : decode cX6_without 25 = .ok (.iaload, 1) := by decide +kernel
theorem dX6_without_26 : decode cX6_without 26 = .ok (.if_icmp .ge 111, 3) := by decide +kernel
theorem dX6_without_29 : decode cX6_without 29 = .ok (.aload_n 0, 1) := by decide +kernel
theorem dX6_without_30 : decode cX6_without 30 = .ok (.getfield 7, 3) := by decide +kernel
theorem dX6_without_33 : decode cX6_without 33 = .ok (.iconst 0, 1) := by decide +kernel
theorem dX6_without_34 : decode cX6_without 34 = .ok (.iaload, 1) := by decide +kernel
theorem dX6_without_35 : decode cX6_without 35 = .ok (.iconst 1, 1) := by decide +kernel
theorem dX6_without_36 : decode cX6_without 36 = .ok (.if_icmp .le 101, 3) := by decide +kernel
theorem dX6_without_39 : decode cX6_without 39 = .ok (.aload_n 0, 1) := by decide +kernel
theorem dX6_without_40 : decode cX6_without 40 = .ok (.aload_n 0, 1) := by decide +kernel
theorem dX6_without_41 : decode cX6_without 41 = .ok (.invokevirtual 79, 3) := by decide +kernel
theorem dX6_without_44 : decode cX6_without 44 = .ok (.invokevirtual 62, 3) := by decide +kernel
theorem dX6_without_47 : decode cX6_without 47 = .ok (.pop, 1) := by decide +kernel
theorem dX6_without_48 : decode cX6_without 48 = .ok (.aload_n 0, 1) := by decide +kernel
theorem dX6_without_49 : decode cX6_without 49 = .ok (.getfield 49, 3) := by decide +kernel
theorem dX6_without_52 : decode cX6_without 52 = .ok (.istore 7, 2) := by decide +kernel
theorem dX6_without_54 : decode cX6_without 54 = .ok (.aload_n 0, 1) := by decide +kernel
theorem dX6_without_55 : decode cX6_without 55 = .ok (.getfield 52, 3) := by decide +kernel
theorem dX6_without_58 : decode cX6_without 58 = .ok (.istore 8, 2) := by decide +kernel
theorem dX6_without_60 : decode cX6_without 60 = .ok (.aload_n 0, 1) := by decide +kernel
theorem dX6_without_61 : decode cX6_without 61 = .ok (.aload_n 0, 1) := by decide +kernel
theorem dX6_without_62 : decode cX6_without 62 = .ok (.invokevirtual 79, 3) := by decide +kernel
theorem dX6_without_65 : decode cX6_without 65 = .ok (.iconst 1, 1) := by decide +kernel
theorem dX6_without_66 : decode cX6_without 66 = .ok (.iload 6, 2) := by decide +kernel
theorem dX6_without_68 : decode cX6_without 68 = .ok (.ishl, 1) := by decide +kernel
theorem dX6_without_69 : decode cX6_without 69 = .ok (.iconst (-1), 1) := by decide +kernel
theorem dX6_without_70 : decode cX6_without 70 = .ok (.ixor, 1) := by decide +kernel
theorem dX6_without_71 : decode cX6_without 71 = .ok (.iand, 1) := by decide +kernel
theorem dX6_without_72 : decode cX6_without 72 = .ok (.invokevirtual 62, 3) := by decide +kernel
theorem dX6_without_75 : decode cX6_without 75 = .ok (.pop, 1) := by decide +kernel
theorem dX6_without_76 : decode cX6_without 76 = .ok (.aload_n 0, 1) := by decide +kernel
theorem dX6_without_77 : decode cX6_without 77 = .ok (.getfield 49, 3) := by decide +kernel
theorem dX6_without_80 : decode cX6_without 80 = .ok (.iload 8, 2) := by decide +kernel
theorem dX6_without_82 : decode cX6_without 82 = .ok (.imul, 1) := by decide +kernel
theorem dX6_without_83 : decode cX6_without 83 = .ok (.iload 7, 2) := by decide +kernel
theorem dX6_without_85 : decode cX6_without 85 = .ok (.aload_n 0, 1) := by decide +kernel
theorem dX6_without_86 : decode cX6_without 86 = .ok (.getfield 52, 3) := by decide +kernel
theorem dX6_without_89 : decode cX6_without 89 = .ok (.imul, 1) := by decide +kernel
theorem dX6_without_90 : decode cX6_without 90 = .ok (.isub, 1) := by decide +kernel
theorem dX6_without_91 : decode cX6_without 91 = .ok (.invokestatic 55, 3) := by decide +kernel
theorem dX6_without_94 : decode cX6_without 94 = .ok (.i2l, 1) := by decide +kernel
theorem dX6_without_95 : decode cX6_without 95 = .ok (.lstore 9, 2) := by decide +kernel
theorem dX6_without_97 : decode cX6_without 97 = .ok (.aload_n 0, 1) := by decide +kernel
theorem dX6_without_98 : decode cX6_without 98 = .ok (.getfield 52, 3) := by decide +kernel
theorem dX6_without_101 : decode cX6_without 101 = .ok (.i2l, 1) := by decide +kernel
theorem dX6_without_102 : decode cX6_without 102 = .ok (.iload 8, 2) := by decide +kernel
theorem dX6_without_104 : decode cX6_without 104 = .ok (.i2l, 1) := by decide +kernel
theorem dX6_without_105 : decode cX6_without 105 = .ok (.lmul, 1) := by decide +kernel
theorem dX6_without_106 : decode cX6_without 106 = .ok (.lstore 11, 2) := by decide +kernel
theorem dX6_without_108 : decode cX6_without 108 = .ok (.lload 9, 2) := by decide +kernel
theorem dX6_without_110 : decode cX6_without 110 = .ok (.lload 4, 2) := by decide +kernel
theorem dX6_without_112 : decode cX6_without 112 = .ok (.lmul, 1) := by decide +kernel
theorem dX6_without_113 : decode cX6_without 113 = .ok (.lload_n 2, 1) := by decide +kernel
theorem dX6_without_114 : decode cX6_without 114 = .ok (.lload 11, 2) := by decide +kernel
theorem dX6_without_116 : decode cX6_without 116 = .ok (.lmul, 1) := by decide +kernel
theorem dX6_without_117 : decode cX6_without 117 = .ok (.lcmp, 1) := by decide +kernel
theorem dX6_without_118 : decode cX6_without 118 = .ok (.ifCond .le 13, 3) := by decide +kernel
theorem dX6_without_121 : decode cX6_without 121 = .ok (.iload 6, 2) := by decide +kernel
theorem dX6_without_123 : decode cX6_without 123 = .ok (.istore_n 1, 1) := by decide +kernel
theorem dX6_without_124 : decode cX6_without 124 = .ok (.lload 9, 2) := by decide +kernel
theorem dX6_without_126 : decode cX6_without 126 = .ok (.lstore_n 2, 1) := by decide +kernel
theorem dX6_without_127 : decode cX6_without 127 = .ok (.lload 11, 2) := by decide +kernel
theorem dX6_without_129 : decode cX6_without 129 = .ok (.lstore 4, 2) := by decide +kernel
theorem dX6_without_131 : decode cX6_without 131 = .ok (.iinc 6 1, 3) := by decide +kernel
theorem dX6_without_134 : decode cX6_without 134 = .ok (.goto (-116), 3) := by decide +kernel
theorem dX6_without_137 : decode cX6_without 137 = .ok (.iload_n 1, 1) := by decide +kernel
theorem dX6_without_138 : decode cX6_without 138 = .ok (.ireturn, 1) := by decide +kernel
set_option maxRecDepth 20000 in
theorem ggX6_having_X6_of : GoodIn wsX6_having wsX6_of := goodIn_r _ [6, 1, 7, 8, 9, 10, 11, 12, 13, 14, 15, 16, 17, 18, 19, 20, 21, 22, 23, 24, 25, 26] (by decide +kernel) (by decide +kernel)
set_option maxRecDepth 20000 in
theorem gX6_having_X6_of : GoodIn wsX6_having (wsV RX6 45 RX6 yX6_of wsX6_of) := goodIn_app (goodIn_of _ (by decide +kernel)) ggX6_having_X6_of
theorem dX6_having_0 : decode cX6_having 0 = .ok (.iconst 0, 1) := by decide +kernel
theorem dX6_having_1 : decode cX6_having 1 = .ok (.istore_n 2, 1) := by decide +kernel
theorem dX6_having_2 : decode cX6_having 2 = .ok (.iconst 0, 1) := by decide +kernel
theorem dX6_having_3 : decode cX6_having 3 = .ok (.istore_n 3, 1) := by decide +kernel
theorem dX6_having_4 : decode cX6_having 4 = .ok (.iload_n 3, 1) := by decide +kernel
theorem dX6_having_5 : decode cX6_having 5 = .ok (.aload_n 0, 1) := by decide +kernel
theorem dX6_having_6 : decode cX6_having 6 = .ok (.getfield 7, 3) := by decide +kernel
theorem dX6_having_9 : decode cX6_having 9 = .ok (.iconst 0, 1) := by decide +kernel
theorem dX6_having_10 : decode cX6_having 10 = .ok (.iaload, 1) := by decide +kernel
theorem dX6_having_11 : decode cX6_having 11 = .ok (.if_icmp .ge 24, 3) := by decide +kernel
theorem dX6_having_14 : decode cX6_having 14 = .ok (.iload_n 2, 1) := by decide +kernel
theorem dX6_having_15 : decode cX6_having 15 = .ok (.aload_n 0, 1) := by decide +kernel
theorem dX6_having_16 : decode cX6_having 16 = .ok (.iload_n 3, 1) := by decide +kernel
theorem dX6_having_17 : decode cX6_having 17 = .ok (.iconst 3, 1) := by decide +kernel
theorem dX6_having_18 : decode cX6_having 18 = .ok (.invokevirtual 45, 3) := by decide +kernel
theorem dX6_having_21 : decode cX6_having 21 = .ok (.iload_n 1, 1) := by decide +kernel
theorem dX6_having_22 : decode cX6_having 22 = .ok (.ishr, 1) := by decide +kernel
theorem dX6_having_23 : decode cX6_having 23 = .ok (.iconst 1, 1) := by decide +kernel
theorem dX6_having_24 : decode cX6_having 24 = .ok (.iand, 1) := by decide +kernel
theorem dX6_having_25 : decode cX6_having 25 = .ok (.iload_n 3, 1) := by decide +kernel
theorem dX6_having_26 : decode cX6_having 26 = .ok (.ishl, 1) := by decide +kernel
theorem dX6_having_27 : decode cX6_having 27 = .ok (.ior, 1) := by decide +kernel
theorem dX6_having_28 : decode cX6_having 28 = .ok (.istore_n 2, 1) := by decide +kernel
theorem dX6_having_29 : decode cX6_having 29 = .ok (.iinc 3 1, 3) := by decide +kernel
theorem dX6_having_32 : decode cX6_having 32 = .ok (.goto (-28), 3) := by decide +kernel
theorem dX6_having_35 : decode cX6_having 35 = .ok (.iload_n 2, 1) := by decide +kernel
theorem dX6_having_36 : decode cX6_having 36 = .ok (.ireturn, 1) := by decide +kernel
set_option maxRecDepth 20000 in
theorem ggX6_betweens_X6_everyHouse : GoodIn wsX6_betweens wsX6_everyHouse := goodIn_r _ [7, 8, 17, 18, 19, 20, 21, 22, 23, 24, 25, 26, 27, 28, 29, 30, 31, 32, 33, 34, 35, 36] (by decide +kernel) (by decide +kernel)
set_option maxRecDepth 20000 in
theorem gX6_betweens_X6_everyHouse : GoodIn wsX6_betweens (wsV RX6 79 RX6 yX6_everyHouse wsX6_everyHouse) := goodIn_app (goodIn_of _ (by decide +kernel)) ggX6_betweens_X6_everyHouse
set_option maxRecDepth 20000 in
theorem ggX6_betweens_X6_counts : GoodIn wsX6_betweens wsX6_counts := goodIn_r _ [12, 1, 2, 8, 13, 14, 15, 6, 16, 17, 18, 19, 20, 21, 22, 23, 24, 25, 26, 27, 28, 29, 30, 31, 32, 33, 34, 35, 36] (by decide +kernel) (by decide +kernel)
set_option maxRecDepth 20000 in
theorem gX6_betweens_X6_counts : GoodIn wsX6_betweens (wsV RX6 62 RX6 yX6_counts wsX6_counts) := goodIn_app (goodIn_of _ (by decide +kernel)) ggX6_betweens_X6_counts
theorem dX6_betweens_0 : decode cX6_betweens 0 = .ok (.aload_n 0, 1) := by decide +kernel
theorem dX6_betweens_1 : decode cX6_betweens 1 = .ok (.aload_n 0, 1) := by decide +kernel
theorem dX6_betweens_2 : decode cX6_betweens 2 = .ok (.invokevirtual 79, 3) := by decide +kernel
theorem dX6_betweens_5 : decode cX6_betweens 5 = .ok (.iload_n 1, 1) := by decide +kernel
theorem dX6_betweens_6 : decode cX6_betweens 6 = .ok (.iconst (-1), 1) := by decide +kernel
theorem dX6_betweens_7 : decode cX6_betweens 7 = .ok (.ixor, 1) := by decide +kernel
theorem dX6_betweens_8 : decode cX6_betweens 8 = .ok (.iand, 1) := by decide +kernel
theorem dX6_betweens_9 : decode cX6_betweens 9 = .ok (.invokevirtual 62, 3) := by decide +kernel
theorem dX6_betweens_12 : decode cX6_betweens 12 = .ok (.ifCond .ne 5, 3) := by decide +kernel
theorem dX6_betweens_15 : decode cX6_betweens 15 = .ok (.iconst 0, 1) := by decide +kernel
theorem dX6_betweens_16 : decode cX6_betweens 16 = .ok (.ireturn, 1) := by decide +kernel
theorem dX6_betweens_17 : decode cX6_betweens 17 = .ok (.aload_n 0, 1) := by decide +kernel
theorem dX6_betweens_18 : decode cX6_betweens 18 = .ok (.getfield 49, 3) := by decide +kernel
theorem dX6_betweens_21 : decode cX6_betweens 21 = .ok (.istore_n 2, 1) := by decide +kernel
theorem dX6_betweens_22 : decode cX6_betweens 22 = .ok (.aload_n 0, 1) := by decide +kernel
theorem dX6_betweens_23 : decode cX6_betweens 23 = .ok (.getfield 52, 3) := by decide +kernel
theorem dX6_betweens_26 : decode cX6_betweens 26 = .ok (.istore_n 3, 1) := by decide +kernel
theorem dX6_betweens_27 : decode cX6_betweens 27 = .ok (.aload_n 0, 1) := by decide +kernel
theorem dX6_betweens_28 : decode cX6_betweens 28 = .ok (.iload_n 1, 1) := by decide +kernel
theorem dX6_betweens_29 : decode cX6_betweens 29 = .ok (.invokevirtual 62, 3) := by decide +kernel
theorem dX6_betweens_32 : decode cX6_betweens 32 = .ok (.ifCond .ne 5, 3) := by decide +kernel
theorem dX6_betweens_35 : decode cX6_betweens 35 = .ok (.iconst 0, 1) := by decide +kernel
theorem dX6_betweens_36 : decode cX6_betweens 36 = .ok (.ireturn, 1) := by decide +kernel
theorem dX6_betweens_37 : decode cX6_betweens 37 = .ok (.aload_n 0, 1) := by decide +kernel
theorem dX6_betweens_38 : decode cX6_betweens 38 = .ok (.aload_n 0, 1) := by decide +kernel
theorem dX6_betweens_39 : decode cX6_betweens 39 = .ok (.getfield 49, 3) := by decide +kernel
theorem dX6_betweens_42 : decode cX6_betweens 42 = .ok (.iload_n 3, 1) := by decide +kernel
theorem dX6_betweens_43 : decode cX6_betweens 43 = .ok (.imul, 1) := by decide +kernel
theorem dX6_betweens_44 : decode cX6_betweens 44 = .ok (.iload_n 2, 1) := by decide +kernel
theorem dX6_betweens_45 : decode cX6_betweens 45 = .ok (.aload_n 0, 1) := by decide +kernel
theorem dX6_betweens_46 : decode cX6_betweens 46 = .ok (.getfield 52, 3) := by decide +kernel
theorem dX6_betweens_49 : decode cX6_betweens 49 = .ok (.imul, 1) := by decide +kernel
theorem dX6_betweens_50 : decode cX6_betweens 50 = .ok (.isub, 1) := by decide +kernel
theorem dX6_betweens_51 : decode cX6_betweens 51 = .ok (.putfield 49, 3) := by decide +kernel
theorem dX6_betweens_54 : decode cX6_betweens 54 = .ok (.aload_n 0, 1) := by decide +kernel
theorem dX6_betweens_55 : decode cX6_betweens 55 = .ok (.aload_n 0, 1) := by decide +kernel
theorem dX6_betweens_56 : decode cX6_betweens 56 = .ok (.getfield 52, 3) := by decide +kernel
theorem dX6_betweens_59 : decode cX6_betweens 59 = .ok (.iload_n 3, 1) := by decide +kernel
theorem dX6_betweens_60 : decode cX6_betweens 60 = .ok (.imul, 1) := by decide +kernel
theorem dX6_betweens_61 : decode cX6_betweens 61 = .ok (.putfield 52, 3) := by decide +kernel
theorem dX6_betweens_64 : decode cX6_betweens 64 = .ok (.iconst 1, 1) := by decide +kernel
theorem dX6_betweens_65 : decode cX6_betweens 65 = .ok (.ireturn, 1) := by decide +kernel
set_option maxRecDepth 20000 in
theorem ggX6_isCondition_X6_in : GoodIn wsX6_isCondition wsX6_in := goodIn_r _ [4] (by decide +kernel) (by decide +kernel)
set_option maxRecDepth 20000 in
theorem gX6_isCondition_X6_in : GoodIn wsX6_isCondition (va_wsS RX6 37 yX6_in wsX6_in) := goodIn_app (goodIn_of _ (by decide +kernel)) ggX6_isCondition_X6_in
theorem dX6_isCondition_0 : decode cX6_isCondition 0 = .ok (.iload_n 0, 1) := by decide +kernel
theorem dX6_isCondition_1 : decode cX6_isCondition 1 = .ok (.iconst 0, 1) := by decide +kernel
theorem dX6_isCondition_2 : decode cX6_isCondition 2 = .ok (.iconst 5, 1) := by decide +kernel
theorem dX6_isCondition_3 : decode cX6_isCondition 3 = .ok (.invokestatic 37, 3) := by decide +kernel
theorem dX6_isCondition_6 : decode cX6_isCondition 6 = .ok (.ireturn, 1) := by decide +kernel
set_option maxRecDepth 20000 in
theorem ggX6_between_X6_isCondition : GoodIn wsX6_between wsX6_isCondition := goodIn_r _ [6, 7, 8, 5, 9] (by decide +kernel) (by decide +kernel)
set_option maxRecDepth 20000 in
theorem gX6_between_X6_isCondition : GoodIn wsX6_between (va_wsS RX6 83 yX6_isCondition wsX6_isCondition) := goodIn_app (goodIn_of _ (by decide +kernel)) ggX6_between_X6_isCondition
set_option maxRecDepth 20000 in
theorem ggX6_between_X6_in : GoodIn wsX6_between wsX6_in := goodIn_r _ [9] (by decide +kernel) (by decide +kernel)
set_option maxRecDepth 20000 in
theorem gX6_between_X6_in : GoodIn wsX6_between (va_wsS RX6 37 yX6_in wsX6_in) := goodIn_app (goodIn_of _ (by decide +kernel)) ggX6_between_X6_in
set_option maxRecDepth 20000 in
theorem ggX6_between_X6_having : GoodIn wsX6_between wsX6_having := goodIn_r _ [13, 14, 15, 16, 17, 5, 18, 43, 44, 45, 46, 47, 48, 49, 50, 51, 52, 53, 54, 55, 56, 57, 58, 59, 60, 61, 62] (by decide +kernel) (by decide +kernel)
set_option maxRecDepth 20000 in
theorem gX6_between_X6_having : GoodIn wsX6_between (wsV RX6 86 RX6 yX6_having wsX6_having) := goodIn_app (goodIn_of _ (by decide +kernel)) ggX6_between_X6_having
set_option maxRecDepth 20000 in
theorem ggX6_between_X6_betweens : GoodIn wsX6_between wsX6_betweens := goodIn_r _ [22, 23, 24, 25, 26, 27, 5, 28, 14, 29, 30, 31, 32, 15, 16, 17, 18, 43, 44, 45, 46, 47, 48, 49, 50, 51, 52, 53, 54, 55, 56, 57, 58, 59, 60, 61, 62] (by decide +kernel) (by decide +kernel)
set_option maxRecDepth 20000 in
theorem gX6_between_X6_betweens : GoodIn wsX6_between (wsV RX6 89 RX6 yX6_betweens wsX6_betweens) := goodIn_app (goodIn_of _ (by decide +kernel)) ggX6_between_X6_betweens
set_option maxRecDepth 20000 in
theorem ggX6_between_X6_told : GoodIn wsX6_between wsX6_told := goodIn_r _ [36, 23, 24, 37, 38, 5, 39, 40, 41, 42, 43, 44, 45, 46, 47, 48, 49, 50, 51, 52, 53, 54, 55, 56, 57, 58, 59, 60, 61, 62] (by decide +kernel) (by decide +kernel)
set_option maxRecDepth 20000 in
theorem gX6_between_X6_told : GoodIn wsX6_between (wsV RX6 65 RX6 yX6_told wsX6_told) := goodIn_app (goodIn_of _ (by decide +kernel)) ggX6_between_X6_told
theorem dX6_between_0 : decode cX6_between 0 = .ok (.aload_n 0, 1) := by decide +kernel
theorem dX6_between_1 : decode cX6_between 1 = .ok (.iconst 0, 1) := by decide +kernel
theorem dX6_between_2 : decode cX6_between 2 = .ok (.putfield 34, 3) := by decide +kernel
theorem dX6_between_5 : decode cX6_between 5 = .ok (.iload_n 1, 1) := by decide +kernel
theorem dX6_between_6 : decode cX6_between 6 = .ok (.invokestatic 83, 3) := by decide +kernel
theorem dX6_between_9 : decode cX6_between 9 = .ok (.ifCond .eq 32, 3) := by decide +kernel
theorem dX6_between_12 : decode cX6_between 12 = .ok (.iload_n 2, 1) := by decide +kernel
theorem dX6_between_13 : decode cX6_between 13 = .ok (.iconst 0, 1) := by decide +kernel
theorem dX6_between_14 : decode cX6_between 14 = .ok (.iconst 1, 1) := by decide +kernel
theorem dX6_between_15 : decode cX6_between 15 = .ok (.invokestatic 37, 3) := by decide +kernel
theorem dX6_between_18 : decode cX6_between 18 = .ok (.ifCond .eq 23, 3) := by decide +kernel
theorem dX6_between_21 : decode cX6_between 21 = .ok (.aload_n 0, 1) := by decide +kernel
theorem dX6_between_22 : decode cX6_between 22 = .ok (.aload_n 0, 1) := by decide +kernel
theorem dX6_between_23 : decode cX6_between 23 = .ok (.iload_n 1, 1) := by decide +kernel
theorem dX6_between_24 : decode cX6_between 24 = .ok (.invokevirtual 86, 3) := by decide +kernel
theorem dX6_between_27 : decode cX6_between 27 = .ok (.invokevirtual 89, 3) := by decide +kernel
theorem dX6_between_30 : decode cX6_between 30 = .ok (.ifCond .eq 11, 3) := by decide +kernel
theorem dX6_between_33 : decode cX6_between 33 = .ok (.aload_n 0, 1) := by decide +kernel
theorem dX6_between_34 : decode cX6_between 34 = .ok (.iload_n 2, 1) := by decide +kernel
theorem dX6_between_35 : decode cX6_between 35 = .ok (.invokevirtual 65, 3) := by decide +kernel
theorem dX6_between_38 : decode cX6_between 38 = .ok (.goto 5, 3) := by decide +kernel
theorem dX6_between_41 : decode cX6_between 41 = .ok (.ldc 68, 2) := by decide +kernel
theorem dX6_between_43 : decode cX6_between 43 = .ok (.ireturn, 1) := by decide +kernel
theorem dX6_ones_0 : decode cX6_ones 0 = .ok (.iconst 0, 1) := by decide +kernel
theorem dX6_ones_1 : decode cX6_ones 1 = .ok (.istore_n 1, 1) := by decide +kernel
theorem dX6_ones_2 : decode cX6_ones 2 = .ok (.iconst 0, 1) := by decide +kernel
theorem dX6_ones_3 : decode cX6_ones 3 = .ok (.istore_n 2, 1) := by decide +kernel
theorem dX6_ones_4 : decode cX6_ones 4 = .ok (.iload_n 2, 1) := by decide +kernel
theorem dX6_ones_5 : decode cX6_ones 5 = .ok (.bipush 16, 2) := by decide +kernel
theorem dX6_ones_7 : decode cX6_ones 7 = .ok (.if_icmp .ge 17, 3) := by decide +kernel
theorem dX6_ones_10 : decode cX6_ones 10 = .ok (.iload_n 1, 1) := by decide +kernel
theorem dX6_ones_11 : decode cX6_ones 11 = .ok (.iload_n 0, 1) := by decide +kernel
theorem dX6_ones_12 : decode cX6_ones 12 = .ok (.iload_n 2, 1) := by decide +kernel
theorem dX6_ones_13 : decode cX6_ones 13 = .ok (.ishr, 1) := by decide +kernel
theorem dX6_ones_14 : decode cX6_ones 14 = .ok (.iconst 1, 1) := by decide +kernel
theorem dX6_ones_15 : decode cX6_ones 15 = .ok (.iand, 1) := by decide +kernel
theorem dX6_ones_16 : decode cX6_ones 16 = .ok (.iadd, 1) := by decide +kernel
theorem dX6_ones_17 : decode cX6_ones 17 = .ok (.istore_n 1, 1) := by decide +kernel
theorem dX6_ones_18 : decode cX6_ones 18 = .ok (.iinc 2 1, 3) := by decide +kernel
theorem dX6_ones_21 : decode cX6_ones 21 = .ok (.goto (-17), 3) := by decide +kernel
theorem dX6_ones_24 : decode cX6_ones 24 = .ok (.iload_n 1, 1) := by decide +kernel
theorem dX6_ones_25 : decode cX6_ones 25 = .ok (.ireturn, 1) := by decide +kernel
set_option maxRecDepth 20000 in
theorem ggX6_isAtLeast_X6_betweens : GoodIn wsX6_isAtLeast wsX6_betweens := goodIn_r _ [7, 1, 2, 8, 9, 10, 6, 11, 12, 13, 14, 15, 16, 17, 18, 19, 20, 21, 22, 23, 24, 25, 26, 27, 28, 29, 30, 31, 32, 33, 34, 35, 36, 37, 38, 39, 40] (by decide +kernel) (by decide +kernel)
set_option maxRecDepth 20000 in
theorem gX6_isAtLeast_X6_betweens : GoodIn wsX6_isAtLeast (wsV RX6 89 RX6 yX6_betweens wsX6_betweens) := goodIn_app (goodIn_of _ (by decide +kernel)) ggX6_isAtLeast_X6_betweens
theorem dX6_isAtLeast_0 : decode cX6_isAtLeast 0 = .ok (.aload_n 0, 1) := by decide +kernel
theorem dX6_isAtLeast_1 : decode cX6_isAtLeast 1 = .ok (.iload_n 1, 1) := by decide +kernel
theorem dX6_isAtLeast_2 : decode cX6_isAtLeast 2 = .ok (.invokevirtual 89, 3) := by decide +kernel
theorem dX6_isAtLeast_5 : decode cX6_isAtLeast 5 = .ok (.ifCond .eq 26, 3) := by decide +kernel
theorem dX6_isAtLeast_8 : decode cX6_isAtLeast 8 = .ok (.aload_n 0, 1) := by decide +kernel
theorem dX6_isAtLeast_9 : decode cX6_isAtLeast 9 = .ok (.getfield 49, 3) := by decide +kernel
theorem dX6_isAtLeast_12 : decode cX6_isAtLeast 12 = .ok (.i2l, 1) := by decide +kernel
theorem dX6_isAtLeast_13 : decode cX6_isAtLeast 13 = .ok (.lload 4, 2) := by decide +kernel
theorem dX6_isAtLeast_15 : decode cX6_isAtLeast 15 = .ok (.lmul, 1) := by decide +kernel
theorem dX6_isAtLeast_16 : decode cX6_isAtLeast 16 = .ok (.lload_n 2, 1) := by decide +kernel
theorem dX6_isAtLeast_17 : decode cX6_isAtLeast 17 = .ok (.aload_n 0, 1) := by decide +kernel
theorem dX6_isAtLeast_18 : decode cX6_isAtLeast 18 = .ok (.getfield 52, 3) := by decide +kernel
theorem dX6_isAtLeast_21 : decode cX6_isAtLeast 21 = .ok (.i2l, 1) := by decide +kernel
theorem dX6_isAtLeast_22 : decode cX6_isAtLeast 22 = .ok (.lmul, 1) := by decide +kernel
theorem dX6_isAtLeast_23 : decode cX6_isAtLeast 23 = .ok (.lcmp, 1) := by decide +kernel
theorem dX6_isAtLeast_24 : decode cX6_isAtLeast 24 = .ok (.ifCond .lt 7, 3) := by decide +kernel
theorem dX6_isAtLeast_27 : decode cX6_isAtLeast 27 = .ok (.iconst 1, 1) := by decide +kernel
theorem dX6_isAtLeast_28 : decode cX6_isAtLeast 28 = .ok (.goto 4, 3) := by decide +kernel
theorem dX6_isAtLeast_31 : decode cX6_isAtLeast 31 = .ok (.iconst 0, 1) := by decide +kernel
theorem dX6_isAtLeast_32 : decode cX6_isAtLeast 32 = .ok (.ireturn, 1) := by decide +kernel
set_option maxRecDepth 20000 in
theorem ggX6_priced_X6_isCondition : GoodIn wsX6_priced wsX6_isCondition := goodIn_r _ [7, 8, 9, 6, 10] (by decide +kernel) (by decide +kernel)
set_option maxRecDepth 20000 in
theorem gX6_priced_X6_isCondition : GoodIn wsX6_priced (va_wsS RX6 83 yX6_isCondition wsX6_isCondition) := goodIn_app (goodIn_of _ (by decide +kernel)) ggX6_priced_X6_isCondition
set_option maxRecDepth 20000 in
theorem ggX6_priced_X6_in : GoodIn wsX6_priced wsX6_in := goodIn_r _ [10] (by decide +kernel) (by decide +kernel)
set_option maxRecDepth 20000 in
theorem gX6_priced_X6_in : GoodIn wsX6_priced (va_wsS RX6 37 yX6_in wsX6_in) := goodIn_app (goodIn_of _ (by decide +kernel)) ggX6_priced_X6_in
set_option maxRecDepth 20000 in
theorem ggX6_priced_X6_having : GoodIn wsX6_priced wsX6_having := goodIn_r _ [14, 15, 16, 17, 18, 6, 19, 39, 40, 41, 42, 43, 44, 45, 46, 47, 48, 49, 50, 51, 52, 53, 54, 55, 56, 57, 58] (by decide +kernel) (by decide +kernel)
set_option maxRecDepth 20000 in
theorem gX6_priced_X6_having : GoodIn wsX6_priced (wsV RX6 86 RX6 yX6_having wsX6_having) := goodIn_app (goodIn_of _ (by decide +kernel)) ggX6_priced_X6_having
set_option maxRecDepth 20000 in
theorem ggX6_priced_X6_betweens : GoodIn wsX6_priced wsX6_betweens := goodIn_r _ [23, 2, 3, 24, 25, 26, 6, 27, 15, 28, 29, 30, 31, 16, 17, 18, 19, 39, 40, 41, 42, 43, 44, 45, 46, 47, 48, 49, 50, 51, 52, 53, 54, 55, 56, 57, 58] (by decide +kernel) (by decide +kernel)
set_option maxRecDepth 20000 in
theorem gX6_priced_X6_betweens : GoodIn wsX6_priced (wsV RX6 89 RX6 yX6_betweens wsX6_betweens) := goodIn_app (goodIn_of _ (by decide +kernel)) ggX6_priced_X6_betweens
set_option maxRecDepth 20000 in
theorem ggX6_priced_X6_everyHouse : GoodIn wsX6_priced wsX6_everyHouse := goodIn_r _ [27, 15, 39, 40, 41, 42, 43, 44, 45, 46, 47, 48, 49, 50, 51, 52, 53, 54, 55, 56, 57, 58] (by decide +kernel) (by decide +kernel)
set_option maxRecDepth 20000 in
theorem gX6_priced_X6_everyHouse : GoodIn wsX6_priced (wsV RX6 79 RX6 yX6_everyHouse wsX6_everyHouse) := goodIn_app (goodIn_of _ (by decide +kernel)) ggX6_priced_X6_everyHouse
set_option maxRecDepth 20000 in
theorem ggX6_priced_X6_ones : GoodIn wsX6_priced wsX6_ones := goodIn_r _ [34] (by decide +kernel) (by decide +kernel)
set_option maxRecDepth 20000 in
theorem gX6_priced_X6_ones : GoodIn wsX6_priced (va_wsS RX6 92 yX6_ones wsX6_ones) := goodIn_app (goodIn_of _ (by decide +kernel)) ggX6_priced_X6_ones
set_option maxRecDepth 20000 in
theorem ggX6_priced_X6_isAtLeast : GoodIn wsX6_priced wsX6_isAtLeast := goodIn_r _ [38, 2, 3, 20, 21, 22, 6, 23, 24, 25, 26, 27, 15, 28, 29, 30, 31, 16, 17, 18, 19, 39, 40, 41, 42, 43, 44, 45, 46, 47, 48, 49, 50, 51, 52, 53, 54, 55, 56, 57, 58] (by decide +kernel) (by decide +kernel)
set_option maxRecDepth 20000 in
theorem gX6_priced_X6_isAtLeast : GoodIn wsX6_priced (wsV RX6 95 RX6 yX6_isAtLeast wsX6_isAtLeast) := goodIn_app (goodIn_of _ (by decide +kernel)) ggX6_priced_X6_isAtLeast
theorem dX6_priced_0 : decode cX6_priced 0 = .ok (.aload_n 0, 1) := by decide +kernel
theorem dX6_priced_1 : decode cX6_priced 1 = .ok (.iconst 0, 1) := by decide +kernel
theorem dX6_priced_2 : decode cX6_priced 2 = .ok (.putfield 34, 3) := by decide +kernel
theorem dX6_priced_5 : decode cX6_priced 5 = .ok (.iload_n 1, 1) := by decide +kernel
theorem dX6_priced_6 : decode cX6_priced 6 = .ok (.invokestatic 83, 3) := by decide +kernel
theorem dX6_priced_9 : decode cX6_priced 9 = .ok (.ifCond .eq 12, 3) := by decide +kernel
theorem dX6_priced_12 : decode cX6_priced 12 = .ok (.iload_n 2, 1) := by decide +kernel
theorem dX6_priced_13 : decode cX6_priced 13 = .ok (.iconst 0, 1) := by decide +kernel
theorem dX6_priced_14 : decode cX6_priced 14 = .ok (.iconst 2, 1) := by decide +kernel
theorem dX6_priced_15 : decode cX6_priced 15 = .ok (.invokestatic 37, 3) := by decide +kernel
theorem dX6_priced_18 : decode cX6_priced 18 = .ok (.ifCond .ne 5, 3) := by decide +kernel
theorem dX6_priced_21 : decode cX6_priced 21 = .ok (.iconst (-1), 1) := by decide +kernel
theorem dX6_priced_22 : decode cX6_priced 22 = .ok (.ireturn, 1) := by decide +kernel
theorem dX6_priced_23 : decode cX6_priced 23 = .ok (.aload_n 0, 1) := by decide +kernel
theorem dX6_priced_24 : decode cX6_priced 24 = .ok (.iload_n 1, 1) := by decide +kernel
theorem dX6_priced_25 : decode cX6_priced 25 = .ok (.invokevirtual 86, 3) := by decide +kernel
theorem dX6_priced_28 : decode cX6_priced 28 = .ok (.istore_n 3, 1) := by decide +kernel
theorem dX6_priced_29 : decode cX6_priced 29 = .ok (.aload_n 0, 1) := by decide +kernel
theorem dX6_priced_30 : decode cX6_priced 30 = .ok (.iload_n 3, 1) := by decide +kernel
theorem dX6_priced_31 : decode cX6_priced 31 = .ok (.invokevirtual 89, 3) := by decide +kernel
theorem dX6_priced_34 : decode cX6_priced 34 = .ok (.ifCond .ne 6, 3) := by decide +kernel
theorem dX6_priced_37 : decode cX6_priced 37 = .ok (.bipush (-2), 2) := by decide +kernel
theorem dX6_priced_39 : decode cX6_priced 39 = .ok (.ireturn, 1) := by decide +kernel
theorem dX6_priced_40 : decode cX6_priced 40 = .ok (.aload_n 0, 1) := by decide +kernel
theorem dX6_priced_41 : decode cX6_priced 41 = .ok (.getfield 49, 3) := by decide +kernel
theorem dX6_priced_44 : decode cX6_priced 44 = .ok (.i2l, 1) := by decide +kernel
theorem dX6_priced_45 : decode cX6_priced 45 = .ok (.lstore 4, 2) := by decide +kernel
theorem dX6_priced_47 : decode cX6_priced 47 = .ok (.aload_n 0, 1) := by decide +kernel
theorem dX6_priced_48 : decode cX6_priced 48 = .ok (.getfield 52, 3) := by decide +kernel
theorem dX6_priced_51 : decode cX6_priced 51 = .ok (.i2l, 1) := by decide +kernel
theorem dX6_priced_52 : decode cX6_priced 52 = .ok (.lstore 6, 2) := by decide +kernel
theorem dX6_priced_54 : decode cX6_priced 54 = .ok (.iconst 0, 1) := by decide +kernel
theorem dX6_priced_55 : decode cX6_priced 55 = .ok (.istore 8, 2) := by decide +kernel
theorem dX6_priced_57 : decode cX6_priced 57 = .ok (.iconst 0, 1) := by decide +kernel
theorem dX6_priced_58 : decode cX6_priced 58 = .ok (.istore 9, 2) := by decide +kernel
theorem dX6_priced_60 : decode cX6_priced 60 = .ok (.iconst 0, 1) := by decide +kernel
theorem dX6_priced_61 : decode cX6_priced 61 = .ok (.istore 10, 2) := by decide +kernel
theorem dX6_priced_63 : decode cX6_priced 63 = .ok (.iload 10, 2) := by decide +kernel
theorem dX6_priced_65 : decode cX6_priced 65 = .ok (.aload_n 0, 1) := by decide +kernel
theorem dX6_priced_66 : decode cX6_priced 66 = .ok (.invokevirtual 79, 3) := by decide +kernel
theorem dX6_priced_69 : decode cX6_priced 69 = .ok (.if_icmp .gt 47, 3) := by decide +kernel
theorem dX6_priced_72 : decode cX6_priced 72 = .ok (.iload 10, 2) := by decide +kernel
theorem dX6_priced_74 : decode cX6_priced 74 = .ok (.invokestatic 92, 3) := by decide +kernel
theorem dX6_priced_77 : decode cX6_priced 77 = .ok (.iload_n 3, 1) := by decide +kernel
theorem dX6_priced_78 : decode cX6_priced 78 = .ok (.invokestatic 92, 3) := by decide +kernel
theorem dX6_priced_81 : decode cX6_priced 81 = .ok (.if_icmp .ne 29, 3) := by decide +kernel
theorem dX6_priced_84 : decode cX6_priced 84 = .ok (.iinc 8 1, 3) := by decide +kernel
theorem dX6_priced_87 : decode cX6_priced 87 = .ok (.iload 9, 2) := by decide +kernel
theorem dX6_priced_89 : decode cX6_priced 89 = .ok (.aload_n 0, 1) := by decide +kernel
theorem dX6_priced_90 : decode cX6_priced 90 = .ok (.iload 10, 2) := by decide +kernel
theorem dX6_priced_92 : decode cX6_priced 92 = .ok (.lload 4, 2) := by decide +kernel
theorem dX6_priced_94 : decode cX6_priced 94 = .ok (.lload 6, 2) := by decide +kernel
theorem dX6_priced_96 : decode cX6_priced 96 = .ok (.invokevirtual 95, 3) := by decide +kernel
theorem dX6_priced_99 : decode cX6_priced 99 = .ok (.ifCond .eq 7, 3) := by decide +kernel
theorem dX6_priced_102 : decode cX6_priced 102 = .ok (.iconst 1, 1) := by decide +kernel
theorem dX6_priced_103 : decode cX6_priced 103 = .ok (.goto 4, 3) := by decide +kernel
theorem dX6_priced_106 : decode cX6_priced 106 = .ok (.iconst 0, 1) := by decide +kernel
theorem dX6_priced_107 : decode cX6_priced 107 = .ok (.iadd, 1) := by decide +kernel
theorem dX6_priced_108 : decode cX6_priced 108 = .ok (.istore 9, 2) := by decide +kernel
theorem dX6_priced_110 : decode cX6_priced 110 = .ok (.iinc 10 1, 3) := by decide +kernel
theorem dX6_priced_113 : decode cX6_priced 113 = .ok (.goto (-50), 3) := by decide +kernel
theorem dX6_priced_116 : decode cX6_priced 116 = .ok (.iconst 0, 1) := by decide +kernel
theorem dX6_priced_117 : decode cX6_priced 117 = .ok (.istore 10, 2) := by decide +kernel
theorem dX6_priced_119 : decode cX6_priced 119 = .ok (.iconst 0, 1) := by decide +kernel
theorem dX6_priced_120 : decode cX6_priced 120 = .ok (.istore 11, 2) := by decide +kernel
theorem dX6_priced_122 : decode cX6_priced 122 = .ok (.iload 11, 2) := by decide +kernel
theorem dX6_priced_124 : decode cX6_priced 124 = .ok (.bipush 6, 2) := by decide +kernel
theorem dX6_priced_126 : decode cX6_priced 126 = .ok (.if_icmp .ge 36, 3) := by decide +kernel
theorem dX6_priced_129 : decode cX6_priced 129 = .ok (.iload 10, 2) := by decide +kernel
theorem dX6_priced_131 : decode cX6_priced 131 = .ok (.aload_n 0, 1) := by decide +kernel
theorem dX6_priced_132 : decode cX6_priced 132 = .ok (.aload_n 0, 1) := by decide +kernel
theorem dX6_priced_133 : decode cX6_priced 133 = .ok (.iload 11, 2) := by decide +kernel
theorem dX6_priced_135 : decode cX6_priced 135 = .ok (.invokevirtual 86, 3) := by decide +kernel
theorem dX6_priced_138 : decode cX6_priced 138 = .ok (.lload 4, 2) := by decide +kernel
theorem dX6_priced_140 : decode cX6_priced 140 = .ok (.lload 6, 2) := by decide +kernel
theorem dX6_priced_142 : decode cX6_priced 142 = .ok (.invokevirtual 95, 3) := by decide +kernel
theorem dX6_priced_145 : decode cX6_priced 145 = .ok (.ifCond .eq 7, 3) := by decide +kernel
theorem dX6_priced_148 : decode cX6_priced 148 = .ok (.iconst 1, 1) := by decide +kernel
theorem dX6_priced_149 : decode cX6_priced 149 = .ok (.goto 4, 3) := by decide +kernel
theorem dX6_priced_152 : decode cX6_priced 152 = .ok (.iconst 0, 1) := by decide +kernel
theorem dX6_priced_153 : decode cX6_priced 153 = .ok (.iadd, 1) := by decide +kernel
theorem dX6_priced_154 : decode cX6_priced 154 = .ok (.istore 10, 2) := by decide +kernel
theorem dX6_priced_156 : decode cX6_priced 156 = .ok (.iinc 11 1, 3) := by decide +kernel
theorem dX6_priced_159 : decode cX6_priced 159 = .ok (.goto (-37), 3) := by decide +kernel
theorem dX6_priced_162 : decode cX6_priced 162 = .ok (.iload_n 2, 1) := by decide +kernel
theorem dX6_priced_163 : decode cX6_priced 163 = .ok (.ifCond .ne 8, 3) := by decide +kernel
theorem dX6_priced_166 : decode cX6_priced 166 = .ok (.iload 9, 2) := by decide +kernel
theorem dX6_priced_168 : decode cX6_priced 168 = .ok (.goto 15, 3) := by decide +kernel
theorem dX6_priced_171 : decode cX6_priced 171 = .ok (.iload_n 2, 1) := by decide +kernel
theorem dX6_priced_172 : decode cX6_priced 172 = .ok (.iconst 1, 1) := by decide +kernel
theorem dX6_priced_173 : decode cX6_priced 173 = .ok (.if_icmp .ne 8, 3) := by decide +kernel
theorem dX6_priced_176 : decode cX6_priced 176 = .ok (.iload 8, 2) := by decide +kernel
theorem dX6_priced_178 : decode cX6_priced 178 = .ok (.goto 5, 3) := by decide +kernel
theorem dX6_priced_181 : decode cX6_priced 181 = .ok (.iload 10, 2) := by decide +kernel
theorem dX6_priced_183 : decode cX6_priced 183 = .ok (.ireturn, 1) := by decide +kernel
set_option maxRecDepth 20000 in
theorem ggX6_type_X6_in : GoodIn wsX6_type wsX6_in := goodIn_r _ [8] (by decide +kernel) (by decide +kernel)
set_option maxRecDepth 20000 in
theorem gX6_type_X6_in : GoodIn wsX6_type (va_wsS RX6 37 yX6_in wsX6_in) := goodIn_app (goodIn_of _ (by decide +kernel)) ggX6_type_X6_in
theorem dX6_type_0 : decode cX6_type 0 = .ok (.aload_n 0, 1) := by decide +kernel
theorem dX6_type_1 : decode cX6_type 1 = .ok (.iconst 0, 1) := by decide +kernel
theorem dX6_type_2 : decode cX6_type 2 = .ok (.putfield 34, 3) := by decide +kernel
theorem dX6_type_5 : decode cX6_type 5 = .ok (.iload_n 3, 1) := by decide +kernel
theorem dX6_type_6 : decode cX6_type 6 = .ok (.iconst 1, 1) := by decide +kernel
theorem dX6_type_7 : decode cX6_type 7 = .ok (.bipush 8, 2) := by decide +kernel
theorem dX6_type_9 : decode cX6_type 9 = .ok (.invokestatic 37, 3) := by decide +kernel
theorem dX6_type_12 : decode cX6_type 12 = .ok (.ifCond .ne 5, 3) := by decide +kernel
theorem dX6_type_15 : decode cX6_type 15 = .ok (.iconst (-1), 1) := by decide +kernel
theorem dX6_type_16 : decode cX6_type 16 = .ok (.ireturn, 1) := by decide +kernel
theorem dX6_type_17 : decode cX6_type 17 = .ok (.aload_n 0, 1) := by decide +kernel
theorem dX6_type_18 : decode cX6_type 18 = .ok (.getfield 99, 3) := by decide +kernel
theorem dX6_type_21 : decode cX6_type 21 = .ok (.iload_n 3, 1) := by decide +kernel
theorem dX6_type_22 : decode cX6_type 22 = .ok (.iadd, 1) := by decide +kernel
theorem dX6_type_23 : decode cX6_type 23 = .ok (.sipush 300, 3) := by decide +kernel
theorem dX6_type_26 : decode cX6_type 26 = .ok (.if_icmp .le 6, 3) := by decide +kernel
theorem dX6_type_29 : decode cX6_type 29 = .ok (.bipush (-3), 2) := by decide +kernel
theorem dX6_type_31 : decode cX6_type 31 = .ok (.ireturn, 1) := by decide +kernel
theorem dX6_type_32 : decode cX6_type 32 = .ok (.iload_n 3, 1) := by decide +kernel
theorem dX6_type_33 : decode cX6_type 33 = .ok (.iconst 1, 1) := by decide +kernel
theorem dX6_type_34 : decode cX6_type 34 = .ok (.isub, 1) := by decide +kernel
theorem dX6_type_35 : decode cX6_type 35 = .ok (.istore 4, 2) := by decide +kernel
theorem dX6_type_37 : decode cX6_type 37 = .ok (.iload 4, 2) := by decide +kernel
theorem dX6_type_39 : decode cX6_type 39 = .ok (.ifCond .lt 40, 3) := by decide +kernel
theorem dX6_type_42 : decode cX6_type 42 = .ok (.aload_n 0, 1) := by decide +kernel
theorem dX6_type_43 : decode cX6_type 43 = .ok (.getfield 20, 3) := by decide +kernel
theorem dX6_type_46 : decode cX6_type 46 = .ok (.aload_n 0, 1) := by decide +kernel
theorem dX6_type_47 : decode cX6_type 47 = .ok (.getfield 99, 3) := by decide +kernel
theorem dX6_type_50 : decode cX6_type 50 = .ok (.lload_n 1, 1) := by decide +kernel
theorem dX6_type_51 : decode cX6_type 51 = .ok (.bipush 8, 2) := by decide +kernel
theorem dX6_type_53 : decode cX6_type 53 = .ok (.iload 4, 2) := by decide +kernel
theorem dX6_type_55 : decode cX6_type 55 = .ok (.imul, 1) := by decide +kernel
theorem dX6_type_56 : decode cX6_type 56 = .ok (.lshr, 1) := by decide +kernel
theorem dX6_type_57 : decode cX6_type 57 = .ok (.ldc2_w 102, 3) := by decide +kernel
theorem dX6_type_60 : decode cX6_type 60 = .ok (.land, 1) := by decide +kernel
theorem dX6_type_61 : decode cX6_type 61 = .ok (.l2i, 1) := by decide +kernel
theorem dX6_type_62 : decode cX6_type 62 = .ok (.iastore, 1) := by decide +kernel
theorem dX6_type_63 : decode cX6_type 63 = .ok (.aload_n 0, 1) := by decide +kernel
theorem dX6_type_64 : decode cX6_type 64 = .ok (.dup, 1) := by decide +kernel
theorem dX6_type_65 : decode cX6_type 65 = .ok (.getfield 99, 3) := by decide +kernel
theorem dX6_type_68 : decode cX6_type 68 = .ok (.iconst 1, 1) := by decide +kernel
theorem dX6_type_69 : decode cX6_type 69 = .ok (.iadd, 1) := by decide +kernel
theorem dX6_type_70 : decode cX6_type 70 = .ok (.putfield 99, 3) := by decide +kernel
theorem dX6_type_73 : decode cX6_type 73 = .ok (.iinc 4 (-1), 3) := by decide +kernel
theorem dX6_type_76 : decode cX6_type 76 = .ok (.goto (-39), 3) := by decide +kernel
theorem dX6_type_79 : decode cX6_type 79 = .ok (.aload_n 0, 1) := by decide +kernel
theorem dX6_type_80 : decode cX6_type 80 = .ok (.getfield 99, 3) := by decide +kernel
theorem dX6_type_83 : decode cX6_type 83 = .ok (.ireturn, 1) := by decide +kernel
theorem dX6_clear_0 : decode cX6_clear 0 = .ok (.aload_n 0, 1) := by decide +kernel
theorem dX6_clear_1 : decode cX6_clear 1 = .ok (.iconst 0, 1) := by decide +kernel
theorem dX6_clear_2 : decode cX6_clear 2 = .ok (.putfield 34, 3) := by decide +kernel
theorem dX6_clear_5 : decode cX6_clear 5 = .ok (.aload_n 0, 1) := by decide +kernel
theorem dX6_clear_6 : decode cX6_clear 6 = .ok (.getfield 99, 3) := by decide +kernel
theorem dX6_clear_9 : decode cX6_clear 9 = .ok (.istore_n 1, 1) := by decide +kernel
theorem dX6_clear_10 : decode cX6_clear 10 = .ok (.aload_n 0, 1) := by decide +kernel
theorem dX6_clear_11 : decode cX6_clear 11 = .ok (.iconst 0, 1) := by decide +kernel
theorem dX6_clear_12 : decode cX6_clear 12 = .ok (.putfield 99, 3) := by decide +kernel
theorem dX6_clear_15 : decode cX6_clear 15 = .ok (.iload_n 1, 1) := by decide +kernel
theorem dX6_clear_16 : decode cX6_clear 16 = .ok (.ireturn, 1) := by decide +kernel
theorem dX6_byteAt_0 : decode cX6_byteAt 0 = .ok (.iload_n 1, 1) := by decide +kernel
theorem dX6_byteAt_1 : decode cX6_byteAt 1 = .ok (.aload_n 0, 1) := by decide +kernel
theorem dX6_byteAt_2 : decode cX6_byteAt 2 = .ok (.getfield 99, 3) := by decide +kernel
theorem dX6_byteAt_5 : decode cX6_byteAt 5 = .ok (.if_icmp .ge 12, 3) := by decide +kernel
theorem dX6_byteAt_8 : decode cX6_byteAt 8 = .ok (.aload_n 0, 1) := by decide +kernel
theorem dX6_byteAt_9 : decode cX6_byteAt 9 = .ok (.getfield 20, 3) := by decide +kernel
theorem dX6_byteAt_12 : decode cX6_byteAt 12 = .ok (.iload_n 1, 1) := by decide +kernel
theorem dX6_byteAt_13 : decode cX6_byteAt 13 = .ok (.iaload, 1) := by decide +kernel
theorem dX6_byteAt_14 : decode cX6_byteAt 14 = .ok (.goto 4, 3) := by decide +kernel
theorem dX6_byteAt_17 : decode cX6_byteAt 17 = .ok (.iconst (-1), 1) := by decide +kernel
theorem dX6_byteAt_18 : decode cX6_byteAt 18 = .ok (.ireturn, 1) := by decide +kernel
set_option maxRecDepth 20000 in
theorem ggX6_isWord_X6_byteAt : GoodIn wsX6_isWord wsX6_byteAt := goodIn_r _ [6, 7, 8, 9, 10, 11, 12, 13, 14, 15, 16, 17, 18, 19, 20, 21, 22, 23, 24, 25, 26, 27, 28] (by decide +kernel) (by decide +kernel)
set_option maxRecDepth 20000 in
theorem gX6_isWord_X6_byteAt : GoodIn wsX6_isWord (wsV RX6 107 RX6 yX6_byteAt wsX6_byteAt) := goodIn_app (goodIn_of _ (by decide +kernel)) ggX6_isWord_X6_byteAt
theorem dX6_isWord_0 : decode cX6_isWord 0 = .ok (.iload 5, 2) := by decide +kernel
theorem dX6_isWord_2 : decode cX6_isWord 2 = .ok (.ifCond .eq 7, 3) := by decide +kernel
theorem dX6_isWord_5 : decode cX6_isWord 5 = .ok (.iconst 4, 1) := by decide +kernel
theorem dX6_isWord_6 : decode cX6_isWord 6 = .ok (.goto 13, 3) := by decide +kernel
theorem dX6_isWord_9 : decode cX6_isWord 9 = .ok (.iload 4, 2) := by decide +kernel
theorem dX6_isWord_11 : decode cX6_isWord 11 = .ok (.ifCond .eq 7, 3) := by decide +kernel
theorem dX6_isWord_14 : decode cX6_isWord 14 = .ok (.iconst 3, 1) := by decide +kernel
theorem dX6_isWord_15 : decode cX6_isWord 15 = .ok (.goto 4, 3) := by decide +kernel
theorem dX6_isWord_18 : decode cX6_isWord 18 = .ok (.iconst 2, 1) := by decide +kernel
theorem dX6_isWord_19 : decode cX6_isWord 19 = .ok (.istore 6, 2) := by decide +kernel
theorem dX6_isWord_21 : decode cX6_isWord 21 = .ok (.iload_n 1, 1) := by decide +kernel
theorem dX6_isWord_22 : decode cX6_isWord 22 = .ok (.iload 6, 2) := by decide +kernel
theorem dX6_isWord_24 : decode cX6_isWord 24 = .ok (.if_icmp .ne 73, 3) := by decide +kernel
theorem dX6_isWord_27 : decode cX6_isWord 27 = .ok (.aload_n 0, 1) := by decide +kernel
theorem dX6_isWord_28 : decode cX6_isWord 28 = .ok (.aload_n 0, 1) := by decide +kernel
theorem dX6_isWord_29 : decode cX6_isWord 29 = .ok (.getfield 104, 3) := by decide +kernel
theorem dX6_isWord_32 : decode cX6_isWord 32 = .ok (.invokevirtual 107, 3) := by decide +kernel
theorem dX6_isWord_35 : decode cX6_isWord 35 = .ok (.iload_n 2, 1) := by decide +kernel
theorem dX6_isWord_36 : decode cX6_isWord 36 = .ok (.if_icmp .ne 61, 3) := by decide +kernel
theorem dX6_isWord_39 : decode cX6_isWord 39 = .ok (.aload_n 0, 1) := by decide +kernel
theorem dX6_isWord_40 : decode cX6_isWord 40 = .ok (.aload_n 0, 1) := by decide +kernel
theorem dX6_isWord_41 : decode cX6_isWord 41 = .ok (.getfield 104, 3) := by decide +kernel
theorem dX6_isWord_44 : decode cX6_isWord 44 = .ok (.iconst 1, 1) := by decide +kernel
theorem dX6_isWord_45 : decode cX6_isWord 45 = .ok (.iadd, 1) := by decide +kernel
theorem dX6_isWord_46 : decode cX6_isWord 46 = .ok (.invokevirtual 107, 3) := by decide +kernel
theorem dX6_isWord_49 : decode cX6_isWord 49 = .ok (.iload_n 3, 1) := by decide +kernel
theorem dX6_isWord_50 : decode cX6_isWord 50 = .ok (.if_icmp .ne 47, 3) := by decide +kernel
theorem dX6_isWord_53 : decode cX6_isWord 53 = .ok (.iload 4, 2) := by decide +kernel
theorem dX6_isWord_55 : decode cX6_isWord 55 = .ok (.ifCond .eq 18, 3) := by decide +kernel
theorem dX6_isWord_58 : decode cX6_isWord 58 = .ok (.aload_n 0, 1) := by decide +kernel
theorem dX6_isWord_59 : decode cX6_isWord 59 = .ok (.aload_n 0, 1) := by decide +kernel
theorem dX6_isWord_60 : decode cX6_isWord 60 = .ok (.getfield 104, 3) := by decide +kernel
theorem dX6_isWord_63 : decode cX6_isWord 63 = .ok (.iconst 2, 1) := by decide +kernel
theorem dX6_isWord_64 : decode cX6_isWord 64 = .ok (.iadd, 1) := by decide +kernel
theorem dX6_isWord_65 : decode cX6_isWord 65 = .ok (.invokevirtual 107, 3) := by decide +kernel
theorem dX6_isWord_68 : decode cX6_isWord 68 = .ok (.iload 4, 2) := by decide +kernel
theorem dX6_isWord_70 : decode cX6_isWord 70 = .ok (.if_icmp .ne 27, 3) := by decide +kernel
theorem dX6_isWord_73 : decode cX6_isWord 73 = .ok (.iload 5, 2) := by decide +kernel
theorem dX6_isWord_75 : decode cX6_isWord 75 = .ok (.ifCond .eq 18, 3) := by decide +kernel
theorem dX6_isWord_78 : decode cX6_isWord 78 = .ok (.aload_n 0, 1) := by decide +kernel
theorem dX6_isWord_79 : decode cX6_isWord 79 = .ok (.aload_n 0, 1) := by decide +kernel
theorem dX6_isWord_80 : decode cX6_isWord 80 = .ok (.getfield 104, 3) := by decide +kernel
theorem dX6_isWord_83 : decode cX6_isWord 83 = .ok (.iconst 3, 1) := by decide +kernel
theorem dX6_isWord_84 : decode cX6_isWord 84 = .ok (.iadd, 1) := by decide +kernel
theorem dX6_isWord_85 : decode cX6_isWord 85 = .ok (.invokevirtual 107, 3) := by decide +kernel
theorem dX6_isWord_88 : decode cX6_isWord 88 = .ok (.iload 5, 2) := by decide +kernel
theorem dX6_isWord_90 : decode cX6_isWord 90 = .ok (.if_icmp .ne 7, 3) := by decide +kernel
theorem dX6_isWord_93 : decode cX6_isWord 93 = .ok (.iconst 1, 1) := by decide +kernel
theorem dX6_isWord_94 : decode cX6_isWord 94 = .ok (.goto 4, 3) := by decide +kernel
theorem dX6_isWord_97 : decode cX6_isWord 97 = .ok (.iconst 0, 1) := by decide +kernel
theorem dX6_isWord_98 : decode cX6_isWord 98 = .ok (.ireturn, 1) := by decide +kernel
set_option maxRecDepth 20000 in
theorem ggX6_words_X6_isWord : GoodIn wsX6_words wsX6_isWord := goodIn_r _ [9, 2, 10, 11, 12, 8, 13, 14, 1, 15, 16, 17, 18, 19, 20, 21, 22, 23, 24, 25, 26, 27, 28, 29, 30, 31, 32, 33, 34] (by decide +kernel) (by decide +kernel)
set_option maxRecDepth 20000 in
theorem gX6_words_X6_isWord : GoodIn wsX6_words (wsV RX6 113 RX6 yX6_isWord wsX6_isWord) := goodIn_app (goodIn_of _ (by decide +kernel)) ggX6_words_X6_isWord
theorem dX6_words_0 : decode cX6_words 0 = .ok (.iconst 0, 1) := by decide +kernel
theorem dX6_words_1 : decode cX6_words 1 = .ok (.istore_n 2, 1) := by decide +kernel
theorem dX6_words_2 : decode cX6_words 2 = .ok (.iconst 1, 1) := by decide +kernel
theorem dX6_words_3 : decode cX6_words 3 = .ok (.istore_n 3, 1) := by decide +kernel
theorem dX6_words_4 : decode cX6_words 4 = .ok (.iconst 0, 1) := by decide +kernel
theorem dX6_words_5 : decode cX6_words 5 = .ok (.istore 4, 2) := by decide +kernel
theorem dX6_words_7 : decode cX6_words 7 = .ok (.iload 4, 2) := by decide +kernel
theorem dX6_words_9 : decode cX6_words 9 = .ok (.iload_n 1, 1) := by decide +kernel
theorem dX6_words_10 : decode cX6_words 10 = .ok (.if_icmp .ge 70, 3) := by decide +kernel
theorem dX6_words_13 : decode cX6_words 13 = .ok (.aload_n 0, 1) := by decide +kernel
theorem dX6_words_14 : decode cX6_words 14 = .ok (.getfield 20, 3) := by decide +kernel
theorem dX6_words_17 : decode cX6_words 17 = .ok (.aload_n 0, 1) := by decide +kernel
theorem dX6_words_18 : decode cX6_words 18 = .ok (.getfield 104, 3) := by decide +kernel
theorem dX6_words_21 : decode cX6_words 21 = .ok (.iload 4, 2) := by decide +kernel
theorem dX6_words_23 : decode cX6_words 23 = .ok (.iadd, 1) := by decide +kernel
theorem dX6_words_24 : decode cX6_words 24 = .ok (.iaload, 1) := by decide +kernel
theorem dX6_words_25 : decode cX6_words 25 = .ok (.istore 5, 2) := by decide +kernel
theorem dX6_words_27 : decode cX6_words 27 = .ok (.iload_n 3, 1) := by decide +kernel
theorem dX6_words_28 : decode cX6_words 28 = .ok (.ifCond .eq 26, 3) := by decide +kernel
theorem dX6_words_31 : decode cX6_words 31 = .ok (.iload 5, 2) := by decide +kernel
theorem dX6_words_33 : decode cX6_words 33 = .ok (.bipush 102, 2) := by decide +kernel
theorem dX6_words_35 : decode cX6_words 35 = .ok (.if_icmp .gt 19, 3) := by decide +kernel
theorem dX6_words_38 : decode cX6_words 38 = .ok (.iload_n 2, 1) := by decide +kernel
theorem dX6_words_39 : decode cX6_words 39 = .ok (.iload 5, 2) := by decide +kernel
theorem dX6_words_41 : decode cX6_words 41 = .ok (.bipush 97, 2) := by decide +kernel
theorem dX6_words_43 : decode cX6_words 43 = .ok (.isub, 1) := by decide +kernel
theorem dX6_words_44 : decode cX6_words 44 = .ok (.ishr, 1) := by decide +kernel
theorem dX6_words_45 : decode cX6_words 45 = .ok (.iconst 1, 1) := by decide +kernel
theorem dX6_words_46 : decode cX6_words 46 = .ok (.iand, 1) := by decide +kernel
theorem dX6_words_47 : decode cX6_words 47 = .ok (.ifCond .ne 7, 3) := by decide +kernel
theorem dX6_words_50 : decode cX6_words 50 = .ok (.iconst 1, 1) := by decide +kernel
theorem dX6_words_51 : decode cX6_words 51 = .ok (.goto 4, 3) := by decide +kernel
theorem dX6_words_54 : decode cX6_words 54 = .ok (.iconst 0, 1) := by decide +kernel
theorem dX6_words_55 : decode cX6_words 55 = .ok (.istore_n 3, 1) := by decide +kernel
theorem dX6_words_56 : decode cX6_words 56 = .ok (.iload_n 2, 1) := by decide +kernel
theorem dX6_words_57 : decode cX6_words 57 = .ok (.iload_n 3, 1) := by decide +kernel
theorem dX6_words_58 : decode cX6_words 58 = .ok (.ifCond .eq 13, 3) := by decide +kernel
theorem dX6_words_61 : decode cX6_words 61 = .ok (.iconst 1, 1) := by decide +kernel
theorem dX6_words_62 : decode cX6_words 62 = .ok (.iload 5, 2) := by decide +kernel
theorem dX6_words_64 : decode cX6_words 64 = .ok (.bipush 97, 2) := by decide +kernel
theorem dX6_words_66 : decode cX6_words 66 = .ok (.isub, 1) := by decide +kernel
theorem dX6_words_67 : decode cX6_words 67 = .ok (.ishl, 1) := by decide +kernel
theorem dX6_words_68 : decode cX6_words 68 = .ok (.goto 4, 3) := by decide +kernel
theorem dX6_words_71 : decode cX6_words 71 = .ok (.iconst 0, 1) := by decide +kernel
theorem dX6_words_72 : decode cX6_words 72 = .ok (.ior, 1) := by decide +kernel
theorem dX6_words_73 : decode cX6_words 73 = .ok (.istore_n 2, 1) := by decide +kernel
theorem dX6_words_74 : decode cX6_words 74 = .ok (.iinc 4 1, 3) := by decide +kernel
theorem dX6_words_77 : decode cX6_words 77 = .ok (.goto (-70), 3) := by decide +kernel
theorem dX6_words_80 : decode cX6_words 80 = .ok (.aload_n 0, 1) := by decide +kernel
theorem dX6_words_81 : decode cX6_words 81 = .ok (.iload_n 2, 1) := by decide +kernel
theorem dX6_words_82 : decode cX6_words 82 = .ok (.putfield 110, 3) := by decide +kernel
theorem dX6_words_85 : decode cX6_words 85 = .ok (.aload_n 0, 1) := by decide +kernel
theorem dX6_words_86 : decode cX6_words 86 = .ok (.iload_n 3, 1) := by decide +kernel
theorem dX6_words_87 : decode cX6_words 87 = .ok (.ifCond .eq 7, 3) := by decide +kernel
theorem dX6_words_90 : decode cX6_words 90 = .ok (.iconst 4, 1) := by decide +kernel
theorem dX6_words_91 : decode cX6_words 91 = .ok (.goto 62, 3) := by decide +kernel
theorem dX6_words_94 : decode cX6_words 94 = .ok (.aload_n 0, 1) := by decide +kernel
theorem dX6_words_95 : decode cX6_words 95 = .ok (.iload_n 1, 1) := by decide +kernel
theorem dX6_words_96 : decode cX6_words 96 = .ok (.bipush 108, 2) := by decide +kernel
theorem dX6_words_98 : decode cX6_words 98 = .ok (.bipush 97, 2) := by decide +kernel
theorem dX6_words_100 : decode cX6_words 100 = .ok (.bipush 119, 2) := by decide +kernel
theorem dX6_words_102 : decode cX6_words 102 = .ok (.iconst 0, 1) := by decide +kernel
theorem dX6_words_103 : decode cX6_words 103 = .ok (.invokevirtual 113, 3) := by decide +kernel
theorem dX6_words_106 : decode cX6_words 106 = .ok (.ifCond .eq 7, 3) := by decide +kernel
theorem dX6_words_109 : decode cX6_words 109 = .ok (.iconst 1, 1) := by decide +kernel
theorem dX6_words_110 : decode cX6_words 110 = .ok (.goto 43, 3) := by decide +kernel
theorem dX6_words_113 : decode cX6_words 113 = .ok (.aload_n 0, 1) := by decide +kernel
theorem dX6_words_114 : decode cX6_words 114 = .ok (.iload_n 1, 1) := by decide +kernel
theorem dX6_words_115 : decode cX6_words 115 = .ok (.bipush 105, 2) := by decide +kernel
theorem dX6_words_117 : decode cX6_words 117 = .ok (.bipush 102, 2) := by decide +kernel
theorem dX6_words_119 : decode cX6_words 119 = .ok (.iconst 0, 1) := by decide +kernel
theorem dX6_words_120 : decode cX6_words 120 = .ok (.iconst 0, 1) := by decide +kernel
theorem dX6_words_121 : decode cX6_words 121 = .ok (.invokevirtual 113, 3) := by decide +kernel
theorem dX6_words_124 : decode cX6_words 124 = .ok (.ifCond .eq 7, 3) := by decide +kernel
theorem dX6_words_127 : decode cX6_words 127 = .ok (.iconst 2, 1) := by decide +kernel
theorem dX6_words_128 : decode cX6_words 128 = .ok (.goto 25, 3) := by decide +kernel
theorem dX6_words_131 : decode cX6_words 131 = .ok (.aload_n 0, 1) := by decide +kernel
theorem dX6_words_132 : decode cX6_words 132 = .ok (.iload_n 1, 1) := by decide +kernel
theorem dX6_words_133 : decode cX6_words 133 = .ok (.bipush 101, 2) := by decide +kernel
theorem dX6_words_135 : decode cX6_words 135 = .ok (.bipush 108, 2) := by decide +kernel
theorem dX6_words_137 : decode cX6_words 137 = .ok (.bipush 115, 2) := by decide +kernel
theorem dX6_words_139 : decode cX6_words 139 = .ok (.bipush 101, 2) := by decide +kernel
theorem dX6_words_141 : decode cX6_words 141 = .ok (.invokevirtual 113, 3) := by decide +kernel
theorem dX6_words_144 : decode cX6_words 144 = .ok (.ifCond .eq 7, 3) := by decide +kernel
theorem dX6_words_147 : decode cX6_words 147 = .ok (.iconst 3, 1) := by decide +kernel
theorem dX6_words_148 : decode cX6_words 148 = .ok (.goto 5, 3) := by decide +kernel
theorem dX6_words_151 : decode cX6_words 151 = .ok (.bipush 7, 2) := by decide +kernel
theorem dX6_words_153 : decode cX6_words 153 = .ok (.putfield 117, 3) := by decide +kernel
theorem dX6_words_156 : decode cX6_words 156 = .ok (.return_, 1) := by decide +kernel
set_option maxRecDepth 20000 in
theorem ggX6_advances_X6_byteAt : GoodIn wsX6_advances wsX6_byteAt := goodIn_r _ [9, 10, 11, 23, 24, 25, 26, 27, 28, 29, 30, 31, 32, 33, 34, 35, 36, 37, 38, 39, 40, 41, 42] (by decide +kernel) (by decide +kernel)
set_option maxRecDepth 20000 in
theorem gX6_advances_X6_byteAt : GoodIn wsX6_advances (wsV RX6 107 RX6 yX6_byteAt wsX6_byteAt) := goodIn_app (goodIn_of _ (by decide +kernel)) ggX6_advances_X6_byteAt
set_option maxRecDepth 20000 in
theorem ggX6_advances_X6_in : GoodIn wsX6_advances wsX6_in := goodIn_r _ [14] (by decide +kernel) (by decide +kernel)
set_option maxRecDepth 20000 in
theorem gX6_advances_X6_in : GoodIn wsX6_advances (va_wsS RX6 37 yX6_in wsX6_in) := goodIn_app (goodIn_of _ (by decide +kernel)) ggX6_advances_X6_in
set_option maxRecDepth 20000 in
theorem ggX6_advances_X6_words : GoodIn wsX6_advances wsX6_words := goodIn_r _ [18, 11, 2, 4, 3, 19, 20, 21, 8, 22, 5, 6, 7, 9, 10, 23, 24, 25, 26, 27, 28, 29, 30, 31, 32, 33, 34, 35, 36, 37, 38, 39, 40, 41, 42] (by decide +kernel) (by decide +kernel)
set_option maxRecDepth 20000 in
theorem gX6_advances_X6_words : GoodIn wsX6_advances (wsV RX6 123 RX6 yX6_words wsX6_words) := goodIn_app (goodIn_of _ (by decide +kernel)) ggX6_advances_X6_words
theorem dX6_advances_0 : decode cX6_advances 0 = .ok (.aload_n 0, 1) := by decide +kernel
theorem dX6_advances_1 : decode cX6_advances 1 = .ok (.aload_n 0, 1) := by decide +kernel
theorem dX6_advances_2 : decode cX6_advances 2 = .ok (.getfield 120, 3) := by decide +kernel
theorem dX6_advances_5 : decode cX6_advances 5 = .ok (.invokevirtual 107, 3) := by decide +kernel
theorem dX6_advances_8 : decode cX6_advances 8 = .ok (.bipush 32, 2) := by decide +kernel
theorem dX6_advances_10 : decode cX6_advances 10 = .ok (.if_icmp .ne 16, 3) := by decide +kernel
theorem dX6_advances_13 : decode cX6_advances 13 = .ok (.aload_n 0, 1) := by decide +kernel
theorem dX6_advances_14 : decode cX6_advances 14 = .ok (.dup, 1) := by decide +kernel
theorem dX6_advances_15 : decode cX6_advances 15 = .ok (.getfield 120, 3) := by decide +kernel
theorem dX6_advances_18 : decode cX6_advances 18 = .ok (.iconst 1, 1) := by decide +kernel
theorem dX6_advances_19 : decode cX6_advances 19 = .ok (.iadd, 1) := by decide +kernel
theorem dX6_advances_20 : decode cX6_advances 20 = .ok (.putfield 120, 3) := by decide +kernel
theorem dX6_advances_23 : decode cX6_advances 23 = .ok (.goto (-23), 3) := by decide +kernel
theorem dX6_advances_26 : decode cX6_advances 26 = .ok (.aload_n 0, 1) := by decide +kernel
theorem dX6_advances_27 : decode cX6_advances 27 = .ok (.aload_n 0, 1) := by decide +kernel
theorem dX6_advances_28 : decode cX6_advances 28 = .ok (.getfield 120, 3) := by decide +kernel
theorem dX6_advances_31 : decode cX6_advances 31 = .ok (.putfield 104, 3) := by decide +kernel
theorem dX6_advances_34 : decode cX6_advances 34 = .ok (.aload_n 0, 1) := by decide +kernel
theorem dX6_advances_35 : decode cX6_advances 35 = .ok (.aload_n 0, 1) := by decide +kernel
theorem dX6_advances_36 : decode cX6_advances 36 = .ok (.getfield 120, 3) := by decide +kernel
theorem dX6_advances_39 : decode cX6_advances 39 = .ok (.invokevirtual 107, 3) := by decide +kernel
theorem dX6_advances_42 : decode cX6_advances 42 = .ok (.istore_n 1, 1) := by decide +kernel
theorem dX6_advances_43 : decode cX6_advances 43 = .ok (.iload_n 1, 1) := by decide +kernel
theorem dX6_advances_44 : decode cX6_advances 44 = .ok (.ifCond .ge 11, 3) := by decide +kernel
theorem dX6_advances_47 : decode cX6_advances 47 = .ok (.aload_n 0, 1) := by decide +kernel
theorem dX6_advances_48 : decode cX6_advances 48 = .ok (.iconst 0, 1) := by decide +kernel
theorem dX6_advances_49 : decode cX6_advances 49 = .ok (.putfield 117, 3) := by decide +kernel
theorem dX6_advances_52 : decode cX6_advances 52 = .ok (.goto 215, 3) := by decide +kernel
theorem dX6_advances_55 : decode cX6_advances 55 = .ok (.iload_n 1, 1) := by decide +kernel
theorem dX6_advances_56 : decode cX6_advances 56 = .ok (.bipush 97, 2) := by decide +kernel
theorem dX6_advances_58 : decode cX6_advances 58 = .ok (.bipush 122, 2) := by decide +kernel
theorem dX6_advances_60 : decode cX6_advances 60 = .ok (.invokestatic 37, 3) := by decide +kernel
theorem dX6_advances_63 : decode cX6_advances 63 = .ok (.ifCond .eq 50, 3) := by decide +kernel
theorem dX6_advances_66 : decode cX6_advances 66 = .ok (.aload_n 0, 1) := by decide +kernel
theorem dX6_advances_67 : decode cX6_advances 67 = .ok (.aload_n 0, 1) := by decide +kernel
theorem dX6_advances_68 : decode cX6_advances 68 = .ok (.getfield 120, 3) := by decide +kernel
theorem dX6_advances_71 : decode cX6_advances 71 = .ok (.invokevirtual 107, 3) := by decide +kernel
theorem dX6_advances_74 : decode cX6_advances 74 = .ok (.bipush 97, 2) := by decide +kernel
theorem dX6_advances_76 : decode cX6_advances 76 = .ok (.bipush 122, 2) := by decide +kernel
theorem dX6_advances_78 : decode cX6_advances 78 = .ok (.invokestatic 37, 3) := by decide +kernel
theorem dX6_advances_81 : decode cX6_advances 81 = .ok (.ifCond .eq 16, 3) := by decide +kernel
theorem dX6_advances_84 : decode cX6_advances 84 = .ok (.aload_n 0, 1) := by decide +kernel
theorem dX6_advances_85 : decode cX6_advances 85 = .ok (.dup, 1) := by decide +kernel
theorem dX6_advances_86 : decode cX6_advances 86 = .ok (.getfield 120, 3) := by decide +kernel
theorem dX6_advances_89 : decode cX6_advances 89 = .ok (.iconst 1, 1) := by decide +kernel
theorem dX6_advances_90 : decode cX6_advances 90 = .ok (.iadd, 1) := by decide +kernel
theorem dX6_advances_91 : decode cX6_advances 91 = .ok (.putfield 120, 3) := by decide +kernel
theorem dX6_advances_94 : decode cX6_advances 94 = .ok (.goto (-28), 3) := by decide +kernel
theorem dX6_advances_97 : decode cX6_advances 97 = .ok (.aload_n 0, 1) := by decide +kernel
theorem dX6_advances_98 : decode cX6_advances 98 = .ok (.aload_n 0, 1) := by decide +kernel
theorem dX6_advances_99 : decode cX6_advances 99 = .ok (.getfield 120, 3) := by decide +kernel
theorem dX6_advances_102 : decode cX6_advances 102 = .ok (.aload_n 0, 1) := by decide +kernel
theorem dX6_advances_103 : decode cX6_advances 103 = .ok (.getfield 104, 3) := by decide +kernel
theorem dX6_advances_106 : decode cX6_advances 106 = .ok (.isub, 1) := by decide +kernel
theorem dX6_advances_107 : decode cX6_advances 107 = .ok (.invokevirtual 123, 3) := by decide +kernel
theorem dX6_advances_110 : decode cX6_advances 110 = .ok (.goto 157, 3) := by decide +kernel
theorem dX6_advances_113 : decode cX6_advances 113 = .ok (.iload_n 1, 1) := by decide +kernel
theorem dX6_advances_114 : decode cX6_advances 114 = .ok (.bipush 48, 2) := by decide +kernel
theorem dX6_advances_116 : decode cX6_advances 116 = .ok (.bipush 57, 2) := by decide +kernel
theorem dX6_advances_118 : decode cX6_advances 118 = .ok (.invokestatic 37, 3) := by decide +kernel
theorem dX6_advances_121 : decode cX6_advances 121 = .ok (.ifCond .eq 119, 3) := by decide +kernel
theorem dX6_advances_124 : decode cX6_advances 124 = .ok (.aload_n 0, 1) := by decide +kernel
theorem dX6_advances_125 : decode cX6_advances 125 = .ok (.iconst 0, 1) := by decide +kernel
theorem dX6_advances_126 : decode cX6_advances 126 = .ok (.putfield 110, 3) := by decide +kernel
theorem dX6_advances_129 : decode cX6_advances 129 = .ok (.aload_n 0, 1) := by decide +kernel
theorem dX6_advances_130 : decode cX6_advances 130 = .ok (.aload_n 0, 1) := by decide +kernel
theorem dX6_advances_131 : decode cX6_advances 131 = .ok (.getfield 120, 3) := by decide +kernel
theorem dX6_advances_134 : decode cX6_advances 134 = .ok (.invokevirtual 107, 3) := by decide +kernel
theorem dX6_advances_137 : decode cX6_advances 137 = .ok (.bipush 48, 2) := by decide +kernel
theorem dX6_advances_139 : decode cX6_advances 139 = .ok (.bipush 57, 2) := by decide +kernel
theorem dX6_advances_141 : decode cX6_advances 141 = .ok (.invokestatic 37, 3) := by decide +kernel
theorem dX6_advances_144 : decode cX6_advances 144 = .ok (.ifCond .eq 55, 3) := by decide +kernel
theorem dX6_advances_147 : decode cX6_advances 147 = .ok (.aload_n 0, 1) := by decide +kernel
theorem dX6_advances_148 : decode cX6_advances 148 = .ok (.aload_n 0, 1) := by decide +kernel
theorem dX6_advances_149 : decode cX6_advances 149 = .ok (.getfield 110, 3) := by decide +kernel
theorem dX6_advances_152 : decode cX6_advances 152 = .ok (.bipush 99, 2) := by decide +kernel
theorem dX6_advances_154 : decode cX6_advances 154 = .ok (.if_icmp .le 10, 3) := by decide +kernel
theorem dX6_advances_157 : decode cX6_advances 157 = .ok (.aload_n 0, 1) := by decide +kernel
theorem dX6_advances_158 : decode cX6_advances 158 = .ok (.getfield 110, 3) := by decide +kernel
theorem dX6_advances_161 : decode cX6_advances 161 = .ok (.goto 22, 3) := by decide +kernel
theorem dX6_advances_164 : decode cX6_advances 164 = .ok (.bipush 10, 2) := by decide +kernel
theorem dX6_advances_166 : decode cX6_advances 166 = .ok (.aload_n 0, 1) := by decide +kernel
theorem dX6_advances_167 : decode cX6_advances 167 = .ok (.getfield 110, 3) := by decide +kernel
theorem dX6_advances_170 : decode cX6_advances 170 = .ok (.imul, 1) := by decide +kernel
theorem dX6_advances_171 : decode cX6_advances 171 = .ok (.aload_n 0, 1) := by decide +kernel
theorem dX6_advances_172 : decode cX6_advances 172 = .ok (.aload_n 0, 1) := by decide +kernel
theorem dX6_advances_173 : decode cX6_advances 173 = .ok (.getfield 120, 3) := by decide +kernel
theorem dX6_advances_176 : decode cX6_advances 176 = .ok (.invokevirtual 107, 3) := by decide +kernel
theorem dX6_advances_179 : decode cX6_advances 179 = .ok (.iadd, 1) := by decide +kernel
theorem dX6_advances_180 : decode cX6_advances 180 = .ok (.bipush 48, 2) := by decide +kernel
theorem dX6_advances_182 : decode cX6_advances 182 = .ok (.isub, 1) := by decide +kernel
theorem dX6_advances_183 : decode cX6_advances 183 = .ok (.putfield 110, 3) := by decide +kernel
theorem dX6_advances_186 : decode cX6_advances 186 = .ok (.aload_n 0, 1) := by decide +kernel
theorem dX6_advances_187 : decode cX6_advances 187 = .ok (.dup, 1) := by decide +kernel
theorem dX6_advances_188 : decode cX6_advances 188 = .ok (.getfield 120, 3) := by decide +kernel
theorem dX6_advances_191 : decode cX6_advances 191 = .ok (.iconst 1, 1) := by decide +kernel
theorem dX6_advances_192 : decode cX6_advances 192 = .ok (.iadd, 1) := by decide +kernel
theorem dX6_advances_193 : decode cX6_advances 193 = .ok (.putfield 120, 3) := by decide +kernel
theorem dX6_advances_196 : decode cX6_advances 196 = .ok (.goto (-67), 3) := by decide +kernel
theorem dX6_advances_199 : decode cX6_advances 199 = .ok (.aload_n 0, 1) := by decide +kernel
theorem dX6_advances_200 : decode cX6_advances 200 = .ok (.aload_n 0, 1) := by decide +kernel
theorem dX6_advances_201 : decode cX6_advances 201 = .ok (.getfield 110, 3) := by decide +kernel
theorem dX6_advances_204 : decode cX6_advances 204 = .ok (.bipush 99, 2) := by decide +kernel
theorem dX6_advances_206 : decode cX6_advances 206 = .ok (.if_icmp .gt 22, 3) := by decide +kernel
theorem dX6_advances_209 : decode cX6_advances 209 = .ok (.iload_n 1, 1) := by decide +kernel
theorem dX6_advances_210 : decode cX6_advances 210 = .ok (.bipush 48, 2) := by decide +kernel
theorem dX6_advances_212 : decode cX6_advances 212 = .ok (.if_icmp .ne 21, 3) := by decide +kernel
theorem dX6_advances_215 : decode cX6_advances 215 = .ok (.aload_n 0, 1) := by decide +kernel
theorem dX6_advances_216 : decode cX6_advances 216 = .ok (.getfield 120, 3) := by decide +kernel
theorem dX6_advances_219 : decode cX6_advances 219 = .ok (.aload_n 0, 1) := by decide +kernel
theorem dX6_advances_220 : decode cX6_advances 220 = .ok (.getfield 104, 3) := by decide +kernel
theorem dX6_advances_223 : decode cX6_advances 223 = .ok (.isub, 1) := by decide +kernel
theorem dX6_advances_224 : decode cX6_advances 224 = .ok (.iconst 1, 1) := by decide +kernel
theorem dX6_advances_225 : decode cX6_advances 225 = .ok (.if_icmp .le 8, 3) := by decide +kernel
theorem dX6_advances_228 : decode cX6_advances 228 = .ok (.bipush 7, 2) := by decide +kernel
theorem dX6_advances_230 : decode cX6_advances 230 = .ok (.goto 4, 3) := by decide +kernel
theorem dX6_advances_233 : decode cX6_advances 233 = .ok (.iconst 5, 1) := by decide +kernel
theorem dX6_advances_234 : decode cX6_advances 234 = .ok (.putfield 117, 3) := by decide +kernel
theorem dX6_advances_237 : decode cX6_advances 237 = .ok (.goto 30, 3) := by decide +kernel
theorem dX6_advances_240 : decode cX6_advances 240 = .ok (.aload_n 0, 1) := by decide +kernel
theorem dX6_advances_241 : decode cX6_advances 241 = .ok (.dup, 1) := by decide +kernel
theorem dX6_advances_242 : decode cX6_advances 242 = .ok (.getfield 120, 3) := by decide +kernel
theorem dX6_advances_245 : decode cX6_advances 245 = .ok (.iconst 1, 1) := by decide +kernel
theorem dX6_advances_246 : decode cX6_advances 246 = .ok (.iadd, 1) := by decide +kernel
theorem dX6_advances_247 : decode cX6_advances 247 = .ok (.putfield 120, 3) := by decide +kernel
theorem dX6_advances_250 : decode cX6_advances 250 = .ok (.aload_n 0, 1) := by decide +kernel
theorem dX6_advances_251 : decode cX6_advances 251 = .ok (.iload_n 1, 1) := by decide +kernel
theorem dX6_advances_252 : decode cX6_advances 252 = .ok (.bipush 59, 2) := by decide +kernel
theorem dX6_advances_254 : decode cX6_advances 254 = .ok (.if_icmp .ne 8, 3) := by decide +kernel
theorem dX6_advances_257 : decode cX6_advances 257 = .ok (.bipush 6, 2) := by decide +kernel
theorem dX6_advances_259 : decode cX6_advances 259 = .ok (.goto 5, 3) := by decide +kernel
theorem dX6_advances_262 : decode cX6_advances 262 = .ok (.bipush 7, 2) := by decide +kernel
theorem dX6_advances_264 : decode cX6_advances 264 = .ok (.putfield 117, 3) := by decide +kernel
theorem dX6_advances_267 : decode cX6_advances 267 = .ok (.return_, 1) := by decide +kernel
theorem dX6_isWell_0 : decode cX6_isWell 0 = .ok (.aload_n 0, 1) := by decide +kernel
theorem dX6_isWell_1 : decode cX6_isWell 1 = .ok (.getfield 127, 3) := by decide +kernel
theorem dX6_isWell_4 : decode cX6_isWell 4 = .ok (.ifCond .ge 7, 3) := by decide +kernel
theorem dX6_isWell_7 : decode cX6_isWell 7 = .ok (.iconst 1, 1) := by decide +kernel
theorem dX6_isWell_8 : decode cX6_isWell 8 = .ok (.goto 4, 3) := by decide +kernel
theorem dX6_isWell_11 : decode cX6_isWell 11 = .ok (.iconst 0, 1) := by decide +kernel
theorem dX6_isWell_12 : decode cX6_isWell 12 = .ok (.ireturn, 1) := by decide +kernel
set_option maxRecDepth 20000 in
theorem ggX6_takes_X6_isWell : GoodIn wsX6_takes wsX6_isWell := goodIn_r _ [8, 2, 32, 33, 34, 35, 36, 37, 38, 39, 40, 41, 42, 43, 44, 45, 46, 47, 48, 49, 50, 51] (by decide +kernel) (by decide +kernel)
set_option maxRecDepth 20000 in
theorem gX6_takes_X6_isWell : GoodIn wsX6_takes (wsV RX6 130 RX6 yX6_isWell wsX6_isWell) := goodIn_app (goodIn_of _ (by decide +kernel)) ggX6_takes_X6_isWell
set_option maxRecDepth 20000 in
theorem ggX6_takes_X6_advances : GoodIn wsX6_takes wsX6_advances := goodIn_r _ [12, 13, 1, 14, 3, 15, 16, 17, 7, 18, 19, 20, 21, 22, 23, 24, 25, 26, 27, 28, 29, 30, 31, 32, 33, 34, 35, 36, 37, 38, 39, 40, 41, 42, 43, 44, 45, 46, 47, 48, 49, 50, 51] (by decide +kernel) (by decide +kernel)
set_option maxRecDepth 20000 in
theorem gX6_takes_X6_advances : GoodIn wsX6_takes (wsV RX6 134 RX6 yX6_advances wsX6_advances) := goodIn_app (goodIn_of _ (by decide +kernel)) ggX6_takes_X6_advances
theorem dX6_takes_0 : decode cX6_takes 0 = .ok (.aload_n 0, 1) := by decide +kernel
theorem dX6_takes_1 : decode cX6_takes 1 = .ok (.invokevirtual 130, 3) := by decide +kernel
theorem dX6_takes_4 : decode cX6_takes 4 = .ok (.ifCond .ne 5, 3) := by decide +kernel
theorem dX6_takes_7 : decode cX6_takes 7 = .ok (.iconst 0, 1) := by decide +kernel
theorem dX6_takes_8 : decode cX6_takes 8 = .ok (.ireturn, 1) := by decide +kernel
theorem dX6_takes_9 : decode cX6_takes 9 = .ok (.iload_n 1, 1) := by decide +kernel
theorem dX6_takes_10 : decode cX6_takes 10 = .ok (.ifCond .ne 13, 3) := by decide +kernel
theorem dX6_takes_13 : decode cX6_takes 13 = .ok (.aload_n 0, 1) := by decide +kernel
theorem dX6_takes_14 : decode cX6_takes 14 = .ok (.aload_n 0, 1) := by decide +kernel
theorem dX6_takes_15 : decode cX6_takes 15 = .ok (.getfield 104, 3) := by decide +kernel
theorem dX6_takes_18 : decode cX6_takes 18 = .ok (.putfield 127, 3) := by decide +kernel
theorem dX6_takes_21 : decode cX6_takes 21 = .ok (.iconst 0, 1) := by decide +kernel
theorem dX6_takes_22 : decode cX6_takes 22 = .ok (.ireturn, 1) := by decide +kernel
theorem dX6_takes_23 : decode cX6_takes 23 = .ok (.aload_n 0, 1) := by decide +kernel
theorem dX6_takes_24 : decode cX6_takes 24 = .ok (.getfield 110, 3) := by decide +kernel
theorem dX6_takes_27 : decode cX6_takes 27 = .ok (.istore_n 2, 1) := by decide +kernel
theorem dX6_takes_28 : decode cX6_takes 28 = .ok (.aload_n 0, 1) := by decide +kernel
theorem dX6_takes_29 : decode cX6_takes 29 = .ok (.invokevirtual 134, 3) := by decide +kernel
theorem dX6_takes_32 : decode cX6_takes 32 = .ok (.iload_n 2, 1) := by decide +kernel
theorem dX6_takes_33 : decode cX6_takes 33 = .ok (.ireturn, 1) := by decide +kernel
set_option maxRecDepth 20000 in
theorem ggX6_tenth_X6_takes : GoodIn wsX6_tenth wsX6_takes := goodIn_r _ [7, 8, 9, 2, 10, 11, 12, 6, 13, 14, 15, 16, 17, 18, 1, 19, 20, 21, 22, 23, 24, 25, 26, 27, 28, 29, 30, 31, 32, 33, 34, 35, 36, 37, 38, 39, 40, 41, 42, 43, 44, 45, 46, 47, 48, 49, 50, 51, 52, 53, 54, 55] (by decide +kernel) (by decide +kernel)
set_option maxRecDepth 20000 in
theorem gX6_tenth_X6_takes : GoodIn wsX6_tenth (wsV RX6 137 RX6 yX6_takes wsX6_takes) := goodIn_app (goodIn_of _ (by decide +kernel)) ggX6_tenth_X6_takes
theorem dX6_tenth_0 : decode cX6_tenth 0 = .ok (.aload_n 0, 1) := by decide +kernel
theorem dX6_tenth_1 : decode cX6_tenth 1 = .ok (.aload_n 0, 1) := by decide +kernel
theorem dX6_tenth_2 : decode cX6_tenth 2 = .ok (.getfield 117, 3) := by decide +kernel
theorem dX6_tenth_5 : decode cX6_tenth 5 = .ok (.iconst 5, 1) := by decide +kernel
theorem dX6_tenth_6 : decode cX6_tenth 6 = .ok (.if_icmp .ne 16, 3) := by decide +kernel
theorem dX6_tenth_9 : decode cX6_tenth 9 = .ok (.aload_n 0, 1) := by decide +kernel
theorem dX6_tenth_10 : decode cX6_tenth 10 = .ok (.getfield 110, 3) := by decide +kernel
theorem dX6_tenth_13 : decode cX6_tenth 13 = .ok (.bipush 11, 2) := by decide +kernel
theorem dX6_tenth_15 : decode cX6_tenth 15 = .ok (.if_icmp .ge 7, 3) := by decide +kernel
theorem dX6_tenth_18 : decode cX6_tenth 18 = .ok (.iconst 1, 1) := by decide +kernel
theorem dX6_tenth_19 : decode cX6_tenth 19 = .ok (.goto 4, 3) := by decide +kernel
theorem dX6_tenth_22 : decode cX6_tenth 22 = .ok (.iconst 0, 1) := by decide +kernel
theorem dX6_tenth_23 : decode cX6_tenth 23 = .ok (.invokevirtual 137, 3) := by decide +kernel
theorem dX6_tenth_26 : decode cX6_tenth 26 = .ok (.ireturn, 1) := by decide +kernel
set_option maxRecDepth 20000 in
theorem ggX6_laws_X6_advances : GoodIn wsX6_laws wsX6_advances := goodIn_r _ [12, 3, 13, 4, 14, 15, 16, 17, 11, 18, 7, 19, 20, 21, 22, 23, 24, 25, 26, 27, 28, 29, 30, 43, 44, 45, 46, 47, 48, 49, 50, 51, 52, 53, 54, 55, 56, 57, 58, 59, 60, 61, 62] (by decide +kernel) (by decide +kernel)
set_option maxRecDepth 20000 in
theorem gX6_laws_X6_advances : GoodIn wsX6_laws (wsV RX6 134 RX6 yX6_advances wsX6_advances) := goodIn_app (goodIn_of _ (by decide +kernel)) ggX6_laws_X6_advances
set_option maxRecDepth 20000 in
theorem ggX6_laws_X6_isWell : GoodIn wsX6_laws wsX6_isWell := goodIn_r _ [34, 2, 43, 44, 45, 46, 47, 48, 49, 50, 51, 52, 53, 54, 55, 56, 57, 58, 59, 60, 61, 62] (by decide +kernel) (by decide +kernel)
set_option maxRecDepth 20000 in
theorem gX6_laws_X6_isWell : GoodIn wsX6_laws (wsV RX6 130 RX6 yX6_isWell wsX6_isWell) := goodIn_app (goodIn_of _ (by decide +kernel)) ggX6_laws_X6_isWell
set_option maxRecDepth 20000 in
theorem ggX6_laws_X6_takes : GoodIn wsX6_laws wsX6_takes := goodIn_r _ [38, 13, 2, 14, 31, 32, 33, 11, 34, 8, 9, 10, 12, 3, 4, 15, 16, 17, 18, 7, 19, 20, 21, 22, 23, 24, 25, 26, 27, 28, 29, 30, 43, 44, 45, 46, 47, 48, 49, 50, 51, 52, 53, 54, 55, 56, 57, 58, 59, 60, 61, 62] (by decide +kernel) (by decide +kernel)
set_option maxRecDepth 20000 in
theorem gX6_laws_X6_takes : GoodIn wsX6_laws (wsV RX6 137 RX6 yX6_takes wsX6_takes) := goodIn_app (goodIn_of _ (by decide +kernel)) ggX6_laws_X6_takes
set_option maxRecDepth 20000 in
theorem ggX6_laws_X6_tenth : GoodIn wsX6_laws wsX6_tenth := goodIn_r _ [42, 4, 14, 35, 36, 37, 11, 38, 13, 2, 31, 32, 33, 34, 8, 9, 10, 12, 3, 15, 16, 17, 18, 7, 19, 20, 21, 22, 23, 24, 25, 26, 27, 28, 29, 30, 43, 44, 45, 46, 47, 48, 49, 50, 51, 52, 53, 54, 55, 56, 57, 58, 59, 60, 61, 62] (by decide +kernel) (by decide +kernel)
set_option maxRecDepth 20000 in
theorem gX6_laws_X6_tenth : GoodIn wsX6_laws (wsV RX6 141 RX6 yX6_tenth wsX6_tenth) := goodIn_app (goodIn_of _ (by decide +kernel)) ggX6_laws_X6_tenth
theorem dX6_laws_0 : decode cX6_laws 0 = .ok (.aload_n 0, 1) := by decide +kernel
theorem dX6_laws_1 : decode cX6_laws 1 = .ok (.iconst 0, 1) := by decide +kernel
theorem dX6_laws_2 : decode cX6_laws 2 = .ok (.putfield 34, 3) := by decide +kernel
theorem dX6_laws_5 : decode cX6_laws 5 = .ok (.aload_n 0, 1) := by decide +kernel
theorem dX6_laws_6 : decode cX6_laws 6 = .ok (.iconst (-1), 1) := by decide +kernel
theorem dX6_laws_7 : decode cX6_laws 7 = .ok (.putfield 127, 3) := by decide +kernel
theorem dX6_laws_10 : decode cX6_laws 10 = .ok (.aload_n 0, 1) := by decide +kernel
theorem dX6_laws_11 : decode cX6_laws 11 = .ok (.iconst 0, 1) := by decide +kernel
theorem dX6_laws_12 : decode cX6_laws 12 = .ok (.putfield 120, 3) := by decide +kernel
theorem dX6_laws_15 : decode cX6_laws 15 = .ok (.iconst 0, 1) := by decide +kernel
theorem dX6_laws_16 : decode cX6_laws 16 = .ok (.istore_n 1, 1) := by decide +kernel
theorem dX6_laws_17 : decode cX6_laws 17 = .ok (.aload_n 0, 1) := by decide +kernel
theorem dX6_laws_18 : decode cX6_laws 18 = .ok (.invokevirtual 134, 3) := by decide +kernel
theorem dX6_laws_21 : decode cX6_laws 21 = .ok (.aload_n 0, 1) := by decide +kernel
theorem dX6_laws_22 : decode cX6_laws 22 = .ok (.invokevirtual 130, 3) := by decide +kernel
theorem dX6_laws_25 : decode cX6_laws 25 = .ok (.ifCond .eq 192, 3) := by decide +kernel
theorem dX6_laws_28 : decode cX6_laws 28 = .ok (.aload_n 0, 1) := by decide +kernel
theorem dX6_laws_29 : decode cX6_laws 29 = .ok (.getfield 117, 3) := by decide +kernel
theorem dX6_laws_32 : decode cX6_laws 32 = .ok (.ifCond .eq 185, 3) := by decide +kernel
theorem dX6_laws_35 : decode cX6_laws 35 = .ok (.aload_n 0, 1) := by decide +kernel
theorem dX6_laws_36 : decode cX6_laws 36 = .ok (.aload_n 0, 1) := by decide +kernel
theorem dX6_laws_37 : decode cX6_laws 37 = .ok (.getfield 117, 3) := by decide +kernel
theorem dX6_laws_40 : decode cX6_laws 40 = .ok (.iconst 1, 1) := by decide +kernel
theorem dX6_laws_41 : decode cX6_laws 41 = .ok (.if_icmp .ne 13, 3) := by decide +kernel
theorem dX6_laws_44 : decode cX6_laws 44 = .ok (.iload_n 1, 1) := by decide +kernel
theorem dX6_laws_45 : decode cX6_laws 45 = .ok (.bipush 6, 2) := by decide +kernel
theorem dX6_laws_47 : decode cX6_laws 47 = .ok (.if_icmp .ge 7, 3) := by decide +kernel
theorem dX6_laws_50 : decode cX6_laws 50 = .ok (.iconst 1, 1) := by decide +kernel
theorem dX6_laws_51 : decode cX6_laws 51 = .ok (.goto 4, 3) := by decide +kernel
theorem dX6_laws_54 : decode cX6_laws 54 = .ok (.iconst 0, 1) := by decide +kernel
theorem dX6_laws_55 : decode cX6_laws 55 = .ok (.invokevirtual 137, 3) := by decide +kernel
theorem dX6_laws_58 : decode cX6_laws 58 = .ok (.pop, 1) := by decide +kernel
theorem dX6_laws_59 : decode cX6_laws 59 = .ok (.aload_n 0, 1) := by decide +kernel
theorem dX6_laws_60 : decode cX6_laws 60 = .ok (.invokevirtual 141, 3) := by decide +kernel
theorem dX6_laws_63 : decode cX6_laws 63 = .ok (.istore_n 2, 1) := by decide +kernel
theorem dX6_laws_64 : decode cX6_laws 64 = .ok (.aload_n 0, 1) := by decide +kernel
theorem dX6_laws_65 : decode cX6_laws 65 = .ok (.invokevirtual 141, 3) := by decide +kernel
theorem dX6_laws_68 : decode cX6_laws 68 = .ok (.istore_n 3, 1) := by decide +kernel
theorem dX6_laws_69 : decode cX6_laws 69 = .ok (.iconst 0, 1) := by decide +kernel
theorem dX6_laws_70 : decode cX6_laws 70 = .ok (.istore 4, 2) := by decide +kernel
theorem dX6_laws_72 : decode cX6_laws 72 = .ok (.iload_n 2, 1) := by decide +kernel
theorem dX6_laws_73 : decode cX6_laws 73 = .ok (.istore 5, 2) := by decide +kernel
theorem dX6_laws_75 : decode cX6_laws 75 = .ok (.aload_n 0, 1) := by decide +kernel
theorem dX6_laws_76 : decode cX6_laws 76 = .ok (.invokevirtual 130, 3) := by decide +kernel
theorem dX6_laws_79 : decode cX6_laws 79 = .ok (.ifCond .eq 58, 3) := by decide +kernel
theorem dX6_laws_82 : decode cX6_laws 82 = .ok (.aload_n 0, 1) := by decide +kernel
theorem dX6_laws_83 : decode cX6_laws 83 = .ok (.getfield 117, 3) := by decide +kernel
theorem dX6_laws_86 : decode cX6_laws 86 = .ok (.iconst 2, 1) := by decide +kernel
theorem dX6_laws_87 : decode cX6_laws 87 = .ok (.if_icmp .ne 50, 3) := by decide +kernel
theorem dX6_laws_90 : decode cX6_laws 90 = .ok (.aload_n 0, 1) := by decide +kernel
theorem dX6_laws_91 : decode cX6_laws 91 = .ok (.invokevirtual 134, 3) := by decide +kernel
theorem dX6_laws_94 : decode cX6_laws 94 = .ok (.aload_n 0, 1) := by decide +kernel
theorem dX6_laws_95 : decode cX6_laws 95 = .ok (.aload_n 0, 1) := by decide +kernel
theorem dX6_laws_96 : decode cX6_laws 96 = .ok (.getfield 117, 3) := by decide +kernel
theorem dX6_laws_99 : decode cX6_laws 99 = .ok (.iconst 4, 1) := by decide +kernel
theorem dX6_laws_100 : decode cX6_laws 100 = .ok (.if_icmp .ne 7, 3) := by decide +kernel
theorem dX6_laws_103 : decode cX6_laws 103 = .ok (.iconst 1, 1) := by decide +kernel
theorem dX6_laws_104 : decode cX6_laws 104 = .ok (.goto 4, 3) := by decide +kernel
theorem dX6_laws_107 : decode cX6_laws 107 = .ok (.iconst 0, 1) := by decide +kernel
theorem dX6_laws_108 : decode cX6_laws 108 = .ok (.invokevirtual 137, 3) := by decide +kernel
theorem dX6_laws_111 : decode cX6_laws 111 = .ok (.istore 4, 2) := by decide +kernel
theorem dX6_laws_113 : decode cX6_laws 113 = .ok (.aload_n 0, 1) := by decide +kernel
theorem dX6_laws_114 : decode cX6_laws 114 = .ok (.aload_n 0, 1) := by decide +kernel
theorem dX6_laws_115 : decode cX6_laws 115 = .ok (.getfield 117, 3) := by decide +kernel
theorem dX6_laws_118 : decode cX6_laws 118 = .ok (.iconst 3, 1) := by decide +kernel
theorem dX6_laws_119 : decode cX6_laws 119 = .ok (.if_icmp .ne 7, 3) := by decide +kernel
theorem dX6_laws_122 : decode cX6_laws 122 = .ok (.iconst 1, 1) := by decide +kernel
theorem dX6_laws_123 : decode cX6_laws 123 = .ok (.goto 4, 3) := by decide +kernel
theorem dX6_laws_126 : decode cX6_laws 126 = .ok (.iconst 0, 1) := by decide +kernel
theorem dX6_laws_127 : decode cX6_laws 127 = .ok (.invokevirtual 137, 3) := by decide +kernel
theorem dX6_laws_130 : decode cX6_laws 130 = .ok (.pop, 1) := by decide +kernel
theorem dX6_laws_131 : decode cX6_laws 131 = .ok (.aload_n 0, 1) := by decide +kernel
theorem dX6_laws_132 : decode cX6_laws 132 = .ok (.invokevirtual 141, 3) := by decide +kernel
theorem dX6_laws_135 : decode cX6_laws 135 = .ok (.istore 5, 2) := by decide +kernel
theorem dX6_laws_137 : decode cX6_laws 137 = .ok (.aload_n 0, 1) := by decide +kernel
theorem dX6_laws_138 : decode cX6_laws 138 = .ok (.aload_n 0, 1) := by decide +kernel
theorem dX6_laws_139 : decode cX6_laws 139 = .ok (.getfield 117, 3) := by decide +kernel
theorem dX6_laws_142 : decode cX6_laws 142 = .ok (.bipush 6, 2) := by decide +kernel
theorem dX6_laws_144 : decode cX6_laws 144 = .ok (.if_icmp .ne 7, 3) := by decide +kernel

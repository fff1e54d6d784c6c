theorem dX4_init_0 : decode cX4_init 0 = .ok (.aload_n 0, 1) := by decide +kernel
theorem dX4_init_1 : decode cX4_init 1 = .ok (.invokespecial 1, 3) := by decide +kernel
theorem dX4_init_4 : decode cX4_init 4 = .ok (.aload_n 0, 1) := by decide +kernel
theorem dX4_init_5 : decode cX4_init 5 = .ok (.sipush 8192, 3) := by decide +kernel
theorem dX4_init_8 : decode cX4_init 8 = .ok (.newarray .double, 2) := by decide +kernel
theorem dX4_init_10 : decode cX4_init 10 = .ok (.putfield 7, 3) := by decide +kernel
theorem dX4_init_13 : decode cX4_init 13 = .ok (.aload_n 0, 1) := by decide +kernel
theorem dX4_init_14 : decode cX4_init 14 = .ok (.sipush 8192, 3) := by decide +kernel
theorem dX4_init_17 : decode cX4_init 17 = .ok (.newarray .boolean, 2) := by decide +kernel
theorem dX4_init_19 : decode cX4_init 19 = .ok (.putfield 13, 3) := by decide +kernel
theorem dX4_init_22 : decode cX4_init 22 = .ok (.aload_n 0, 1) := by decide +kernel
theorem dX4_init_23 : decode cX4_init 23 = .ok (.bipush 32, 2) := by decide +kernel
theorem dX4_init_25 : decode cX4_init 25 = .ok (.newarray .boolean, 2) := by decide +kernel
theorem dX4_init_27 : decode cX4_init 27 = .ok (.putfield 17, 3) := by decide +kernel
theorem dX4_init_30 : decode cX4_init 30 = .ok (.aload_n 0, 1) := by decide +kernel
theorem dX4_init_31 : decode cX4_init 31 = .ok (.bipush 32, 2) := by decide +kernel
theorem dX4_init_33 : decode cX4_init 33 = .ok (.newarray .boolean, 2) := by decide +kernel
theorem dX4_init_35 : decode cX4_init 35 = .ok (.putfield 20, 3) := by decide +kernel
theorem dX4_init_38 : decode cX4_init 38 = .ok (.aload_n 0, 1) := by decide +kernel
theorem dX4_init_39 : decode cX4_init 39 = .ok (.bipush 32, 2) := by decide +kernel
theorem dX4_init_41 : decode cX4_init 41 = .ok (.newarray .double, 2) := by decide +kernel
theorem dX4_init_43 : decode cX4_init 43 = .ok (.putfield 23, 3) := by decide +kernel
theorem dX4_init_46 : decode cX4_init 46 = .ok (.aload_n 0, 1) := by decide +kernel
theorem dX4_init_47 : decode cX4_init 47 = .ok (.bipush 32, 2) := by decide +kernel
theorem dX4_init_49 : decode cX4_init 49 = .ok (.newarray .double, 2) := by decide +kernel
theorem dX4_init_51 : decode cX4_init 51 = .ok (.putfield 26, 3) := by decide +kernel
theorem dX4_init_54 : decode cX4_init 54 = .ok (.aload_n 0, 1) := by decide +kernel
theorem dX4_init_55 : decode cX4_init 55 = .ok (.bipush 32, 2) := by decide +kernel
theorem dX4_init_57 : decode cX4_init 57 = .ok (.newarray .double, 2) := by decide +kernel
theorem dX4_init_59 : decode cX4_init 59 = .ok (.putfield 29, 3) := by decide +kernel
theorem dX4_init_62 : decode cX4_init 62 = .ok (.aload_n 0, 1) := by decide +kernel
theorem dX4_init_63 : decode cX4_init 63 = .ok (.bipush 21, 2) := by decide +kernel
theorem dX4_init_65 : decode cX4_init 65 = .ok (.newarray .double, 2) := by decide +kernel
theorem dX4_init_67 : decode cX4_init 67 = .ok (.putfield 32, 3) := by decide +kernel
theorem dX4_init_70 : decode cX4_init 70 = .ok (.aload_n 0, 1) := by decide +kernel
theorem dX4_init_71 : decode cX4_init 71 = .ok (.bipush 21, 2) := by decide +kernel
theorem dX4_init_73 : decode cX4_init 73 = .ok (.newarray .double, 2) := by decide +kernel
theorem dX4_init_75 : decode cX4_init 75 = .ok (.putfield 35, 3) := by decide +kernel
theorem dX4_init_78 : decode cX4_init 78 = .ok (.aload_n 0, 1) := by decide +kernel
theorem dX4_init_79 : decode cX4_init 79 = .ok (.bipush 21, 2) := by decide +kernel
theorem dX4_init_81 : decode cX4_init 81 = .ok (.newarray .double, 2) := by decide +kernel
theorem dX4_init_83 : decode cX4_init 83 = .ok (.putfield 38, 3) := by decide +kernel
theorem dX4_init_86 : decode cX4_init 86 = .ok (.aload_n 0, 1) := by decide +kernel
theorem dX4_init_87 : decode cX4_init 87 = .ok (.bipush 21, 2) := by decide +kernel
theorem dX4_init_89 : decode cX4_init 89 = .ok (.newarray .double, 2) := by decide +kernel
theorem dX4_init_91 : decode cX4_init 91 = .ok (.putfield 41, 3) := by decide +kernel
theorem dX4_init_94 : decode cX4_init 94 = .ok (.aload_n 0, 1) := by decide +kernel
theorem dX4_init_95 : decode cX4_init 95 = .ok (.bipush 32, 2) := by decide +kernel
theorem dX4_init_97 : decode cX4_init 97 = .ok (.newarray .int, 2) := by decide +kernel
theorem dX4_init_99 : decode cX4_init 99 = .ok (.putfield 44, 3) := by decide +kernel
theorem dX4_init_102 : decode cX4_init 102 = .ok (.aload_n 0, 1) := by decide +kernel
theorem dX4_init_103 : decode cX4_init 103 = .ok (.sipush 2048, 3) := by decide +kernel
theorem dX4_init_106 : decode cX4_init 106 = .ok (.newarray .long, 2) := by decide +kernel
theorem dX4_init_108 : decode cX4_init 108 = .ok (.putfield 48, 3) := by decide +kernel
theorem dX4_init_111 : decode cX4_init 111 = .ok (.aload_n 0, 1) := by decide +kernel
theorem dX4_init_112 : decode cX4_init 112 = .ok (.bipush 32, 2) := by decide +kernel
theorem dX4_init_114 : decode cX4_init 114 = .ok (.newarray .int, 2) := by decide +kernel
theorem dX4_init_116 : decode cX4_init 116 = .ok (.putfield 52, 3) := by decide +kernel
theorem dX4_init_119 : decode cX4_init 119 = .ok (.aload_n 0, 1) := by decide +kernel
theorem dX4_init_120 : decode cX4_init 120 = .ok (.iload_n 1, 1) := by decide +kernel
theorem dX4_init_121 : decode cX4_init 121 = .ok (.iconst 1, 1) := by decide +kernel
theorem dX4_init_122 : decode cX4_init 122 = .ok (.if_icmp .ge 7, 3) := by decide +kernel
theorem dX4_init_125 : decode cX4_init 125 = .ok (.iconst 1, 1) := by decide +kernel
theorem dX4_init_126 : decode cX4_init 126 = .ok (.goto 15, 3) := by decide +kernel
theorem dX4_init_129 : decode cX4_init 129 = .ok (.iload_n 1, 1) := by decide +kernel
theorem dX4_init_130 : decode cX4_init 130 = .ok (.bipush 64, 2) := by decide +kernel
theorem dX4_init_132 : decode cX4_init 132 = .ok (.if_icmp .le 8, 3) := by decide +kernel
theorem dX4_init_135 : decode cX4_init 135 = .ok (.bipush 64, 2) := by decide +kernel
theorem dX4_init_137 : decode cX4_init 137 = .ok (.goto 4, 3) := by decide +kernel
theorem dX4_init_140 : decode cX4_init 140 = .ok (.iload_n 1, 1) := by decide +kernel
theorem dX4_init_141 : decode cX4_init 141 = .ok (.putfield 55, 3) := by decide +kernel
theorem dX4_init_144 : decode cX4_init 144 = .ok (.aload_n 0, 1) := by decide +kernel
theorem dX4_init_145 : decode cX4_init 145 = .ok (.iload_n 2, 1) := by decide +kernel
theorem dX4_init_146 : decode cX4_init 146 = .ok (.iconst 1, 1) := by decide +kernel
theorem dX4_init_147 : decode cX4_init 147 = .ok (.if_icmp .lt 10, 3) := by decide +kernel
theorem dX4_init_150 : decode cX4_init 150 = .ok (.iload_n 2, 1) := by decide +kernel
theorem dX4_init_151 : decode cX4_init 151 = .ok (.sipush 800, 3) := by decide +kernel
theorem dX4_init_154 : decode cX4_init 154 = .ok (.if_icmp .le 7, 3) := by decide +kernel
theorem dX4_init_157 : decode cX4_init 157 = .ok (.dconst 1, 1) := by decide +kernel
theorem dX4_init_158 : decode cX4_init 158 = .ok (.goto 9, 3) := by decide +kernel
theorem dX4_init_161 : decode cX4_init 161 = .ok (.iload_n 2, 1) := by decide +kernel
theorem dX4_init_162 : decode cX4_init 162 = .ok (.i2d, 1) := by decide +kernel
theorem dX4_init_163 : decode cX4_init 163 = .ok (.ldc2_w 59, 3) := by decide +kernel
theorem dX4_init_166 : decode cX4_init 166 = .ok (.dmul, 1) := by decide +kernel
theorem dX4_init_167 : decode cX4_init 167 = .ok (.putfield 61, 3) := by decide +kernel
theorem dX4_init_170 : decode cX4_init 170 = .ok (.return_, 1) := by decide +kernel
theorem dX4_isPing_0 : decode cX4_isPing 0 = .ok (.iload_n 0, 1) := by decide +kernel
theorem dX4_isPing_1 : decode cX4_isPing 1 = .ok (.ifCond .lt 13, 3) := by decide +kernel
theorem dX4_isPing_4 : decode cX4_isPing 4 = .ok (.iload_n 0, 1) := by decide +kernel
theorem dX4_isPing_5 : decode cX4_isPing 5 = .ok (.bipush 32, 2) := by decide +kernel
theorem dX4_isPing_7 : decode cX4_isPing 7 = .ok (.if_icmp .ge 7, 3) := by decide +kernel
theorem dX4_isPing_10 : decode cX4_isPing 10 = .ok (.iconst 1, 1) := by decide +kernel
theorem dX4_isPing_11 : decode cX4_isPing 11 = .ok (.goto 4, 3) := by decide +kernel
theorem dX4_isPing_14 : decode cX4_isPing 14 = .ok (.iconst 0, 1) := by decide +kernel
theorem dX4_isPing_15 : decode cX4_isPing 15 = .ok (.ireturn, 1) := by decide +kernel
theorem dX4_isSample_0 : decode cX4_isSample 0 = .ok (.iload_n 1, 1) := by decide +kernel
theorem dX4_isSample_1 : decode cX4_isSample 1 = .ok (.ifCond .lt 15, 3) := by decide +kernel
theorem dX4_isSample_4 : decode cX4_isSample 4 = .ok (.iload_n 1, 1) := by decide +kernel
theorem dX4_isSample_5 : decode cX4_isSample 5 = .ok (.aload_n 0, 1) := by decide +kernel
theorem dX4_isSample_6 : decode cX4_isSample 6 = .ok (.getfield 55, 3) := by decide +kernel
theorem dX4_isSample_9 : decode cX4_isSample 9 = .ok (.if_icmp .ge 7, 3) := by decide +kernel
theorem dX4_isSample_12 : decode cX4_isSample 12 = .ok (.iconst 1, 1) := by decide +kernel
theorem dX4_isSample_13 : decode cX4_isSample 13 = .ok (.goto 4, 3) := by decide +kernel
theorem dX4_isSample_16 : decode cX4_isSample 16 = .ok (.iconst 0, 1) := by decide +kernel
theorem dX4_isSample_17 : decode cX4_isSample 17 = .ok (.ireturn, 1) := by decide +kernel
theorem dX4_within_0 : decode cX4_within 0 = .ok (.dload_n 0, 1) := by decide +kernel
theorem dX4_within_1 : decode cX4_within 1 = .ok (.dload_n 2, 1) := by decide +kernel
theorem dX4_within_2 : decode cX4_within 2 = .ok (.dcmp .l, 1) := by decide +kernel
theorem dX4_within_3 : decode cX4_within 3 = .ok (.ifCond .lt 14, 3) := by decide +kernel
theorem dX4_within_6 : decode cX4_within 6 = .ok (.dload_n 0, 1) := by decide +kernel
theorem dX4_within_7 : decode cX4_within 7 = .ok (.dload 4, 2) := by decide +kernel
theorem dX4_within_9 : decode cX4_within 9 = .ok (.dcmp .g, 1) := by decide +kernel
theorem dX4_within_10 : decode cX4_within 10 = .ok (.ifCond .gt 7, 3) := by decide +kernel
theorem dX4_within_13 : decode cX4_within 13 = .ok (.iconst 1, 1) := by decide +kernel
theorem dX4_within_14 : decode cX4_within 14 = .ok (.goto 4, 3) := by decide +kernel
theorem dX4_within_17 : decode cX4_within 17 = .ok (.iconst 0, 1) := by decide +kernel
theorem dX4_within_18 : decode cX4_within 18 = .ok (.ireturn, 1) := by decide +kernel
theorem dX4_range_0 : decode cX4_range 0 = .ok (.iload_n 1, 1) := by decide +kernel
theorem dX4_range_1 : decode cX4_range 1 = .ok (.iconst 1, 1) := by decide +kernel
theorem dX4_range_2 : decode cX4_range 2 = .ok (.iadd, 1) := by decide +kernel
theorem dX4_range_3 : decode cX4_range 3 = .ok (.i2d, 1) := by decide +kernel
theorem dX4_range_4 : decode cX4_range 4 = .ok (.aload_n 0, 1) := by decide +kernel
theorem dX4_range_5 : decode cX4_range 5 = .ok (.getfield 61, 3) := by decide +kernel
theorem dX4_range_8 : decode cX4_range 8 = .ok (.dmul, 1) := by decide +kernel
theorem dX4_range_9 : decode cX4_range 9 = .ok (.dreturn, 1) := by decide +kernel
set_option maxRecDepth 20000 in
theorem ggX4_value_X4_isPing : GoodIn wsX4_value wsX4_isPing := goodIn_r _ [8] (by decide +kernel) (by decide +kernel)
set_option maxRecDepth 20000 in
theorem gX4_value_X4_isPing : GoodIn wsX4_value (va_wsS RX4 65 yX4_isPing wsX4_isPing) := goodIn_app (goodIn_of _ (by decide +kernel)) ggX4_value_X4_isPing
set_option maxRecDepth 20000 in
theorem ggX4_value_X4_isSample : GoodIn wsX4_value wsX4_isSample := goodIn_r _ [12, 13, 17, 18, 19, 20, 21, 22, 23, 24, 25, 26, 27, 28, 29, 30, 31, 32, 33, 34, 35, 36, 37, 38, 39, 40] (by decide +kernel) (by decide +kernel)
set_option maxRecDepth 20000 in
theorem gX4_value_X4_isSample : GoodIn wsX4_value (wsV RX4 69 RX4 yX4_isSample wsX4_isSample) := goodIn_app (goodIn_of _ (by decide +kernel)) ggX4_value_X4_isSample
set_option maxRecDepth 20000 in
theorem ggX4_value_X4_within : GoodIn wsX4_value wsX4_within := goodIn_r _ [16] (by decide +kernel) (by decide +kernel)
set_option maxRecDepth 20000 in
theorem gX4_value_X4_within : GoodIn wsX4_value (va_wsS RX4 74 yX4_within wsX4_within) := goodIn_app (goodIn_of _ (by decide +kernel)) ggX4_value_X4_within
theorem dX4_value_0 : decode cX4_value 0 = .ok (.iload_n 1, 1) := by decide +kernel
theorem dX4_value_1 : decode cX4_value 1 = .ok (.invokestatic 65, 3) := by decide +kernel
theorem dX4_value_4 : decode cX4_value 4 = .ok (.ifCond .eq 22, 3) := by decide +kernel
theorem dX4_value_7 : decode cX4_value 7 = .ok (.aload_n 0, 1) := by decide +kernel
theorem dX4_value_8 : decode cX4_value 8 = .ok (.iload_n 2, 1) := by decide +kernel
theorem dX4_value_9 : decode cX4_value 9 = .ok (.invokevirtual 69, 3) := by decide +kernel
theorem dX4_value_12 : decode cX4_value 12 = .ok (.ifCond .eq 14, 3) := by decide +kernel
theorem dX4_value_15 : decode cX4_value 15 = .ok (.dload_n 3, 1) := by decide +kernel
theorem dX4_value_16 : decode cX4_value 16 = .ok (.dconst 0, 1) := by decide +kernel
theorem dX4_value_17 : decode cX4_value 17 = .ok (.ldc2_w 72, 3) := by decide +kernel
theorem dX4_value_20 : decode cX4_value 20 = .ok (.invokestatic 74, 3) := by decide +kernel
theorem dX4_value_23 : decode cX4_value 23 = .ok (.ifCond .ne 5, 3) := by decide +kernel
theorem dX4_value_26 : decode cX4_value 26 = .ok (.iconst 0, 1) := by decide +kernel
theorem dX4_value_27 : decode cX4_value 27 = .ok (.ireturn, 1) := by decide +kernel
theorem dX4_value_28 : decode cX4_value 28 = .ok (.aload_n 0, 1) := by decide +kernel
theorem dX4_value_29 : decode cX4_value 29 = .ok (.getfield 7, 3) := by decide +kernel
theorem dX4_value_32 : decode cX4_value 32 = .ok (.sipush 2048, 3) := by decide +kernel
theorem dX4_value_35 : decode cX4_value 35 = .ok (.aload_n 0, 1) := by decide +kernel
theorem dX4_value_36 : decode cX4_value 36 = .ok (.getfield 78, 3) := by decide +kernel
theorem dX4_value_39 : decode cX4_value 39 = .ok (.imul, 1) := by decide +kernel
theorem dX4_value_40 : decode cX4_value 40 = .ok (.bipush 64, 2) := by decide +kernel
theorem dX4_value_42 : decode cX4_value 42 = .ok (.iload_n 1, 1) := by decide +kernel
theorem dX4_value_43 : decode cX4_value 43 = .ok (.imul, 1) := by decide +kernel
theorem dX4_value_44 : decode cX4_value 44 = .ok (.iadd, 1) := by decide +kernel
theorem dX4_value_45 : decode cX4_value 45 = .ok (.iload_n 2, 1) := by decide +kernel
theorem dX4_value_46 : decode cX4_value 46 = .ok (.iadd, 1) := by decide +kernel
theorem dX4_value_47 : decode cX4_value 47 = .ok (.dload_n 3, 1) := by decide +kernel
theorem dX4_value_48 : decode cX4_value 48 = .ok (.dastore, 1) := by decide +kernel
theorem dX4_value_49 : decode cX4_value 49 = .ok (.aload_n 0, 1) := by decide +kernel
theorem dX4_value_50 : decode cX4_value 50 = .ok (.getfield 13, 3) := by decide +kernel
theorem dX4_value_53 : decode cX4_value 53 = .ok (.sipush 2048, 3) := by decide +kernel
theorem dX4_value_56 : decode cX4_value 56 = .ok (.aload_n 0, 1) := by decide +kernel
theorem dX4_value_57 : decode cX4_value 57 = .ok (.getfield 78, 3) := by decide +kernel
theorem dX4_value_60 : decode cX4_value 60 = .ok (.imul, 1) := by decide +kernel
theorem dX4_value_61 : decode cX4_value 61 = .ok (.bipush 64, 2) := by decide +kernel
theorem dX4_value_63 : decode cX4_value 63 = .ok (.iload_n 1, 1) := by decide +kernel
theorem dX4_value_64 : decode cX4_value 64 = .ok (.imul, 1) := by decide +kernel
theorem dX4_value_65 : decode cX4_value 65 = .ok (.iadd, 1) := by decide +kernel
theorem dX4_value_66 : decode cX4_value 66 = .ok (.iload_n 2, 1) := by decide +kernel
theorem dX4_value_67 : decode cX4_value 67 = .ok (.iadd, 1) := by decide +kernel
theorem dX4_value_68 : decode cX4_value 68 = .ok (.iconst 1, 1) := by decide +kernel
theorem dX4_value_69 : decode cX4_value 69 = .ok (.bastore, 1) := by decide +kernel
theorem dX4_value_70 : decode cX4_value 70 = .ok (.iconst 1, 1) := by decide +kernel
theorem dX4_value_71 : decode cX4_value 71 = .ok (.ireturn, 1) := by decide +kernel
set_option maxRecDepth 20000 in
theorem ggX4_loss_X4_within : GoodIn wsX4_loss wsX4_within := goodIn_r _ [7] (by decide +kernel) (by decide +kernel)
set_option maxRecDepth 20000 in
theorem gX4_loss_X4_within : GoodIn wsX4_loss (va_wsS RX4 74 yX4_within wsX4_within) := goodIn_app (goodIn_of _ (by decide +kernel)) ggX4_loss_X4_within
theorem dX4_loss_0 : decode cX4_loss 0 = .ok (.dload_n 1, 1) := by decide +kernel
theorem dX4_loss_1 : decode cX4_loss 1 = .ok (.dconst 0, 1) := by decide +kernel
theorem dX4_loss_2 : decode cX4_loss 2 = .ok (.ldc2_w 81, 3) := by decide +kernel
theorem dX4_loss_5 : decode cX4_loss 5 = .ok (.invokestatic 74, 3) := by decide +kernel
theorem dX4_loss_8 : decode cX4_loss 8 = .ok (.ifCond .eq 14, 3) := by decide +kernel
theorem dX4_loss_11 : decode cX4_loss 11 = .ok (.dload_n 3, 1) := by decide +kernel
theorem dX4_loss_12 : decode cX4_loss 12 = .ok (.dconst 0, 1) := by decide +kernel
theorem dX4_loss_13 : decode cX4_loss 13 = .ok (.ldc2_w 81, 3) := by decide +kernel
theorem dX4_loss_16 : decode cX4_loss 16 = .ok (.invokestatic 74, 3) := by decide +kernel
theorem dX4_loss_19 : decode cX4_loss 19 = .ok (.ifCond .ne 5, 3) := by decide +kernel
theorem dX4_loss_22 : decode cX4_loss 22 = .ok (.iconst 0, 1) := by decide +kernel
theorem dX4_loss_23 : decode cX4_loss 23 = .ok (.ireturn, 1) := by decide +kernel
theorem dX4_loss_24 : decode cX4_loss 24 = .ok (.aload_n 0, 1) := by decide +kernel
theorem dX4_loss_25 : decode cX4_loss 25 = .ok (.dload_n 1, 1) := by decide +kernel
theorem dX4_loss_26 : decode cX4_loss 26 = .ok (.putfield 83, 3) := by decide +kernel
theorem dX4_loss_29 : decode cX4_loss 29 = .ok (.aload_n 0, 1) := by decide +kernel
theorem dX4_loss_30 : decode cX4_loss 30 = .ok (.dload_n 3, 1) := by decide +kernel
theorem dX4_loss_31 : decode cX4_loss 31 = .ok (.putfield 86, 3) := by decide +kernel
theorem dX4_loss_34 : decode cX4_loss 34 = .ok (.iconst 1, 1) := by decide +kernel
theorem dX4_loss_35 : decode cX4_loss 35 = .ok (.ireturn, 1) := by decide +kernel
set_option maxRecDepth 20000 in
theorem ggX4_noise_X4_within : GoodIn wsX4_noise wsX4_within := goodIn_r _ [6] (by decide +kernel) (by decide +kernel)
set_option maxRecDepth 20000 in
theorem gX4_noise_X4_within : GoodIn wsX4_noise (va_wsS RX4 74 yX4_within wsX4_within) := goodIn_app (goodIn_of _ (by decide +kernel)) ggX4_noise_X4_within
theorem dX4_noise_0 : decode cX4_noise 0 = .ok (.dload_n 1, 1) := by decide +kernel
theorem dX4_noise_1 : decode cX4_noise 1 = .ok (.dconst 0, 1) := by decide +kernel
theorem dX4_noise_2 : decode cX4_noise 2 = .ok (.ldc2_w 72, 3) := by decide +kernel
theorem dX4_noise_5 : decode cX4_noise 5 = .ok (.invokestatic 74, 3) := by decide +kernel
theorem dX4_noise_8 : decode cX4_noise 8 = .ok (.ifCond .ne 5, 3) := by decide +kernel
theorem dX4_noise_11 : decode cX4_noise 11 = .ok (.iconst 0, 1) := by decide +kernel
theorem dX4_noise_12 : decode cX4_noise 12 = .ok (.ireturn, 1) := by decide +kernel
theorem dX4_noise_13 : decode cX4_noise 13 = .ok (.aload_n 0, 1) := by decide +kernel
theorem dX4_noise_14 : decode cX4_noise 14 = .ok (.dload_n 1, 1) := by decide +kernel
theorem dX4_noise_15 : decode cX4_noise 15 = .ok (.putfield 89, 3) := by decide +kernel
theorem dX4_noise_18 : decode cX4_noise 18 = .ok (.iconst 1, 1) := by decide +kernel
theorem dX4_noise_19 : decode cX4_noise 19 = .ok (.ireturn, 1) := by decide +kernel
set_option maxRecDepth 20000 in
theorem ggX4_edit_X4_isPing : GoodIn wsX4_edit wsX4_isPing := goodIn_r _ [7] (by decide +kernel) (by decide +kernel)
set_option maxRecDepth 20000 in
theorem gX4_edit_X4_isPing : GoodIn wsX4_edit (va_wsS RX4 65 yX4_isPing wsX4_isPing) := goodIn_app (goodIn_of _ (by decide +kernel)) ggX4_edit_X4_isPing
set_option maxRecDepth 20000 in
theorem ggX4_edit_X4_within : GoodIn wsX4_edit wsX4_within := goodIn_r _ [10] (by decide +kernel) (by decide +kernel)
set_option maxRecDepth 20000 in
theorem gX4_edit_X4_within : GoodIn wsX4_edit (va_wsS RX4 74 yX4_within wsX4_within) := goodIn_app (goodIn_of _ (by decide +kernel)) ggX4_edit_X4_within
theorem dX4_edit_0 : decode cX4_edit 0 = .ok (.iload_n 1, 1) := by decide +kernel
theorem dX4_edit_1 : decode cX4_edit 1 = .ok (.invokestatic 65, 3) := by decide +kernel
theorem dX4_edit_4 : decode cX4_edit 4 = .ok (.ifCond .eq 14, 3) := by decide +kernel
theorem dX4_edit_7 : decode cX4_edit 7 = .ok (.dload_n 2, 1) := by decide +kernel
theorem dX4_edit_8 : decode cX4_edit 8 = .ok (.dconst 0, 1) := by decide +kernel
theorem dX4_edit_9 : decode cX4_edit 9 = .ok (.ldc2_w 92, 3) := by decide +kernel
theorem dX4_edit_12 : decode cX4_edit 12 = .ok (.invokestatic 74, 3) := by decide +kernel
theorem dX4_edit_15 : decode cX4_edit 15 = .ok (.ifCond .ne 5, 3) := by decide +kernel
theorem dX4_edit_18 : decode cX4_edit 18 = .ok (.iconst 0, 1) := by decide +kernel
theorem dX4_edit_19 : decode cX4_edit 19 = .ok (.ireturn, 1) := by decide +kernel
theorem dX4_edit_20 : decode cX4_edit 20 = .ok (.aload_n 0, 1) := by decide +kernel
theorem dX4_edit_21 : decode cX4_edit 21 = .ok (.getfield 20, 3) := by decide +kernel
theorem dX4_edit_24 : decode cX4_edit 24 = .ok (.iload_n 1, 1) := by decide +kernel
theorem dX4_edit_25 : decode cX4_edit 25 = .ok (.iconst 1, 1) := by decide +kernel
theorem dX4_edit_26 : decode cX4_edit 26 = .ok (.bastore, 1) := by decide +kernel
theorem dX4_edit_27 : decode cX4_edit 27 = .ok (.aload_n 0, 1) := by decide +kernel
theorem dX4_edit_28 : decode cX4_edit 28 = .ok (.getfield 23, 3) := by decide +kernel
theorem dX4_edit_31 : decode cX4_edit 31 = .ok (.iload_n 1, 1) := by decide +kernel
theorem dX4_edit_32 : decode cX4_edit 32 = .ok (.dload_n 2, 1) := by decide +kernel
theorem dX4_edit_33 : decode cX4_edit 33 = .ok (.dastore, 1) := by decide +kernel
theorem dX4_edit_34 : decode cX4_edit 34 = .ok (.iconst 1, 1) := by decide +kernel
theorem dX4_edit_35 : decode cX4_edit 35 = .ok (.ireturn, 1) := by decide +kernel
set_option maxRecDepth 20000 in
theorem ggX4_lost_X4_isPing : GoodIn wsX4_lost wsX4_isPing := goodIn_r _ [5] (by decide +kernel) (by decide +kernel)
set_option maxRecDepth 20000 in
theorem gX4_lost_X4_isPing : GoodIn wsX4_lost (va_wsS RX4 65 yX4_isPing wsX4_isPing) := goodIn_app (goodIn_of _ (by decide +kernel)) ggX4_lost_X4_isPing
theorem dX4_lost_0 : decode cX4_lost 0 = .ok (.iload_n 1, 1) := by decide +kernel
theorem dX4_lost_1 : decode cX4_lost 1 = .ok (.invokestatic 65, 3) := by decide +kernel
theorem dX4_lost_4 : decode cX4_lost 4 = .ok (.ifCond .ne 5, 3) := by decide +kernel
theorem dX4_lost_7 : decode cX4_lost 7 = .ok (.iconst 0, 1) := by decide +kernel
theorem dX4_lost_8 : decode cX4_lost 8 = .ok (.ireturn, 1) := by decide +kernel
theorem dX4_lost_9 : decode cX4_lost 9 = .ok (.aload_n 0, 1) := by decide +kernel
theorem dX4_lost_10 : decode cX4_lost 10 = .ok (.getfield 17, 3) := by decide +kernel
theorem dX4_lost_13 : decode cX4_lost 13 = .ok (.iload_n 1, 1) := by decide +kernel
theorem dX4_lost_14 : decode cX4_lost 14 = .ok (.iconst 1, 1) := by decide +kernel
theorem dX4_lost_15 : decode cX4_lost 15 = .ok (.bastore, 1) := by decide +kernel
theorem dX4_lost_16 : decode cX4_lost 16 = .ok (.iconst 1, 1) := by decide +kernel
theorem dX4_lost_17 : decode cX4_lost 17 = .ok (.ireturn, 1) := by decide +kernel
theorem dX4_frequency_0 : decode cX4_frequency 0 = .ok (.iload_n 1, 1) := by decide +kernel
theorem dX4_frequency_1 : decode cX4_frequency 1 = .ok (.ifCond .lt 8, 3) := by decide +kernel
theorem dX4_frequency_4 : decode cX4_frequency 4 = .ok (.iload_n 1, 1) := by decide +kernel
theorem dX4_frequency_5 : decode cX4_frequency 5 = .ok (.iconst 3, 1) := by decide +kernel
theorem dX4_frequency_6 : decode cX4_frequency 6 = .ok (.if_icmp .le 5, 3) := by decide +kernel
theorem dX4_frequency_9 : decode cX4_frequency 9 = .ok (.iconst 0, 1) := by decide +kernel
theorem dX4_frequency_10 : decode cX4_frequency 10 = .ok (.ireturn, 1) := by decide +kernel
theorem dX4_frequency_11 : decode cX4_frequency 11 = .ok (.aload_n 0, 1) := by decide +kernel
theorem dX4_frequency_12 : decode cX4_frequency 12 = .ok (.iload_n 1, 1) := by decide +kernel
theorem dX4_frequency_13 : decode cX4_frequency 13 = .ok (.putfield 78, 3) := by decide +kernel
theorem dX4_frequency_16 : decode cX4_frequency 16 = .ok (.iconst 1, 1) := by decide +kernel
theorem dX4_frequency_17 : decode cX4_frequency 17 = .ok (.ireturn, 1) := by decide +kernel
set_option maxRecDepth 20000 in
theorem ggX4_tide_X4_isPing : GoodIn wsX4_tide wsX4_isPing := goodIn_r _ [7] (by decide +kernel) (by decide +kernel)
set_option maxRecDepth 20000 in
theorem gX4_tide_X4_isPing : GoodIn wsX4_tide (va_wsS RX4 65 yX4_isPing wsX4_isPing) := goodIn_app (goodIn_of _ (by decide +kernel)) ggX4_tide_X4_isPing
set_option maxRecDepth 20000 in
theorem ggX4_tide_X4_within : GoodIn wsX4_tide wsX4_within := goodIn_r _ [10] (by decide +kernel) (by decide +kernel)
set_option maxRecDepth 20000 in
theorem gX4_tide_X4_within : GoodIn wsX4_tide (va_wsS RX4 74 yX4_within wsX4_within) := goodIn_app (goodIn_of _ (by decide +kernel)) ggX4_tide_X4_within
theorem dX4_tide_0 : decode cX4_tide 0 = .ok (.iload_n 1, 1) := by decide +kernel
theorem dX4_tide_1 : decode cX4_tide 1 = .ok (.invokestatic 65, 3) := by decide +kernel
theorem dX4_tide_4 : decode cX4_tide 4 = .ok (.ifCond .eq 16, 3) := by decide +kernel
theorem dX4_tide_7 : decode cX4_tide 7 = .ok (.dload_n 2, 1) := by decide +kernel
theorem dX4_tide_8 : decode cX4_tide 8 = .ok (.ldc2_w 94, 3) := by decide +kernel
theorem dX4_tide_11 : decode cX4_tide 11 = .ok (.ldc2_w 96, 3) := by decide +kernel
theorem dX4_tide_14 : decode cX4_tide 14 = .ok (.invokestatic 74, 3) := by decide +kernel
theorem dX4_tide_17 : decode cX4_tide 17 = .ok (.ifCond .ne 5, 3) := by decide +kernel
theorem dX4_tide_20 : decode cX4_tide 20 = .ok (.iconst 0, 1) := by decide +kernel
theorem dX4_tide_21 : decode cX4_tide 21 = .ok (.ireturn, 1) := by decide +kernel
theorem dX4_tide_22 : decode cX4_tide 22 = .ok (.aload_n 0, 1) := by decide +kernel
theorem dX4_tide_23 : decode cX4_tide 23 = .ok (.getfield 26, 3) := by decide +kernel
theorem dX4_tide_26 : decode cX4_tide 26 = .ok (.iload_n 1, 1) := by decide +kernel
theorem dX4_tide_27 : decode cX4_tide 27 = .ok (.dload_n 2, 1) := by decide +kernel
theorem dX4_tide_28 : decode cX4_tide 28 = .ok (.dastore, 1) := by decide +kernel
theorem dX4_tide_29 : decode cX4_tide 29 = .ok (.iconst 1, 1) := by decide +kernel
theorem dX4_tide_30 : decode cX4_tide 30 = .ok (.ireturn, 1) := by decide +kernel
set_option maxRecDepth 20000 in
theorem ggX4_turned_X4_isPing : GoodIn wsX4_turned wsX4_isPing := goodIn_r _ [7] (by decide +kernel) (by decide +kernel)
set_option maxRecDepth 20000 in
theorem gX4_turned_X4_isPing : GoodIn wsX4_turned (va_wsS RX4 65 yX4_isPing wsX4_isPing) := goodIn_app (goodIn_of _ (by decide +kernel)) ggX4_turned_X4_isPing
set_option maxRecDepth 20000 in
theorem ggX4_turned_X4_within : GoodIn wsX4_turned wsX4_within := goodIn_r _ [10] (by decide +kernel) (by decide +kernel)
set_option maxRecDepth 20000 in
theorem gX4_turned_X4_within : GoodIn wsX4_turned (va_wsS RX4 74 yX4_within wsX4_within) := goodIn_app (goodIn_of _ (by decide +kernel)) ggX4_turned_X4_within
theorem dX4_turned_0 : decode cX4_turned 0 = .ok (.iload_n 1, 1) := by decide +kernel
theorem dX4_turned_1 : decode cX4_turned 1 = .ok (.invokestatic 65, 3) := by decide +kernel
theorem dX4_turned_4 : decode cX4_turned 4 = .ok (.ifCond .eq 16, 3) := by decide +kernel
theorem dX4_turned_7 : decode cX4_turned 7 = .ok (.dload_n 2, 1) := by decide +kernel
theorem dX4_turned_8 : decode cX4_turned 8 = .ok (.ldc2_w 98, 3) := by decide +kernel
theorem dX4_turned_11 : decode cX4_turned 11 = .ok (.ldc2_w 100, 3) := by decide +kernel
theorem dX4_turned_14 : decode cX4_turned 14 = .ok (.invokestatic 74, 3) := by decide +kernel
theorem dX4_turned_17 : decode cX4_turned 17 = .ok (.ifCond .ne 5, 3) := by decide +kernel
theorem dX4_turned_20 : decode cX4_turned 20 = .ok (.iconst 0, 1) := by decide +kernel
theorem dX4_turned_21 : decode cX4_turned 21 = .ok (.ireturn, 1) := by decide +kernel
theorem dX4_turned_22 : decode cX4_turned 22 = .ok (.aload_n 0, 1) := by decide +kernel
theorem dX4_turned_23 : decode cX4_turned 23 = .ok (.getfield 29, 3) := by decide +kernel
theorem dX4_turned_26 : decode cX4_turned 26 = .ok (.iload_n 1, 1) := by decide +kernel
theorem dX4_turned_27 : decode cX4_turned 27 = .ok (.dload_n 2, 1) := by decide +kernel
theorem dX4_turned_28 : decode cX4_turned 28 = .ok (.dastore, 1) := by decide +kernel
theorem dX4_turned_29 : decode cX4_turned 29 = .ok (.iconst 1, 1) := by decide +kernel
theorem dX4_turned_30 : decode cX4_turned 30 = .ok (.ireturn, 1) := by decide +kernel
set_option maxRecDepth 20000 in
theorem ggX4_strength_X4_range : GoodIn wsX4_strength wsX4_range := goodIn_r _ [12, 13, 14, 15, 16, 17, 18, 19, 20, 21, 22, 23, 24, 25, 26, 27, 28, 29, 30, 31, 32, 33, 34, 35, 36, 37] (by decide +kernel) (by decide +kernel)
set_option maxRecDepth 20000 in
theorem gX4_strength_X4_range : GoodIn wsX4_strength (wsV RX4 102 RX4 yX4_range wsX4_range) := goodIn_app (goodIn_of _ (by decide +kernel)) ggX4_strength_X4_range
theorem dX4_strength_0 : decode cX4_strength 0 = .ok (.sipush 2048, 3) := by decide +kernel
theorem dX4_strength_3 : decode cX4_strength 3 = .ok (.iload_n 1, 1) := by decide +kernel
theorem dX4_strength_4 : decode cX4_strength 4 = .ok (.imul, 1) := by decide +kernel
theorem dX4_strength_5 : decode cX4_strength 5 = .ok (.bipush 64, 2) := by decide +kernel
theorem dX4_strength_7 : decode cX4_strength 7 = .ok (.iload_n 2, 1) := by decide +kernel
theorem dX4_strength_8 : decode cX4_strength 8 = .ok (.imul, 1) := by decide +kernel
theorem dX4_strength_9 : decode cX4_strength 9 = .ok (.iadd, 1) := by decide +kernel
theorem dX4_strength_10 : decode cX4_strength 10 = .ok (.iload_n 3, 1) := by decide +kernel
theorem dX4_strength_11 : decode cX4_strength 11 = .ok (.iadd, 1) := by decide +kernel
theorem dX4_strength_12 : decode cX4_strength 12 = .ok (.istore 4, 2) := by decide +kernel
theorem dX4_strength_14 : decode cX4_strength 14 = .ok (.aload_n 0, 1) := by decide +kernel
theorem dX4_strength_15 : decode cX4_strength 15 = .ok (.getfield 13, 3) := by decide +kernel
theorem dX4_strength_18 : decode cX4_strength 18 = .ok (.iload 4, 2) := by decide +kernel
theorem dX4_strength_20 : decode cX4_strength 20 = .ok (.baload, 1) := by decide +kernel
theorem dX4_strength_21 : decode cX4_strength 21 = .ok (.ifCond .eq 12, 3) := by decide +kernel
theorem dX4_strength_24 : decode cX4_strength 24 = .ok (.aload_n 0, 1) := by decide +kernel
theorem dX4_strength_25 : decode cX4_strength 25 = .ok (.getfield 17, 3) := by decide +kernel
theorem dX4_strength_28 : decode cX4_strength 28 = .ok (.iload_n 2, 1) := by decide +kernel
theorem dX4_strength_29 : decode cX4_strength 29 = .ok (.baload, 1) := by decide +kernel
theorem dX4_strength_30 : decode cX4_strength 30 = .ok (.ifCond .eq 5, 3) := by decide +kernel
theorem dX4_strength_33 : decode cX4_strength 33 = .ok (.lconst 0, 1) := by decide +kernel
theorem dX4_strength_34 : decode cX4_strength 34 = .ok (.lreturn, 1) := by decide +kernel
theorem dX4_strength_35 : decode cX4_strength 35 = .ok (.aload_n 0, 1) := by decide +kernel
theorem dX4_strength_36 : decode cX4_strength 36 = .ok (.iload_n 3, 1) := by decide +kernel
theorem dX4_strength_37 : decode cX4_strength 37 = .ok (.invokevirtual 102, 3) := by decide +kernel
theorem dX4_strength_40 : decode cX4_strength 40 = .ok (.dstore 5, 2) := by decide +kernel
theorem dX4_strength_42 : decode cX4_strength 42 = .ok (.aload_n 0, 1) := by decide +kernel
theorem dX4_strength_43 : decode cX4_strength 43 = .ok (.getfield 7, 3) := by decide +kernel
theorem dX4_strength_46 : decode cX4_strength 46 = .ok (.iload 4, 2) := by decide +kernel
theorem dX4_strength_48 : decode cX4_strength 48 = .ok (.daload, 1) := by decide +kernel
theorem dX4_strength_49 : decode cX4_strength 49 = .ok (.aload_n 0, 1) := by decide +kernel
theorem dX4_strength_50 : decode cX4_strength 50 = .ok (.getfield 83, 3) := by decide +kernel
theorem dX4_strength_53 : decode cX4_strength 53 = .ok (.dload 5, 2) := by decide +kernel
theorem dX4_strength_55 : decode cX4_strength 55 = .ok (.dmul, 1) := by decide +kernel
theorem dX4_strength_56 : decode cX4_strength 56 = .ok (.dadd, 1) := by decide +kernel
theorem dX4_strength_57 : decode cX4_strength 57 = .ok (.aload_n 0, 1) := by decide +kernel
theorem dX4_strength_58 : decode cX4_strength 58 = .ok (.getfield 86, 3) := by decide +kernel
theorem dX4_strength_61 : decode cX4_strength 61 = .ok (.dload 5, 2) := by decide +kernel
theorem dX4_strength_63 : decode cX4_strength 63 = .ok (.dmul, 1) := by decide +kernel
theorem dX4_strength_64 : decode cX4_strength 64 = .ok (.dload 5, 2) := by decide +kernel
theorem dX4_strength_66 : decode cX4_strength 66 = .ok (.dmul, 1) := by decide +kernel
theorem dX4_strength_67 : decode cX4_strength 67 = .ok (.ldc2_w 106, 3) := by decide +kernel
theorem dX4_strength_70 : decode cX4_strength 70 = .ok (.dmul, 1) := by decide +kernel
theorem dX4_strength_71 : decode cX4_strength 71 = .ok (.dadd, 1) := by decide +kernel
theorem dX4_strength_72 : decode cX4_strength 72 = .ok (.aload_n 0, 1) := by decide +kernel
theorem dX4_strength_73 : decode cX4_strength 73 = .ok (.getfield 89, 3) := by decide +kernel
theorem dX4_strength_76 : decode cX4_strength 76 = .ok (.dsub, 1) := by decide +kernel
theorem dX4_strength_77 : decode cX4_strength 77 = .ok (.d2l, 1) := by decide +kernel
theorem dX4_strength_78 : decode cX4_strength 78 = .ok (.lstore 7, 2) := by decide +kernel
theorem dX4_strength_80 : decode cX4_strength 80 = .ok (.lload 7, 2) := by decide +kernel
theorem dX4_strength_82 : decode cX4_strength 82 = .ok (.lconst 0, 1) := by decide +kernel
theorem dX4_strength_83 : decode cX4_strength 83 = .ok (.lcmp, 1) := by decide +kernel
theorem dX4_strength_84 : decode cX4_strength 84 = .ok (.ifCond .ge 7, 3) := by decide +kernel
theorem dX4_strength_87 : decode cX4_strength 87 = .ok (.lconst 0, 1) := by decide +kernel
theorem dX4_strength_88 : decode cX4_strength 88 = .ok (.goto 5, 3) := by decide +kernel
theorem dX4_strength_91 : decode cX4_strength 91 = .ok (.lload 7, 2) := by decide +kernel
theorem dX4_strength_93 : decode cX4_strength 93 = .ok (.lreturn, 1) := by decide +kernel
theorem dX4_isEmpty_0 : decode cX4_isEmpty 0 = .ok (.iconst 0, 1) := by decide +kernel
theorem dX4_isEmpty_1 : decode cX4_isEmpty 1 = .ok (.istore_n 3, 1) := by decide +kernel
theorem dX4_isEmpty_2 : decode cX4_isEmpty 2 = .ok (.iload_n 3, 1) := by decide +kernel
theorem dX4_isEmpty_3 : decode cX4_isEmpty 3 = .ok (.aload_n 0, 1) := by decide +kernel
theorem dX4_isEmpty_4 : decode cX4_isEmpty 4 = .ok (.getfield 55, 3) := by decide +kernel
theorem dX4_isEmpty_7 : decode cX4_isEmpty 7 = .ok (.if_icmp .ge 31, 3) := by decide +kernel
theorem dX4_isEmpty_10 : decode cX4_isEmpty 10 = .ok (.aload_n 0, 1) := by decide +kernel
theorem dX4_isEmpty_11 : decode cX4_isEmpty 11 = .ok (.getfield 13, 3) := by decide +kernel
theorem dX4_isEmpty_14 : decode cX4_isEmpty 14 = .ok (.sipush 2048, 3) := by decide +kernel
theorem dX4_isEmpty_17 : decode cX4_isEmpty 17 = .ok (.iload_n 1, 1) := by decide +kernel
theorem dX4_isEmpty_18 : decode cX4_isEmpty 18 = .ok (.imul, 1) := by decide +kernel
theorem dX4_isEmpty_19 : decode cX4_isEmpty 19 = .ok (.bipush 64, 2) := by decide +kernel
theorem dX4_isEmpty_21 : decode cX4_isEmpty 21 = .ok (.iload_n 2, 1) := by decide +kernel
theorem dX4_isEmpty_22 : decode cX4_isEmpty 22 = .ok (.imul, 1) := by decide +kernel
theorem dX4_isEmpty_23 : decode cX4_isEmpty 23 = .ok (.iadd, 1) := by decide +kernel
theorem dX4_isEmpty_24 : decode cX4_isEmpty 24 = .ok (.iload_n 3, 1) := by decide +kernel
theorem dX4_isEmpty_25 : decode cX4_isEmpty 25 = .ok (.iadd, 1) := by decide +kernel
theorem dX4_isEmpty_26 : decode cX4_isEmpty 26 = .ok (.baload, 1) := by decide +kernel
theorem dX4_isEmpty_27 : decode cX4_isEmpty 27 = .ok (.ifCond .eq 5, 3) := by decide +kernel
theorem dX4_isEmpty_30 : decode cX4_isEmpty 30 = .ok (.iconst 0, 1) := by decide +kernel
theorem dX4_isEmpty_31 : decode cX4_isEmpty 31 = .ok (.ireturn, 1) := by decide +kernel
theorem dX4_isEmpty_32 : decode cX4_isEmpty 32 = .ok (.iinc 3 1, 3) := by decide +kernel
theorem dX4_isEmpty_35 : decode cX4_isEmpty 35 = .ok (.goto (-33), 3) := by decide +kernel
theorem dX4_isEmpty_38 : decode cX4_isEmpty 38 = .ok (.iconst 1, 1) := by decide +kernel
theorem dX4_isEmpty_39 : decode cX4_isEmpty 39 = .ok (.ireturn, 1) := by decide +kernel
set_option maxRecDepth 20000 in
theorem ggX4_empty_X4_isPing : GoodIn wsX4_empty wsX4_isPing := goodIn_r _ [5] (by decide +kernel) (by decide +kernel)
set_option maxRecDepth 20000 in
theorem gX4_empty_X4_isPing : GoodIn wsX4_empty (va_wsS RX4 65 yX4_isPing wsX4_isPing) := goodIn_app (goodIn_of _ (by decide +kernel)) ggX4_empty_X4_isPing
set_option maxRecDepth 20000 in
theorem ggX4_empty_X4_isEmpty : GoodIn wsX4_empty wsX4_isEmpty := goodIn_r _ [9, 10, 11, 12, 13, 14, 15, 16, 17, 18, 19, 20, 21, 22, 23, 24, 25, 26, 27, 28, 29, 30, 31, 32, 33, 34, 35] (by decide +kernel) (by decide +kernel)
set_option maxRecDepth 20000 in
theorem gX4_empty_X4_isEmpty : GoodIn wsX4_empty (wsV RX4 108 RX4 yX4_isEmpty wsX4_isEmpty) := goodIn_app (goodIn_of _ (by decide +kernel)) ggX4_empty_X4_isEmpty
theorem dX4_empty_0 : decode cX4_empty 0 = .ok (.iload_n 1, 1) := by decide +kernel
theorem dX4_empty_1 : decode cX4_empty 1 = .ok (.invokestatic 65, 3) := by decide +kernel
theorem dX4_empty_4 : decode cX4_empty 4 = .ok (.ifCond .eq 15, 3) := by decide +kernel
theorem dX4_empty_7 : decode cX4_empty 7 = .ok (.aload_n 0, 1) := by decide +kernel
theorem dX4_empty_8 : decode cX4_empty 8 = .ok (.aload_n 0, 1) := by decide +kernel
theorem dX4_empty_9 : decode cX4_empty 9 = .ok (.getfield 78, 3) := by decide +kernel
theorem dX4_empty_12 : decode cX4_empty 12 = .ok (.iload_n 1, 1) := by decide +kernel
theorem dX4_empty_13 : decode cX4_empty 13 = .ok (.invokevirtual 108, 3) := by decide +kernel
theorem dX4_empty_16 : decode cX4_empty 16 = .ok (.ifCond .eq 7, 3) := by decide +kernel
theorem dX4_empty_19 : decode cX4_empty 19 = .ok (.iconst 1, 1) := by decide +kernel
theorem dX4_empty_20 : decode cX4_empty 20 = .ok (.goto 4, 3) := by decide +kernel
theorem dX4_empty_23 : decode cX4_empty 23 = .ok (.iconst 0, 1) := by decide +kernel
theorem dX4_empty_24 : decode cX4_empty 24 = .ok (.ireturn, 1) := by decide +kernel
set_option maxRecDepth 20000 in
theorem ggX4_counting_X4_range : GoodIn wsX4_counting wsX4_range := goodIn_r _ [7, 8, 9, 10, 11, 12, 13, 14, 15, 16, 17, 18, 19, 20, 21, 22, 23, 24, 25, 26, 27, 28, 29, 30, 31, 32] (by decide +kernel) (by decide +kernel)
set_option maxRecDepth 20000 in
theorem gX4_counting_X4_range : GoodIn wsX4_counting (wsV RX4 102 RX4 yX4_range wsX4_range) := goodIn_app (goodIn_of _ (by decide +kernel)) ggX4_counting_X4_range
theorem dX4_counting_0 : decode cX4_counting 0 = .ok (.iconst 0, 1) := by decide +kernel
theorem dX4_counting_1 : decode cX4_counting 1 = .ok (.istore_n 2, 1) := by decide +kernel
theorem dX4_counting_2 : decode cX4_counting 2 = .ok (.iload_n 2, 1) := by decide +kernel
theorem dX4_counting_3 : decode cX4_counting 3 = .ok (.aload_n 0, 1) := by decide +kernel
theorem dX4_counting_4 : decode cX4_counting 4 = .ok (.getfield 55, 3) := by decide +kernel
theorem dX4_counting_7 : decode cX4_counting 7 = .ok (.iconst 1, 1) := by decide +kernel
theorem dX4_counting_8 : decode cX4_counting 8 = .ok (.isub, 1) := by decide +kernel
theorem dX4_counting_9 : decode cX4_counting 9 = .ok (.if_icmp .ge 24, 3) := by decide +kernel
theorem dX4_counting_12 : decode cX4_counting 12 = .ok (.aload_n 0, 1) := by decide +kernel
theorem dX4_counting_13 : decode cX4_counting 13 = .ok (.iload_n 2, 1) := by decide +kernel
theorem dX4_counting_14 : decode cX4_counting 14 = .ok (.invokevirtual 102, 3) := by decide +kernel
theorem dX4_counting_17 : decode cX4_counting 17 = .ok (.aload_n 0, 1) := by decide +kernel
theorem dX4_counting_18 : decode cX4_counting 18 = .ok (.getfield 23, 3) := by decide +kernel
theorem dX4_counting_21 : decode cX4_counting 21 = .ok (.iload_n 1, 1) := by decide +kernel
theorem dX4_counting_22 : decode cX4_counting 22 = .ok (.daload, 1) := by decide +kernel
theorem dX4_counting_23 : decode cX4_counting 23 = .ok (.dcmp .g, 1) := by decide +kernel
theorem dX4_counting_24 : decode cX4_counting 24 = .ok (.ifCond .ge 9, 3) := by decide +kernel
theorem dX4_counting_27 : decode cX4_counting 27 = .ok (.iinc 2 1, 3) := by decide +kernel
theorem dX4_counting_30 : decode cX4_counting 30 = .ok (.goto (-28), 3) := by decide +kernel
theorem dX4_counting_33 : decode cX4_counting 33 = .ok (.iload_n 2, 1) := by decide +kernel
theorem dX4_counting_34 : decode cX4_counting 34 = .ok (.ireturn, 1) := by decide +kernel
set_option maxRecDepth 20000 in
theorem ggX4_mayStand_X4_counting : GoodIn wsX4_mayStand wsX4_counting := goodIn_r _ [6, 7, 8, 9, 10, 11, 5, 12, 13, 14, 15, 16, 17, 18, 19, 20, 21, 22, 23, 24, 25, 26, 27, 28, 29, 30, 31, 32, 33, 34, 35, 36, 37] (by decide +kernel) (by decide +kernel)
set_option maxRecDepth 20000 in
theorem gX4_mayStand_X4_counting : GoodIn wsX4_mayStand (wsV RX4 112 RX4 yX4_counting wsX4_counting) := goodIn_app (goodIn_of _ (by decide +kernel)) ggX4_mayStand_X4_counting
theorem dX4_mayStand_0 : decode cX4_mayStand 0 = .ok (.aload_n 0, 1) := by decide +kernel
theorem dX4_mayStand_1 : decode cX4_mayStand 1 = .ok (.getfield 20, 3) := by decide +kernel
theorem dX4_mayStand_4 : decode cX4_mayStand 4 = .ok (.iload_n 1, 1) := by decide +kernel
theorem dX4_mayStand_5 : decode cX4_mayStand 5 = .ok (.baload, 1) := by decide +kernel
theorem dX4_mayStand_6 : decode cX4_mayStand 6 = .ok (.ifCond .eq 12, 3) := by decide +kernel
theorem dX4_mayStand_9 : decode cX4_mayStand 9 = .ok (.aload_n 0, 1) := by decide +kernel
theorem dX4_mayStand_10 : decode cX4_mayStand 10 = .ok (.iload_n 1, 1) := by decide +kernel
theorem dX4_mayStand_11 : decode cX4_mayStand 11 = .ok (.invokevirtual 112, 3) := by decide +kernel
theorem dX4_mayStand_14 : decode cX4_mayStand 14 = .ok (.iload_n 2, 1) := by decide +kernel
theorem dX4_mayStand_15 : decode cX4_mayStand 15 = .ok (.if_icmp .ne 7, 3) := by decide +kernel
theorem dX4_mayStand_18 : decode cX4_mayStand 18 = .ok (.iconst 1, 1) := by decide +kernel
theorem dX4_mayStand_19 : decode cX4_mayStand 19 = .ok (.goto 4, 3) := by decide +kernel
theorem dX4_mayStand_22 : decode cX4_mayStand 22 = .ok (.iconst 0, 1) := by decide +kernel
theorem dX4_mayStand_23 : decode cX4_mayStand 23 = .ok (.ireturn, 1) := by decide +kernel
theorem dX4_mayFollow_0 : decode cX4_mayFollow 0 = .ok (.iload_n 2, 1) := by decide +kernel
theorem dX4_mayFollow_1 : decode cX4_mayFollow 1 = .ok (.iload 4, 2) := by decide +kernel
theorem dX4_mayFollow_3 : decode cX4_mayFollow 3 = .ok (.if_icmp .ge 10, 3) := by decide +kernel
theorem dX4_mayFollow_6 : decode cX4_mayFollow 6 = .ok (.iload 4, 2) := by decide +kernel
theorem dX4_mayFollow_8 : decode cX4_mayFollow 8 = .ok (.iload_n 2, 1) := by decide +kernel
theorem dX4_mayFollow_9 : decode cX4_mayFollow 9 = .ok (.isub, 1) := by decide +kernel
theorem dX4_mayFollow_10 : decode cX4_mayFollow 10 = .ok (.goto 7, 3) := by decide +kernel
theorem dX4_mayFollow_13 : decode cX4_mayFollow 13 = .ok (.iload_n 2, 1) := by decide +kernel
theorem dX4_mayFollow_14 : decode cX4_mayFollow 14 = .ok (.iload 4, 2) := by decide +kernel
theorem dX4_mayFollow_16 : decode cX4_mayFollow 16 = .ok (.isub, 1) := by decide +kernel
theorem dX4_mayFollow_17 : decode cX4_mayFollow 17 = .ok (.istore 6, 2) := by decide +kernel
theorem dX4_mayFollow_19 : decode cX4_mayFollow 19 = .ok (.aload_n 0, 1) := by decide +kernel
theorem dX4_mayFollow_20 : decode cX4_mayFollow 20 = .ok (.getfield 20, 3) := by decide +kernel
theorem dX4_mayFollow_23 : decode cX4_mayFollow 23 = .ok (.iload_n 1, 1) := by decide +kernel
theorem dX4_mayFollow_24 : decode cX4_mayFollow 24 = .ok (.baload, 1) := by decide +kernel
theorem dX4_mayFollow_25 : decode cX4_mayFollow 25 = .ok (.ifCond .ne 19, 3) := by decide +kernel
theorem dX4_mayFollow_28 : decode cX4_mayFollow 28 = .ok (.aload_n 0, 1) := by decide +kernel
theorem dX4_mayFollow_29 : decode cX4_mayFollow 29 = .ok (.getfield 20, 3) := by decide +kernel
theorem dX4_mayFollow_32 : decode cX4_mayFollow 32 = .ok (.iload_n 3, 1) := by decide +kernel
theorem dX4_mayFollow_33 : decode cX4_mayFollow 33 = .ok (.baload, 1) := by decide +kernel
theorem dX4_mayFollow_34 : decode cX4_mayFollow 34 = .ok (.ifCond .ne 10, 3) := by decide +kernel
theorem dX4_mayFollow_37 : decode cX4_mayFollow 37 = .ok (.iload 6, 2) := by decide +kernel
theorem dX4_mayFollow_39 : decode cX4_mayFollow 39 = .ok (.iload 5, 2) := by decide +kernel
theorem dX4_mayFollow_41 : decode cX4_mayFollow 41 = .ok (.if_icmp .gt 7, 3) := by decide +kernel
theorem dX4_mayFollow_44 : decode cX4_mayFollow 44 = .ok (.iconst 1, 1) := by decide +kernel
theorem dX4_mayFollow_45 : decode cX4_mayFollow 45 = .ok (.goto 4, 3) := by decide +kernel
theorem dX4_mayFollow_48 : decode cX4_mayFollow 48 = .ok (.iconst 0, 1) := by decide +kernel
theorem dX4_mayFollow_49 : decode cX4_mayFollow 49 = .ok (.ireturn, 1) := by decide +kernel
set_option maxRecDepth 20000 in
theorem ggX4_bestBefore_X4_mayFollow : GoodIn wsX4_bestBefore wsX4_mayFollow := goodIn_r _ [9, 10, 11, 12, 13, 14, 15, 16, 17, 18, 19, 20, 21, 22, 23, 24, 25, 26, 27, 28, 29, 30, 31, 32, 33, 34] (by decide +kernel) (by decide +kernel)
set_option maxRecDepth 20000 in
theorem gX4_bestBefore_X4_mayFollow : GoodIn wsX4_bestBefore (wsV RX4 118 RX4 yX4_mayFollow wsX4_mayFollow) := goodIn_app (goodIn_of _ (by decide +kernel)) ggX4_bestBefore_X4_mayFollow
theorem dX4_bestBefore_0 : decode cX4_bestBefore 0 = .ok (.iload_n 1, 1) := by decide +kernel
theorem dX4_bestBefore_1 : decode cX4_bestBefore 1 = .ok (.ifCond .ne 5, 3) := by decide +kernel
theorem dX4_bestBefore_4 : decode cX4_bestBefore 4 = .ok (.lconst 0, 1) := by decide +kernel
theorem dX4_bestBefore_5 : decode cX4_bestBefore 5 = .ok (.lreturn, 1) := by decide +kernel
theorem dX4_bestBefore_6 : decode cX4_bestBefore 6 = .ok (.ldc2_w 116, 3) := by decide +kernel
theorem dX4_bestBefore_9 : decode cX4_bestBefore 9 = .ok (.lstore 4, 2) := by decide +kernel
theorem dX4_bestBefore_11 : decode cX4_bestBefore 11 = .ok (.iconst 0, 1) := by decide +kernel
theorem dX4_bestBefore_12 : decode cX4_bestBefore 12 = .ok (.istore 6, 2) := by decide +kernel
theorem dX4_bestBefore_14 : decode cX4_bestBefore 14 = .ok (.iload 6, 2) := by decide +kernel
theorem dX4_bestBefore_16 : decode cX4_bestBefore 16 = .ok (.aload_n 0, 1) := by decide +kernel
theorem dX4_bestBefore_17 : decode cX4_bestBefore 17 = .ok (.getfield 55, 3) := by decide +kernel
theorem dX4_bestBefore_20 : decode cX4_bestBefore 20 = .ok (.if_icmp .ge 62, 3) := by decide +kernel
theorem dX4_bestBefore_23 : decode cX4_bestBefore 23 = .ok (.aload_n 0, 1) := by decide +kernel
theorem dX4_bestBefore_24 : decode cX4_bestBefore 24 = .ok (.getfield 48, 3) := by decide +kernel
theorem dX4_bestBefore_27 : decode cX4_bestBefore 27 = .ok (.bipush 64, 2) := by decide +kernel
theorem dX4_bestBefore_29 : decode cX4_bestBefore 29 = .ok (.iload_n 1, 1) := by decide +kernel
theorem dX4_bestBefore_30 : decode cX4_bestBefore 30 = .ok (.iconst 1, 1) := by decide +kernel
theorem dX4_bestBefore_31 : decode cX4_bestBefore 31 = .ok (.isub, 1) := by decide +kernel
theorem dX4_bestBefore_32 : decode cX4_bestBefore 32 = .ok (.imul, 1) := by decide +kernel
theorem dX4_bestBefore_33 : decode cX4_bestBefore 33 = .ok (.iload 6, 2) := by decide +kernel
theorem dX4_bestBefore_35 : decode cX4_bestBefore 35 = .ok (.iadd, 1) := by decide +kernel
theorem dX4_bestBefore_36 : decode cX4_bestBefore 36 = .ok (.laload, 1) := by decide +kernel
theorem dX4_bestBefore_37 : decode cX4_bestBefore 37 = .ok (.lstore 7, 2) := by decide +kernel
theorem dX4_bestBefore_39 : decode cX4_bestBefore 39 = .ok (.lload 7, 2) := by decide +kernel
theorem dX4_bestBefore_41 : decode cX4_bestBefore 41 = .ok (.lload 4, 2) := by decide +kernel
theorem dX4_bestBefore_43 : decode cX4_bestBefore 43 = .ok (.lcmp, 1) := by decide +kernel
theorem dX4_bestBefore_44 : decode cX4_bestBefore 44 = .ok (.ifCond .le 32, 3) := by decide +kernel
theorem dX4_bestBefore_47 : decode cX4_bestBefore 47 = .ok (.aload_n 0, 1) := by decide +kernel
theorem dX4_bestBefore_48 : decode cX4_bestBefore 48 = .ok (.aload_n 0, 1) := by decide +kernel
theorem dX4_bestBefore_49 : decode cX4_bestBefore 49 = .ok (.getfield 52, 3) := by decide +kernel
theorem dX4_bestBefore_52 : decode cX4_bestBefore 52 = .ok (.iload_n 1, 1) := by decide +kernel
theorem dX4_bestBefore_53 : decode cX4_bestBefore 53 = .ok (.iconst 1, 1) := by decide +kernel
theorem dX4_bestBefore_54 : decode cX4_bestBefore 54 = .ok (.isub, 1) := by decide +kernel
theorem dX4_bestBefore_55 : decode cX4_bestBefore 55 = .ok (.iaload, 1) := by decide +kernel
theorem dX4_bestBefore_56 : decode cX4_bestBefore 56 = .ok (.iload 6, 2) := by decide +kernel
theorem dX4_bestBefore_58 : decode cX4_bestBefore 58 = .ok (.aload_n 0, 1) := by decide +kernel
theorem dX4_bestBefore_59 : decode cX4_bestBefore 59 = .ok (.getfield 52, 3) := by decide +kernel
theorem dX4_bestBefore_62 : decode cX4_bestBefore 62 = .ok (.iload_n 1, 1) := by decide +kernel
theorem dX4_bestBefore_63 : decode cX4_bestBefore 63 = .ok (.iaload, 1) := by decide +kernel
theorem dX4_bestBefore_64 : decode cX4_bestBefore 64 = .ok (.iload_n 2, 1) := by decide +kernel
theorem dX4_bestBefore_65 : decode cX4_bestBefore 65 = .ok (.iload_n 3, 1) := by decide +kernel
theorem dX4_bestBefore_66 : decode cX4_bestBefore 66 = .ok (.invokevirtual 118, 3) := by decide +kernel
theorem dX4_bestBefore_69 : decode cX4_bestBefore 69 = .ok (.ifCond .eq 7, 3) := by decide +kernel
theorem dX4_bestBefore_72 : decode cX4_bestBefore 72 = .ok (.lload 7, 2) := by decide +kernel
theorem dX4_bestBefore_74 : decode cX4_bestBefore 74 = .ok (.lstore 4, 2) := by decide +kernel
theorem dX4_bestBefore_76 : decode cX4_bestBefore 76 = .ok (.iinc 6 1, 3) := by decide +kernel
theorem dX4_bestBefore_79 : decode cX4_bestBefore 79 = .ok (.goto (-65), 3) := by decide +kernel
theorem dX4_bestBefore_82 : decode cX4_bestBefore 82 = .ok (.lload 4, 2) := by decide +kernel
theorem dX4_bestBefore_84 : decode cX4_bestBefore 84 = .ok (.lreturn, 1) := by decide +kernel
set_option maxRecDepth 20000 in
theorem ggX4_run_X4_isEmpty : GoodIn wsX4_run wsX4_isEmpty := goodIn_r _ [15, 5, 16, 48, 49, 50, 51, 52, 53, 54, 55, 56, 57, 58, 59, 60, 61, 62, 63, 64, 65, 66, 67, 68, 69, 70, 71] (by decide +kernel) (by decide +kernel)
set_option maxRecDepth 20000 in
theorem gX4_run_X4_isEmpty : GoodIn wsX4_run (wsV RX4 108 RX4 yX4_isEmpty wsX4_isEmpty) := goodIn_app (goodIn_of _ (by decide +kernel)) ggX4_run_X4_isEmpty
set_option maxRecDepth 20000 in
theorem ggX4_run_X4_mayStand : GoodIn wsX4_run wsX4_mayStand := goodIn_r _ [20, 1, 21, 22, 23, 14, 24, 5, 25, 26, 27, 28, 29, 30, 48, 49, 50, 51, 52, 53, 54, 55, 56, 57, 58, 59, 60, 61, 62, 63, 64, 65, 66, 67, 68, 69, 70, 71] (by decide +kernel) (by decide +kernel)
set_option maxRecDepth 20000 in
theorem gX4_run_X4_mayStand : GoodIn wsX4_run (wsV RX4 122 RX4 yX4_mayStand wsX4_mayStand) := goodIn_app (goodIn_of _ (by decide +kernel)) ggX4_run_X4_mayStand
set_option maxRecDepth 20000 in
theorem ggX4_run_X4_bestBefore : GoodIn wsX4_run wsX4_bestBefore := goodIn_r _ [34, 6, 5, 7, 4, 35, 36, 37, 14, 38, 1, 48, 49, 50, 51, 52, 53, 54, 55, 56, 57, 58, 59, 60, 61, 62, 63, 64, 65, 66, 67, 68, 69, 70, 71] (by decide +kernel) (by decide +kernel)
set_option maxRecDepth 20000 in
theorem gX4_run_X4_bestBefore : GoodIn wsX4_run (wsV RX4 125 RX4 yX4_bestBefore wsX4_bestBefore) := goodIn_app (goodIn_of _ (by decide +kernel)) ggX4_run_X4_bestBefore
set_option maxRecDepth 20000 in
theorem ggX4_run_X4_strength : GoodIn wsX4_run wsX4_strength := goodIn_r _ [42, 16, 2, 43, 44, 45, 46, 47, 26, 27, 28, 14, 29, 30, 48, 49, 50, 51, 52, 53, 54, 55, 56, 57, 58, 59, 60, 61, 62, 63, 64, 65, 66, 67, 68, 69, 70, 71] (by decide +kernel) (by decide +kernel)
set_option maxRecDepth 20000 in
theorem gX4_run_X4_strength : GoodIn wsX4_run (wsV RX4 129 RX4 yX4_strength wsX4_strength) := goodIn_app (goodIn_of _ (by decide +kernel)) ggX4_run_X4_strength
set_option maxRecDepth 20000 in
theorem ggX4_run_X4_mayFollow : GoodIn wsX4_run wsX4_mayFollow := goodIn_r _ [38, 1, 48, 49, 50, 51, 52, 53, 54, 55, 56, 57, 58, 59, 60, 61, 62, 63, 64, 65, 66, 67, 68, 69, 70, 71] (by decide +kernel) (by decide +kernel)
set_option maxRecDepth 20000 in
theorem gX4_run_X4_mayFollow : GoodIn wsX4_run (wsV RX4 118 RX4 yX4_mayFollow wsX4_mayFollow) := goodIn_app (goodIn_of _ (by decide +kernel)) ggX4_run_X4_mayFollow
theorem dX4_run_0 : decode cX4_run 0 = .ok (.iload_n 1, 1) := by decide +kernel
theorem dX4_run_1 : decode cX4_run 1 = .ok (.iconst 1, 1) := by decide +kernel
theorem dX4_run_2 : decode cX4_run 2 = .ok (.if_icmp .lt 19, 3) := by decide +kernel
theorem dX4_run_5 : decode cX4_run 5 = .ok (.iload_n 1, 1) := by decide +kernel
theorem dX4_run_6 : decode cX4_run 6 = .ok (.bipush 32, 2) := by decide +kernel
theorem dX4_run_8 : decode cX4_run 8 = .ok (.if_icmp .gt 13, 3) := by decide +kernel
theorem dX4_run_11 : decode cX4_run 11 = .ok (.iload_n 2, 1) := by decide +kernel
theorem dX4_run_12 : decode cX4_run 12 = .ok (.ifCond .lt 9, 3) := by decide +kernel
theorem dX4_run_15 : decode cX4_run 15 = .ok (.iload_n 2, 1) := by decide +kernel
theorem dX4_run_16 : decode cX4_run 16 = .ok (.bipush 64, 2) := by decide +kernel
theorem dX4_run_18 : decode cX4_run 18 = .ok (.if_icmp .le 5, 3) := by decide +kernel
theorem dX4_run_21 : decode cX4_run 21 = .ok (.iconst (-1), 1) := by decide +kernel
theorem dX4_run_22 : decode cX4_run 22 = .ok (.ireturn, 1) := by decide +kernel
theorem dX4_run_23 : decode cX4_run 23 = .ok (.iconst 0, 1) := by decide +kernel
theorem dX4_run_24 : decode cX4_run 24 = .ok (.istore_n 3, 1) := by decide +kernel
theorem dX4_run_25 : decode cX4_run 25 = .ok (.iconst 0, 1) := by decide +kernel
theorem dX4_run_26 : decode cX4_run 26 = .ok (.istore 4, 2) := by decide +kernel
theorem dX4_run_28 : decode cX4_run 28 = .ok (.iload 4, 2) := by decide +kernel
theorem dX4_run_30 : decode cX4_run 30 = .ok (.iload_n 1, 1) := by decide +kernel
theorem dX4_run_31 : decode cX4_run 31 = .ok (.if_icmp .ge 53, 3) := by decide +kernel
theorem dX4_run_34 : decode cX4_run 34 = .ok (.aload_n 0, 1) := by decide +kernel
theorem dX4_run_35 : decode cX4_run 35 = .ok (.getfield 20, 3) := by decide +kernel
theorem dX4_run_38 : decode cX4_run 38 = .ok (.iload 4, 2) := by decide +kernel
theorem dX4_run_40 : decode cX4_run 40 = .ok (.baload, 1) := by decide +kernel
theorem dX4_run_41 : decode cX4_run 41 = .ok (.ifCond .ne 26, 3) := by decide +kernel
theorem dX4_run_44 : decode cX4_run 44 = .ok (.aload_n 0, 1) := by decide +kernel
theorem dX4_run_45 : decode cX4_run 45 = .ok (.getfield 17, 3) := by decide +kernel
theorem dX4_run_48 : decode cX4_run 48 = .ok (.iload 4, 2) := by decide +kernel
theorem dX4_run_50 : decode cX4_run 50 = .ok (.baload, 1) := by decide +kernel
theorem dX4_run_51 : decode cX4_run 51 = .ok (.ifCond .ne 27, 3) := by decide +kernel
theorem dX4_run_54 : decode cX4_run 54 = .ok (.aload_n 0, 1) := by decide +kernel
theorem dX4_run_55 : decode cX4_run 55 = .ok (.aload_n 0, 1) := by decide +kernel
theorem dX4_run_56 : decode cX4_run 56 = .ok (.getfield 78, 3) := by decide +kernel
theorem dX4_run_59 : decode cX4_run 59 = .ok (.iload 4, 2) := by decide +kernel
theorem dX4_run_61 : decode cX4_run 61 = .ok (.invokevirtual 108, 3) := by decide +kernel
theorem dX4_run_64 : decode cX4_run 64 = .ok (.ifCond .ne 14, 3) := by decide +kernel
theorem dX4_run_67 : decode cX4_run 67 = .ok (.aload_n 0, 1) := by decide +kernel
theorem dX4_run_68 : decode cX4_run 68 = .ok (.getfield 52, 3) := by decide +kernel
theorem dX4_run_71 : decode cX4_run 71 = .ok (.iload_n 3, 1) := by decide +kernel
theorem dX4_run_72 : decode cX4_run 72 = .ok (.iload 4, 2) := by decide +kernel
theorem dX4_run_74 : decode cX4_run 74 = .ok (.iastore, 1) := by decide +kernel
theorem dX4_run_75 : decode cX4_run 75 = .ok (.iinc 3 1, 3) := by decide +kernel
theorem dX4_run_78 : decode cX4_run 78 = .ok (.iinc 4 1, 3) := by decide +kernel
theorem dX4_run_81 : decode cX4_run 81 = .ok (.goto (-53), 3) := by decide +kernel
theorem dX4_run_84 : decode cX4_run 84 = .ok (.iload_n 3, 1) := by decide +kernel
theorem dX4_run_85 : decode cX4_run 85 = .ok (.ifCond .ne 5, 3) := by decide +kernel
theorem dX4_run_88 : decode cX4_run 88 = .ok (.iconst (-1), 1) := by decide +kernel
theorem dX4_run_89 : decode cX4_run 89 = .ok (.ireturn, 1) := by decide +kernel
theorem dX4_run_90 : decode cX4_run 90 = .ok (.iconst 0, 1) := by decide +kernel
theorem dX4_run_91 : decode cX4_run 91 = .ok (.istore 4, 2) := by decide +kernel
theorem dX4_run_93 : decode cX4_run 93 = .ok (.iload 4, 2) := by decide +kernel
theorem dX4_run_95 : decode cX4_run 95 = .ok (.iload_n 3, 1) := by decide +kernel
theorem dX4_run_96 : decode cX4_run 96 = .ok (.if_icmp .ge 106, 3) := by decide +kernel
theorem dX4_run_99 : decode cX4_run 99 = .ok (.iconst 0, 1) := by decide +kernel
theorem dX4_run_100 : decode cX4_run 100 = .ok (.istore 5, 2) := by decide +kernel
theorem dX4_run_102 : decode cX4_run 102 = .ok (.iload 5, 2) := by decide +kernel
theorem dX4_run_104 : decode cX4_run 104 = .ok (.aload_n 0, 1) := by decide +kernel
theorem dX4_run_105 : decode cX4_run 105 = .ok (.getfield 55, 3) := by decide +kernel
theorem dX4_run_108 : decode cX4_run 108 = .ok (.if_icmp .ge 88, 3) := by decide +kernel
theorem dX4_run_111 : decode cX4_run 111 = .ok (.aload_n 0, 1) := by decide +kernel
theorem dX4_run_112 : decode cX4_run 112 = .ok (.aload_n 0, 1) := by decide +kernel
theorem dX4_run_113 : decode cX4_run 113 = .ok (.getfield 52, 3) := by decide +kernel
theorem dX4_run_116 : decode cX4_run 116 = .ok (.iload 4, 2) := by decide +kernel
theorem dX4_run_118 : decode cX4_run 118 = .ok (.iaload, 1) := by decide +kernel
theorem dX4_run_119 : decode cX4_run 119 = .ok (.iload 5, 2) := by decide +kernel
theorem dX4_run_121 : decode cX4_run 121 = .ok (.invokevirtual 122, 3) := by decide +kernel
theorem dX4_run_124 : decode cX4_run 124 = .ok (.ifCond .eq 15, 3) := by decide +kernel
theorem dX4_run_127 : decode cX4_run 127 = .ok (.aload_n 0, 1) := by decide +kernel
theorem dX4_run_128 : decode cX4_run 128 = .ok (.iload 4, 2) := by decide +kernel
theorem dX4_run_130 : decode cX4_run 130 = .ok (.iload 5, 2) := by decide +kernel
theorem dX4_run_132 : decode cX4_run 132 = .ok (.iload_n 2, 1) := by decide +kernel
theorem dX4_run_133 : decode cX4_run 133 = .ok (.invokevirtual 125, 3) := by decide +kernel
theorem dX4_run_136 : decode cX4_run 136 = .ok (.goto 6, 3) := by decide +kernel
theorem dX4_run_139 : decode cX4_run 139 = .ok (.ldc2_w 116, 3) := by decide +kernel
theorem dX4_run_142 : decode cX4_run 142 = .ok (.lstore 6, 2) := by decide +kernel
theorem dX4_run_144 : decode cX4_run 144 = .ok (.aload_n 0, 1) := by decide +kernel
theorem dX4_run_145 : decode cX4_run 145 = .ok (.getfield 48, 3) := by decide +kernel
theorem dX4_run_148 : decode cX4_run 148 = .ok (.bipush 64, 2) := by decide +kernel
theorem dX4_run_150 : decode cX4_run 150 = .ok (.iload 4, 2) := by decide +kernel
theorem dX4_run_152 : decode cX4_run 152 = .ok (.imul, 1) := by decide +kernel
theorem dX4_run_153 : decode cX4_run 153 = .ok (.iload 5, 2) := by decide +kernel
theorem dX4_run_155 : decode cX4_run 155 = .ok (.iadd, 1) := by decide +kernel
theorem dX4_run_156 : decode cX4_run 156 = .ok (.lload 6, 2) := by decide +kernel
theorem dX4_run_158 : decode cX4_run 158 = .ok (.lconst 0, 1) := by decide +kernel
theorem dX4_run_159 : decode cX4_run 159 = .ok (.lcmp, 1) := by decide +kernel
theorem dX4_run_160 : decode cX4_run 160 = .ok (.ifCond .ge 9, 3) := by decide +kernel
theorem dX4_run_163 : decode cX4_run 163 = .ok (.ldc2_w 116, 3) := by decide +kernel
theorem dX4_run_166 : decode cX4_run 166 = .ok (.goto 23, 3) := by decide +kernel
theorem dX4_run_169 : decode cX4_run 169 = .ok (.lload 6, 2) := by decide +kernel
theorem dX4_run_171 : decode cX4_run 171 = .ok (.aload_n 0, 1) := by decide +kernel
theorem dX4_run_172 : decode cX4_run 172 = .ok (.aload_n 0, 1) := by decide +kernel
theorem dX4_run_173 : decode cX4_run 173 = .ok (.getfield 78, 3) := by decide +kernel
theorem dX4_run_176 : decode cX4_run 176 = .ok (.aload_n 0, 1) := by decide +kernel
theorem dX4_run_177 : decode cX4_run 177 = .ok (.getfield 52, 3) := by decide +kernel
theorem dX4_run_180 : decode cX4_run 180 = .ok (.iload 4, 2) := by decide +kernel
theorem dX4_run_182 : decode cX4_run 182 = .ok (.iaload, 1) := by decide +kernel
theorem dX4_run_183 : decode cX4_run 183 = .ok (.iload 5, 2) := by decide +kernel
theorem dX4_run_185 : decode cX4_run 185 = .ok (.invokevirtual 129, 3) := by decide +kernel
theorem dX4_run_188 : decode cX4_run 188 = .ok (.ladd, 1) := by decide +kernel
theorem dX4_run_189 : decode cX4_run 189 = .ok (.lastore, 1) := by decide +kernel
theorem dX4_run_190 : decode cX4_run 190 = .ok (.iinc 5 1, 3) := by decide +kernel
theorem dX4_run_193 : decode cX4_run 193 = .ok (.goto (-91), 3) := by decide +kernel
theorem dX4_run_196 : decode cX4_run 196 = .ok (.iinc 4 1, 3) := by decide +kernel
theorem dX4_run_199 : decode cX4_run 199 = .ok (.goto (-106), 3) := by decide +kernel
theorem dX4_run_202 : decode cX4_run 202 = .ok (.iconst 0, 1) := by decide +kernel
theorem dX4_run_203 : decode cX4_run 203 = .ok (.istore 4, 2) := by decide +kernel
theorem dX4_run_205 : decode cX4_run 205 = .ok (.iload 4, 2) := by decide +kernel
theorem dX4_run_207 : decode cX4_run 207 = .ok (.bipush 32, 2) := by decide +kernel
theorem dX4_run_209 : decode cX4_run 209 = .ok (.if_icmp .ge 17, 3) := by decide +kernel
theorem dX4_run_212 : decode cX4_run 212 = .ok (.aload_n 0, 1) := by decide +kernel
theorem dX4_run_213 : decode cX4_run 213 = .ok (.getfield 44, 3) := by decide +kernel
theorem dX4_run_216 : decode cX4_run 216 = .ok (.iload 4, 2) := by decide +kernel
theorem dX4_run_218 : decode cX4_run 218 = .ok (.iconst (-1), 1) := by decide +kernel
theorem dX4_run_219 : decode cX4_run 219 = .ok (.iastore, 1) := by decide +kernel
theorem dX4_run_220 : decode cX4_run 220 = .ok (.iinc 4 1, 3) := by decide +kernel
theorem dX4_run_223 : decode cX4_run 223 = .ok (.goto (-18), 3) := by decide +kernel
theorem dX4_run_226 : decode cX4_run 226 = .ok (.ldc2_w 116, 3) := by decide +kernel
theorem dX4_run_229 : decode cX4_run 229 = .ok (.lstore 4, 2) := by decide +kernel
theorem dX4_run_231 : decode cX4_run 231 = .ok (.iconst 0, 1) := by decide +kernel
theorem dX4_run_232 : decode cX4_run 232 = .ok (.istore 6, 2) := by decide +kernel
theorem dX4_run_234 : decode cX4_run 234 = .ok (.iload 6, 2) := by decide +kernel
theorem dX4_run_236 : decode cX4_run 236 = .ok (.aload_n 0, 1) := by decide +kernel
theorem dX4_run_237 : decode cX4_run 237 = .ok (.getfield 55, 3) := by decide +kernel
theorem dX4_run_240 : decode cX4_run 240 = .ok (.if_icmp .ge 50, 3) := by decide +kernel
theorem dX4_run_243 : decode cX4_run 243 = .ok (.aload_n 0, 1) := by decide +kernel
theorem dX4_run_244 : decode cX4_run 244 = .ok (.getfield 48, 3) := by decide +kernel
theorem dX4_run_247 : decode cX4_run 247 = .ok (.bipush 64, 2) := by decide +kernel
theorem dX4_run_249 : decode cX4_run 249 = .ok (.iload_n 3, 1) := by decide +kernel
theorem dX4_run_250 : decode cX4_run 250 = .ok (.iconst 1, 1) := by decide +kernel
theorem dX4_run_251 : decode cX4_run 251 = .ok (.isub, 1) := by decide +kernel
theorem dX4_run_252 : decode cX4_run 252 = .ok (.imul, 1) := by decide +kernel
theorem dX4_run_253 : decode cX4_run 253 = .ok (.iload 6, 2) := by decide +kernel
theorem dX4_run_255 : decode cX4_run 255 = .ok (.iadd, 1) := by decide +kernel
theorem dX4_run_256 : decode cX4_run 256 = .ok (.laload, 1) := by decide +kernel
theorem dX4_run_257 : decode cX4_run 257 = .ok (.lload 4, 2) := by decide +kernel
theorem dX4_run_259 : decode cX4_run 259 = .ok (.lcmp, 1) := by decide +kernel
theorem dX4_run_260 : decode cX4_run 260 = .ok (.ifCond .le 20, 3) := by decide +kernel
theorem dX4_run_263 : decode cX4_run 263 = .ok (.aload_n 0, 1) := by decide +kernel
theorem dX4_run_264 : decode cX4_run 264 = .ok (.getfield 48, 3) := by decide +kernel
theorem dX4_run_267 : decode cX4_run 267 = .ok (.bipush 64, 2) := by decide +kernel
theorem dX4_run_269 : decode cX4_run 269 = .ok (.iload_n 3, 1) := by decide +kernel
theorem dX4_run_270 : decode cX4_run 270 = .ok (.iconst 1, 1) := by decide +kernel
theorem dX4_run_271 : decode cX4_run 271 = .ok (.isub, 1) := by decide +kernel
theorem dX4_run_272 : decode cX4_run 272 = .ok (.imul, 1) := by decide +kernel
theorem dX4_run_273 : decode cX4_run 273 = .ok (.iload 6, 2) := by decide +kernel
theorem dX4_run_275 : decode cX4_run 275 = .ok (.iadd, 1) := by decide +kernel
theorem dX4_run_276 : decode cX4_run 276 = .ok (.laload, 1) := by decide +kernel
theorem dX4_run_277 : decode cX4_run 277 = .ok (.goto 5, 3) := by decide +kernel
theorem dX4_run_280 : decode cX4_run 280 = .ok (.lload 4, 2) := by decide +kernel
theorem dX4_run_282 : decode cX4_run 282 = .ok (.lstore 4, 2) := by decide +kernel
theorem dX4_run_284 : decode cX4_run 284 = .ok (.iinc 6 1, 3) := by decide +kernel
theorem dX4_run_287 : decode cX4_run 287 = .ok (.goto (-53), 3) := by decide +kernel
theorem dX4_run_290 : decode cX4_run 290 = .ok (.lload 4, 2) := by decide +kernel
theorem dX4_run_292 : decode cX4_run 292 = .ok (.lstore 6, 2) := by decide +kernel
theorem dX4_run_294 : decode cX4_run 294 = .ok (.iconst (-1), 1) := by decide +kernel
theorem dX4_run_295 : decode cX4_run 295 = .ok (.istore 8, 2) := by decide +kernel
theorem dX4_run_297 : decode cX4_run 297 = .ok (.iload_n 3, 1) := by decide +kernel
theorem dX4_run_298 : decode cX4_run 298 = .ok (.iconst 1, 1) := by decide +kernel
theorem dX4_run_299 : decode cX4_run 299 = .ok (.isub, 1) := by decide +kernel
theorem dX4_run_300 : decode cX4_run 300 = .ok (.istore 9, 2) := by decide +kernel
theorem dX4_run_302 : decode cX4_run 302 = .ok (.iload 9, 2) := by decide +kernel
theorem dX4_run_304 : decode cX4_run 304 = .ok (.ifCond .lt 111, 3) := by decide +kernel
theorem dX4_run_307 : decode cX4_run 307 = .ok (.iconst 0, 1) := by decide +kernel
theorem dX4_run_308 : decode cX4_run 308 = .ok (.istore 10, 2) := by decide +kernel
theorem dX4_run_310 : decode cX4_run 310 = .ok (.aload_n 0, 1) := by decide +kernel
theorem dX4_run_311 : decode cX4_run 311 = .ok (.getfield 48, 3) := by decide +kernel
theorem dX4_run_314 : decode cX4_run 314 = .ok (.bipush 64, 2) := by decide +kernel
theorem dX4_run_316 : decode cX4_run 316 = .ok (.iload 9, 2) := by decide +kernel
theorem dX4_run_318 : decode cX4_run 318 = .ok (.imul, 1) := by decide +kernel
theorem dX4_run_319 : decode cX4_run 319 = .ok (.iload 10, 2) := by decide +kernel
theorem dX4_run_321 : decode cX4_run 321 = .ok (.iadd, 1) := by decide +kernel
theorem dX4_run_322 : decode cX4_run 322 = .ok (.laload, 1) := by decide +kernel
theorem dX4_run_323 : decode cX4_run 323 = .ok (.lload 4, 2) := by decide +kernel
theorem dX4_run_325 : decode cX4_run 325 = .ok (.lcmp, 1) := by decide +kernel
theorem dX4_run_326 : decode cX4_run 326 = .ok (.ifCond .ne 37, 3) := by decide +kernel
theorem dX4_run_329 : decode cX4_run 329 = .ok (.iload 8, 2) := by decide +kernel
theorem dX4_run_331 : decode cX4_run 331 = .ok (.iconst (-1), 1) := by decide +kernel
theorem dX4_run_332 : decode cX4_run 332 = .ok (.if_icmp .eq 37, 3) := by decide +kernel
theorem dX4_run_335 : decode cX4_run 335 = .ok (.aload_n 0, 1) := by decide +kernel
theorem dX4_run_336 : decode cX4_run 336 = .ok (.aload_n 0, 1) := by decide +kernel
theorem dX4_run_337 : decode cX4_run 337 = .ok (.getfield 52, 3) := by decide +kernel
theorem dX4_run_340 : decode cX4_run 340 = .ok (.iload 9, 2) := by decide +kernel
theorem dX4_run_342 : decode cX4_run 342 = .ok (.iaload, 1) := by decide +kernel
theorem dX4_run_343 : decode cX4_run 343 = .ok (.iload 10, 2) := by decide +kernel
theorem dX4_run_345 : decode cX4_run 345 = .ok (.aload_n 0, 1) := by decide +kernel
theorem dX4_run_346 : decode cX4_run 346 = .ok (.getfield 52, 3) := by decide +kernel
theorem dX4_run_349 : decode cX4_run 349 = .ok (.iload 9, 2) := by decide +kernel
theorem dX4_run_351 : decode cX4_run 351 = .ok (.iconst 1, 1) := by decide +kernel
theorem dX4_run_352 : decode cX4_run 352 = .ok (.iadd, 1) := by decide +kernel
theorem dX4_run_353 : decode cX4_run 353 = .ok (.iaload, 1) := by decide +kernel
theorem dX4_run_354 : decode cX4_run 354 = .ok (.iload 8, 2) := by decide +kernel
theorem dX4_run_356 : decode cX4_run 356 = .ok (.iload_n 2, 1) := by decide +kernel
theorem dX4_run_357 : decode cX4_run 357 = .ok (.invokevirtual 118, 3) := by decide +kernel
theorem dX4_run_360 : decode cX4_run 360 = .ok (.ifCond .ne 9, 3) := by decide +kernel
theorem dX4_run_363 : decode cX4_run 363 = .ok (.iinc 10 1, 3) := by decide +kernel
theorem dX4_run_366 : decode cX4_run 366 = .ok (.goto (-56), 3) := by decide +kernel
theorem dX4_run_369 : decode cX4_run 369 = .ok (.aload_n 0, 1) := by decide +kernel
theorem dX4_run_370 : decode cX4_run 370 = .ok (.getfield 44, 3) := by decide +kernel
theorem dX4_run_373 : decode cX4_run 373 = .ok (.aload_n 0, 1) := by decide +kernel
theorem dX4_run_374 : decode cX4_run 374 = .ok (.getfield 52, 3) := by decide +kernel
theorem dX4_run_377 : decode cX4_run 377 = .ok (.iload 9, 2) := by decide +kernel
theorem dX4_run_379 : decode cX4_run 379 = .ok (.iaload, 1) := by decide +kernel
theorem dX4_run_380 : decode cX4_run 380 = .ok (.iload 10, 2) := by decide +kernel
theorem dX4_run_382 : decode cX4_run 382 = .ok (.iastore, 1) := by decide +kernel
theorem dX4_run_383 : decode cX4_run 383 = .ok (.lload 4, 2) := by decide +kernel
theorem dX4_run_385 : decode cX4_run 385 = .ok (.aload_n 0, 1) := by decide +kernel
theorem dX4_run_386 : decode cX4_run 386 = .ok (.aload_n 0, 1) := by decide +kernel
theorem dX4_run_387 : decode cX4_run 387 = .ok (.getfield 78, 3) := by decide +kernel
theorem dX4_run_390 : decode cX4_run 390 = .ok (.aload_n 0, 1) := by decide +kernel
theorem dX4_run_391 : decode cX4_run 391 = .ok (.getfield 52, 3) := by decide +kernel
theorem dX4_run_394 : decode cX4_run 394 = .ok (.iload 9, 2) := by decide +kernel
theorem dX4_run_396 : decode cX4_run 396 = .ok (.iaload, 1) := by decide +kernel
theorem dX4_run_397 : decode cX4_run 397 = .ok (.iload 10, 2) := by decide +kernel
theorem dX4_run_399 : decode cX4_run 399 = .ok (.invokevirtual 129, 3) := by decide +kernel
theorem dX4_run_402 : decode cX4_run 402 = .ok (.lsub, 1) := by decide +kernel
theorem dX4_run_403 : decode cX4_run 403 = .ok (.lstore 4, 2) := by decide +kernel
theorem dX4_run_405 : decode cX4_run 405 = .ok (.iload 10, 2) := by decide +kernel
theorem dX4_run_407 : decode cX4_run 407 = .ok (.istore 8, 2) := by decide +kernel
theorem dX4_run_409 : decode cX4_run 409 = .ok (.iinc 9 (-1), 3) := by decide +kernel
theorem dX4_run_412 : decode cX4_run 412 = .ok (.goto (-110), 3) := by decide +kernel
theorem dX4_run_415 : decode cX4_run 415 = .ok (.aload_n 0, 1) := by decide +kernel
theorem dX4_run_416 : decode cX4_run 416 = .ok (.iconst 1, 1) := by decide +kernel
theorem dX4_run_417 : decode cX4_run 417 = .ok (.putfield 132, 3) := by decide +kernel
theorem dX4_run_420 : decode cX4_run 420 = .ok (.aload_n 0, 1) := by decide +kernel
theorem dX4_run_421 : decode cX4_run 421 = .ok (.aload_n 0, 1) := by decide +kernel
theorem dX4_run_422 : decode cX4_run 422 = .ok (.getfield 78, 3) := by decide +kernel
theorem dX4_run_425 : decode cX4_run 425 = .ok (.putfield 136, 3) := by decide +kernel
theorem dX4_run_428 : decode cX4_run 428 = .ok (.lload 6, 2) := by decide +kernel
theorem dX4_run_430 : decode cX4_run 430 = .ok (.l2i, 1) := by decide +kernel
theorem dX4_run_431 : decode cX4_run 431 = .ok (.ireturn, 1) := by decide +kernel
theorem dX4_greatest_0 : decode cX4_greatest 0 = .ok (.aload_n 0, 1) := by decide +kernel
theorem dX4_greatest_1 : decode cX4_greatest 1 = .ok (.getfield 132, 3) := by decide +kernel
theorem dX4_greatest_4 : decode cX4_greatest 4 = .ok (.ireturn, 1) := by decide +kernel
set_option maxRecDepth 20000 in
theorem ggX4_isWalked_X4_isPing : GoodIn wsX4_isWalked wsX4_isPing := goodIn_r _ [6] (by decide +kernel) (by decide +kernel)
set_option maxRecDepth 20000 in
theorem gX4_isWalked_X4_isPing : GoodIn wsX4_isWalked (va_wsS RX4 65 yX4_isPing wsX4_isPing) := goodIn_app (goodIn_of _ (by decide +kernel)) ggX4_isWalked_X4_isPing
theorem dX4_isWalked_0 : decode cX4_isWalked 0 = .ok (.aload_n 0, 1) := by decide +kernel
theorem dX4_isWalked_1 : decode cX4_isWalked 1 = .ok (.getfield 132, 3) := by decide +kernel
theorem dX4_isWalked_4 : decode cX4_isWalked 4 = .ok (.ifCond .eq 24, 3) := by decide +kernel
theorem dX4_isWalked_7 : decode cX4_isWalked 7 = .ok (.iload_n 1, 1) := by decide +kernel
theorem dX4_isWalked_8 : decode cX4_isWalked 8 = .ok (.invokestatic 65, 3) := by decide +kernel
theorem dX4_isWalked_11 : decode cX4_isWalked 11 = .ok (.ifCond .eq 17, 3) := by decide +kernel
theorem dX4_isWalked_14 : decode cX4_isWalked 14 = .ok (.aload_n 0, 1) := by decide +kernel
theorem dX4_isWalked_15 : decode cX4_isWalked 15 = .ok (.getfield 44, 3) := by decide +kernel
theorem dX4_isWalked_18 : decode cX4_isWalked 18 = .ok (.iload_n 1, 1) := by decide +kernel
theorem dX4_isWalked_19 : decode cX4_isWalked 19 = .ok (.iaload, 1) := by decide +kernel
theorem dX4_isWalked_20 : decode cX4_isWalked 20 = .ok (.iconst (-1), 1) := by decide +kernel
theorem dX4_isWalked_21 : decode cX4_isWalked 21 = .ok (.if_icmp .eq 7, 3) := by decide +kernel
theorem dX4_isWalked_24 : decode cX4_isWalked 24 = .ok (.iconst 1, 1) := by decide +kernel
theorem dX4_isWalked_25 : decode cX4_isWalked 25 = .ok (.goto 4, 3) := by decide +kernel
theorem dX4_isWalked_28 : decode cX4_isWalked 28 = .ok (.iconst 0, 1) := by decide +kernel
theorem dX4_isWalked_29 : decode cX4_isWalked 29 = .ok (.ireturn, 1) := by decide +kernel
set_option maxRecDepth 20000 in
theorem ggX4_walkedDepth_X4_range : GoodIn wsX4_walkedDepth wsX4_range := goodIn_r _ [8, 9, 10, 11, 12, 13, 14, 15, 16, 17, 18, 19, 20, 21, 22, 23, 24, 25, 26, 27, 28, 29, 30, 31, 32, 33] (by decide +kernel) (by decide +kernel)
set_option maxRecDepth 20000 in
theorem gX4_walkedDepth_X4_range : GoodIn wsX4_walkedDepth (wsV RX4 102 RX4 yX4_range wsX4_range) := goodIn_app (goodIn_of _ (by decide +kernel)) ggX4_walkedDepth_X4_range
theorem dX4_walkedDepth_0 : decode cX4_walkedDepth 0 = .ok (.aload_n 0, 1) := by decide +kernel
theorem dX4_walkedDepth_1 : decode cX4_walkedDepth 1 = .ok (.getfield 20, 3) := by decide +kernel
theorem dX4_walkedDepth_4 : decode cX4_walkedDepth 4 = .ok (.iload_n 1, 1) := by decide +kernel
theorem dX4_walkedDepth_5 : decode cX4_walkedDepth 5 = .ok (.baload, 1) := by decide +kernel
theorem dX4_walkedDepth_6 : decode cX4_walkedDepth 6 = .ok (.ifCond .eq 12, 3) := by decide +kernel
theorem dX4_walkedDepth_9 : decode cX4_walkedDepth 9 = .ok (.aload_n 0, 1) := by decide +kernel
theorem dX4_walkedDepth_10 : decode cX4_walkedDepth 10 = .ok (.getfield 23, 3) := by decide +kernel
theorem dX4_walkedDepth_13 : decode cX4_walkedDepth 13 = .ok (.iload_n 1, 1) := by decide +kernel
theorem dX4_walkedDepth_14 : decode cX4_walkedDepth 14 = .ok (.daload, 1) := by decide +kernel
theorem dX4_walkedDepth_15 : decode cX4_walkedDepth 15 = .ok (.goto 13, 3) := by decide +kernel
theorem dX4_walkedDepth_18 : decode cX4_walkedDepth 18 = .ok (.aload_n 0, 1) := by decide +kernel
theorem dX4_walkedDepth_19 : decode cX4_walkedDepth 19 = .ok (.aload_n 0, 1) := by decide +kernel
theorem dX4_walkedDepth_20 : decode cX4_walkedDepth 20 = .ok (.getfield 44, 3) := by decide +kernel
theorem dX4_walkedDepth_23 : decode cX4_walkedDepth 23 = .ok (.iload_n 1, 1) := by decide +kernel
theorem dX4_walkedDepth_24 : decode cX4_walkedDepth 24 = .ok (.iaload, 1) := by decide +kernel
theorem dX4_walkedDepth_25 : decode cX4_walkedDepth 25 = .ok (.invokevirtual 102, 3) := by decide +kernel
theorem dX4_walkedDepth_28 : decode cX4_walkedDepth 28 = .ok (.dreturn, 1) := by decide +kernel
set_option maxRecDepth 20000 in
theorem ggX4_neighbour_X4_isPing : GoodIn wsX4_neighbour wsX4_isPing := goodIn_r _ [4] (by decide +kernel) (by decide +kernel)
set_option maxRecDepth 20000 in
theorem gX4_neighbour_X4_isPing : GoodIn wsX4_neighbour (va_wsS RX4 65 yX4_isPing wsX4_isPing) := goodIn_app (goodIn_of _ (by decide +kernel)) ggX4_neighbour_X4_isPing
set_option maxRecDepth 20000 in
theorem ggX4_neighbour_X4_isWalked : GoodIn wsX4_neighbour wsX4_isWalked := goodIn_r _ [8, 9, 10, 1, 2, 3, 4, 11, 12, 13, 14, 15, 16, 17, 18, 19, 20, 21, 22, 23, 24, 25, 26, 27, 28, 29, 30, 31, 32, 33, 34] (by decide +kernel) (by decide +kernel)
set_option maxRecDepth 20000 in
theorem gX4_neighbour_X4_isWalked : GoodIn wsX4_neighbour (wsV RX4 139 RX4 yX4_isWalked wsX4_isWalked) := goodIn_app (goodIn_of _ (by decide +kernel)) ggX4_neighbour_X4_isWalked
theorem dX4_neighbour_0 : decode cX4_neighbour 0 = .ok (.iload_n 1, 1) := by decide +kernel
theorem dX4_neighbour_1 : decode cX4_neighbour 1 = .ok (.iload_n 2, 1) := by decide +kernel
theorem dX4_neighbour_2 : decode cX4_neighbour 2 = .ok (.iadd, 1) := by decide +kernel
theorem dX4_neighbour_3 : decode cX4_neighbour 3 = .ok (.istore_n 3, 1) := by decide +kernel
theorem dX4_neighbour_4 : decode cX4_neighbour 4 = .ok (.iload_n 3, 1) := by decide +kernel
theorem dX4_neighbour_5 : decode cX4_neighbour 5 = .ok (.invokestatic 65, 3) := by decide +kernel
theorem dX4_neighbour_8 : decode cX4_neighbour 8 = .ok (.ifCond .eq 18, 3) := by decide +kernel
theorem dX4_neighbour_11 : decode cX4_neighbour 11 = .ok (.aload_n 0, 1) := by decide +kernel
theorem dX4_neighbour_12 : decode cX4_neighbour 12 = .ok (.iload_n 3, 1) := by decide +kernel
theorem dX4_neighbour_13 : decode cX4_neighbour 13 = .ok (.invokevirtual 139, 3) := by decide +kernel
theorem dX4_neighbour_16 : decode cX4_neighbour 16 = .ok (.ifCond .ne 10, 3) := by decide +kernel
theorem dX4_neighbour_19 : decode cX4_neighbour 19 = .ok (.iload_n 3, 1) := by decide +kernel
theorem dX4_neighbour_20 : decode cX4_neighbour 20 = .ok (.iload_n 2, 1) := by decide +kernel
theorem dX4_neighbour_21 : decode cX4_neighbour 21 = .ok (.iadd, 1) := by decide +kernel
theorem dX4_neighbour_22 : decode cX4_neighbour 22 = .ok (.istore_n 3, 1) := by decide +kernel
theorem dX4_neighbour_23 : decode cX4_neighbour 23 = .ok (.goto (-19), 3) := by decide +kernel
theorem dX4_neighbour_26 : decode cX4_neighbour 26 = .ok (.iload_n 3, 1) := by decide +kernel
theorem dX4_neighbour_27 : decode cX4_neighbour 27 = .ok (.invokestatic 65, 3) := by decide +kernel
theorem dX4_neighbour_30 : decode cX4_neighbour 30 = .ok (.ifCond .eq 7, 3) := by decide +kernel
theorem dX4_neighbour_33 : decode cX4_neighbour 33 = .ok (.iload_n 3, 1) := by decide +kernel
theorem dX4_neighbour_34 : decode cX4_neighbour 34 = .ok (.goto 4, 3) := by decide +kernel
theorem dX4_neighbour_37 : decode cX4_neighbour 37 = .ok (.iconst (-1), 1) := by decide +kernel
theorem dX4_neighbour_38 : decode cX4_neighbour 38 = .ok (.ireturn, 1) := by decide +kernel
set_option maxRecDepth 20000 in
theorem ggX4_isBridged_X4_isPing : GoodIn wsX4_isBridged wsX4_isPing := goodIn_r _ [5] (by decide +kernel) (by decide +kernel)
set_option maxRecDepth 20000 in
theorem gX4_isBridged_X4_isPing : GoodIn wsX4_isBridged (va_wsS RX4 65 yX4_isPing wsX4_isPing) := goodIn_app (goodIn_of _ (by decide +kernel)) ggX4_isBridged_X4_isPing
set_option maxRecDepth 20000 in
theorem ggX4_isBridged_X4_isWalked : GoodIn wsX4_isBridged wsX4_isWalked := goodIn_r _ [9, 1, 10, 2, 3, 4, 5, 15, 16, 17, 18, 19, 20, 21, 22, 23, 24, 25, 26, 27, 28, 29, 30, 31, 32, 33, 34, 35, 36, 37, 38] (by decide +kernel) (by decide +kernel)
set_option maxRecDepth 20000 in
theorem gX4_isBridged_X4_isWalked : GoodIn wsX4_isBridged (wsV RX4 139 RX4 yX4_isWalked wsX4_isWalked) := goodIn_app (goodIn_of _ (by decide +kernel)) ggX4_isBridged_X4_isWalked
set_option maxRecDepth 20000 in
theorem ggX4_isBridged_X4_neighbour : GoodIn wsX4_isBridged wsX4_neighbour := goodIn_r _ [14, 2, 3, 4, 5, 6, 7, 8, 9, 1, 10, 15, 16, 17, 18, 19, 20, 21, 22, 23, 24, 25, 26, 27, 28, 29, 30, 31, 32, 33, 34, 35, 36, 37, 38] (by decide +kernel) (by decide +kernel)
set_option maxRecDepth 20000 in
theorem gX4_isBridged_X4_neighbour : GoodIn wsX4_isBridged (wsV RX4 142 RX4 yX4_neighbour wsX4_neighbour) := goodIn_app (goodIn_of _ (by decide +kernel)) ggX4_isBridged_X4_neighbour
theorem dX4_isBridged_0 : decode cX4_isBridged 0 = .ok (.aload_n 0, 1) := by decide +kernel
theorem dX4_isBridged_1 : decode cX4_isBridged 1 = .ok (.getfield 132, 3) := by decide +kernel
theorem dX4_isBridged_4 : decode cX4_isBridged 4 = .ok (.ifCond .eq 18, 3) := by decide +kernel
theorem dX4_isBridged_7 : decode cX4_isBridged 7 = .ok (.iload_n 1, 1) := by decide +kernel
theorem dX4_isBridged_8 : decode cX4_isBridged 8 = .ok (.invokestatic 65, 3) := by decide +kernel
theorem dX4_isBridged_11 : decode cX4_isBridged 11 = .ok (.ifCond .eq 11, 3) := by decide +kernel
theorem dX4_isBridged_14 : decode cX4_isBridged 14 = .ok (.aload_n 0, 1) := by decide +kernel
theorem dX4_isBridged_15 : decode cX4_isBridged 15 = .ok (.iload_n 1, 1) := by decide +kernel
theorem dX4_isBridged_16 : decode cX4_isBridged 16 = .ok (.invokevirtual 139, 3) := by decide +kernel
theorem dX4_isBridged_19 : decode cX4_isBridged 19 = .ok (.ifCond .eq 5, 3) := by decide +kernel
theorem dX4_isBridged_22 : decode cX4_isBridged 22 = .ok (.iconst 0, 1) := by decide +kernel
theorem dX4_isBridged_23 : decode cX4_isBridged 23 = .ok (.ireturn, 1) := by decide +kernel
theorem dX4_isBridged_24 : decode cX4_isBridged 24 = .ok (.aload_n 0, 1) := by decide +kernel
theorem dX4_isBridged_25 : decode cX4_isBridged 25 = .ok (.iload_n 1, 1) := by decide +kernel
theorem dX4_isBridged_26 : decode cX4_isBridged 26 = .ok (.iconst (-1), 1) := by decide +kernel
theorem dX4_isBridged_27 : decode cX4_isBridged 27 = .ok (.invokevirtual 142, 3) := by decide +kernel
theorem dX4_isBridged_30 : decode cX4_isBridged 30 = .ok (.istore_n 2, 1) := by decide +kernel
theorem dX4_isBridged_31 : decode cX4_isBridged 31 = .ok (.aload_n 0, 1) := by decide +kernel
theorem dX4_isBridged_32 : decode cX4_isBridged 32 = .ok (.iload_n 1, 1) := by decide +kernel
theorem dX4_isBridged_33 : decode cX4_isBridged 33 = .ok (.iconst 1, 1) := by decide +kernel
theorem dX4_isBridged_34 : decode cX4_isBridged 34 = .ok (.invokevirtual 142, 3) := by decide +kernel
theorem dX4_isBridged_37 : decode cX4_isBridged 37 = .ok (.istore_n 3, 1) := by decide +kernel
theorem dX4_isBridged_38 : decode cX4_isBridged 38 = .ok (.iload_n 2, 1) := by decide +kernel
theorem dX4_isBridged_39 : decode cX4_isBridged 39 = .ok (.iconst (-1), 1) := by decide +kernel
theorem dX4_isBridged_40 : decode cX4_isBridged 40 = .ok (.if_icmp .eq 19, 3) := by decide +kernel
theorem dX4_isBridged_43 : decode cX4_isBridged 43 = .ok (.iload_n 3, 1) := by decide +kernel
theorem dX4_isBridged_44 : decode cX4_isBridged 44 = .ok (.iconst (-1), 1) := by decide +kernel
theorem dX4_isBridged_45 : decode cX4_isBridged 45 = .ok (.if_icmp .eq 14, 3) := by decide +kernel
theorem dX4_isBridged_48 : decode cX4_isBridged 48 = .ok (.iload_n 3, 1) := by decide +kernel
theorem dX4_isBridged_49 : decode cX4_isBridged 49 = .ok (.iload_n 2, 1) := by decide +kernel
theorem dX4_isBridged_50 : decode cX4_isBridged 50 = .ok (.isub, 1) := by decide +kernel
theorem dX4_isBridged_51 : decode cX4_isBridged 51 = .ok (.iconst 4, 1) := by decide +kernel
theorem dX4_isBridged_52 : decode cX4_isBridged 52 = .ok (.if_icmp .gt 7, 3) := by decide +kernel
theorem dX4_isBridged_55 : decode cX4_isBridged 55 = .ok (.iconst 1, 1) := by decide +kernel
theorem dX4_isBridged_56 : decode cX4_isBridged 56 = .ok (.goto 4, 3) := by decide +kernel
theorem dX4_isBridged_59 : decode cX4_isBridged 59 = .ok (.iconst 0, 1) := by decide +kernel
theorem dX4_isBridged_60 : decode cX4_isBridged 60 = .ok (.ireturn, 1) := by decide +kernel
set_option maxRecDepth 20000 in
theorem ggX4_hasBottom_X4_isWalked : GoodIn wsX4_hasBottom wsX4_isWalked := goodIn_r _ [5, 6, 7, 8, 9, 4, 10, 19, 20, 21, 22, 23, 24, 25, 26, 27, 28, 29, 30, 31, 32, 33, 34, 35, 36, 37, 38, 39, 40, 41, 42] (by decide +kernel) (by decide +kernel)
set_option maxRecDepth 20000 in
theorem gX4_hasBottom_X4_isWalked : GoodIn wsX4_hasBottom (wsV RX4 139 RX4 yX4_isWalked wsX4_isWalked) := goodIn_app (goodIn_of _ (by decide +kernel)) ggX4_hasBottom_X4_isWalked
set_option maxRecDepth 20000 in
theorem ggX4_hasBottom_X4_isBridged : GoodIn wsX4_hasBottom wsX4_isBridged := goodIn_r _ [14, 6, 8, 9, 4, 10, 1, 2, 3, 5, 7, 15, 16, 17, 18, 19, 20, 21, 22, 23, 24, 25, 26, 27, 28, 29, 30, 31, 32, 33, 34, 35, 36, 37, 38, 39, 40, 41, 42] (by decide +kernel) (by decide +kernel)
set_option maxRecDepth 20000 in
theorem gX4_hasBottom_X4_isBridged : GoodIn wsX4_hasBottom (wsV RX4 146 RX4 yX4_isBridged wsX4_isBridged) := goodIn_app (goodIn_of _ (by decide +kernel)) ggX4_hasBottom_X4_isBridged
theorem dX4_hasBottom_0 : decode cX4_hasBottom 0 = .ok (.aload_n 0, 1) := by decide +kernel
theorem dX4_hasBottom_1 : decode cX4_hasBottom 1 = .ok (.iload_n 1, 1) := by decide +kernel
theorem dX4_hasBottom_2 : decode cX4_hasBottom 2 = .ok (.invokevirtual 139, 3) := by decide +kernel
theorem dX4_hasBottom_5 : decode cX4_hasBottom 5 = .ok (.ifCond .ne 11, 3) := by decide +kernel
theorem dX4_hasBottom_8 : decode cX4_hasBottom 8 = .ok (.aload_n 0, 1) := by decide +kernel
theorem dX4_hasBottom_9 : decode cX4_hasBottom 9 = .ok (.iload_n 1, 1) := by decide +kernel
theorem dX4_hasBottom_10 : decode cX4_hasBottom 10 = .ok (.invokevirtual 146, 3) := by decide +kernel
theorem dX4_hasBottom_13 : decode cX4_hasBottom 13 = .ok (.ifCond .eq 7, 3) := by decide +kernel
theorem dX4_hasBottom_16 : decode cX4_hasBottom 16 = .ok (.iconst 1, 1) := by decide +kernel
theorem dX4_hasBottom_17 : decode cX4_hasBottom 17 = .ok (.goto 4, 3) := by decide +kernel
theorem dX4_hasBottom_20 : decode cX4_hasBottom 20 = .ok (.iconst 0, 1) := by decide +kernel
theorem dX4_hasBottom_21 : decode cX4_hasBottom 21 = .ok (.ireturn, 1) := by decide +kernel
set_option maxRecDepth 20000 in
theorem ggX4_plainBottom_X4_isWalked : GoodIn wsX4_plainBottom wsX4_isWalked := goodIn_r _ [5, 6, 7, 8, 9, 4, 10, 26, 27, 28, 29, 30, 31, 32, 33, 34, 35, 36, 37, 38, 39, 40, 41, 42, 43, 44, 45, 46, 47, 48, 49] (by decide +kernel) (by decide +kernel)
set_option maxRecDepth 20000 in
theorem gX4_plainBottom_X4_isWalked : GoodIn wsX4_plainBottom (wsV RX4 139 RX4 yX4_isWalked wsX4_isWalked) := goodIn_app (goodIn_of _ (by decide +kernel)) ggX4_plainBottom_X4_isWalked
set_option maxRecDepth 20000 in
theorem ggX4_plainBottom_X4_walkedDepth : GoodIn wsX4_plainBottom wsX4_walkedDepth := goodIn_r _ [14, 15, 16, 7, 17, 18, 19, 4, 20, 21, 26, 27, 28, 29, 30, 31, 32, 33, 34, 35, 36, 37, 38, 39, 40, 41, 42, 43, 44, 45, 46, 47, 48, 49] (by decide +kernel) (by decide +kernel)
set_option maxRecDepth 20000 in
theorem gX4_plainBottom_X4_walkedDepth : GoodIn wsX4_plainBottom (wsV RX4 149 RX4 yX4_walkedDepth wsX4_walkedDepth) := goodIn_app (goodIn_of _ (by decide +kernel)) ggX4_plainBottom_X4_walkedDepth
set_option maxRecDepth 20000 in
theorem ggX4_plainBottom_X4_neighbour : GoodIn wsX4_plainBottom wsX4_neighbour := goodIn_r _ [25, 8, 9, 4, 10, 1, 2, 3, 5, 6, 7, 26, 27, 28, 29, 30, 31, 32, 33, 34, 35, 36, 37, 38, 39, 40, 41, 42, 43, 44, 45, 46, 47, 48, 49] (by decide +kernel) (by decide +kernel)
set_option maxRecDepth 20000 in
theorem gX4_plainBottom_X4_neighbour : GoodIn wsX4_plainBottom (wsV RX4 142 RX4 yX4_neighbour wsX4_neighbour) := goodIn_app (goodIn_of _ (by decide +kernel)) ggX4_plainBottom_X4_neighbour
theorem dX4_plainBottom_0 : decode cX4_plainBottom 0 = .ok (.aload_n 0, 1) := by decide +kernel
theorem dX4_plainBottom_1 : decode cX4_plainBottom 1 = .ok (.iload_n 1, 1) := by decide +kernel
theorem dX4_plainBottom_2 : decode cX4_plainBottom 2 = .ok (.invokevirtual 139, 3) := by decide +kernel
theorem dX4_plainBottom_5 : decode cX4_plainBottom 5 = .ok (.ifCond .eq 9, 3) := by decide +kernel
theorem dX4_plainBottom_8 : decode cX4_plainBottom 8 = .ok (.aload_n 0, 1) := by decide +kernel
theorem dX4_plainBottom_9 : decode cX4_plainBottom 9 = .ok (.iload_n 1, 1) := by decide +kernel
theorem dX4_plainBottom_10 : decode cX4_plainBottom 10 = .ok (.invokevirtual 149, 3) := by decide +kernel
theorem dX4_plainBottom_13 : decode cX4_plainBottom 13 = .ok (.dreturn, 1) := by decide +kernel
theorem dX4_plainBottom_14 : decode cX4_plainBottom 14 = .ok (.aload_n 0, 1) := by decide +kernel
theorem dX4_plainBottom_15 : decode cX4_plainBottom 15 = .ok (.iload_n 1, 1) := by decide +kernel
theorem dX4_plainBottom_16 : decode cX4_plainBottom 16 = .ok (.iconst (-1), 1) := by decide +kernel
theorem dX4_plainBottom_17 : decode cX4_plainBottom 17 = .ok (.invokevirtual 142, 3) := by decide +kernel
theorem dX4_plainBottom_20 : decode cX4_plainBottom 20 = .ok (.istore_n 2, 1) := by decide +kernel
theorem dX4_plainBottom_21 : decode cX4_plainBottom 21 = .ok (.aload_n 0, 1) := by decide +kernel
theorem dX4_plainBottom_22 : decode cX4_plainBottom 22 = .ok (.iload_n 1, 1) := by decide +kernel
theorem dX4_plainBottom_23 : decode cX4_plainBottom 23 = .ok (.iconst 1, 1) := by decide +kernel
theorem dX4_plainBottom_24 : decode cX4_plainBottom 24 = .ok (.invokevirtual 142, 3) := by decide +kernel
theorem dX4_plainBottom_27 : decode cX4_plainBottom 27 = .ok (.istore_n 3, 1) := by decide +kernel
theorem dX4_plainBottom_28 : decode cX4_plainBottom 28 = .ok (.aload_n 0, 1) := by decide +kernel
theorem dX4_plainBottom_29 : decode cX4_plainBottom 29 = .ok (.iload_n 2, 1) := by decide +kernel
theorem dX4_plainBottom_30 : decode cX4_plainBottom 30 = .ok (.invokevirtual 149, 3) := by decide +kernel
theorem dX4_plainBottom_33 : decode cX4_plainBottom 33 = .ok (.dstore 4, 2) := by decide +kernel
theorem dX4_plainBottom_35 : decode cX4_plainBottom 35 = .ok (.aload_n 0, 1) := by decide +kernel
theorem dX4_plainBottom_36 : decode cX4_plainBottom 36 = .ok (.iload_n 3, 1) := by decide +kernel
theorem dX4_plainBottom_37 : decode cX4_plainBottom 37 = .ok (.invokevirtual 149, 3) := by decide +kernel
theorem dX4_plainBottom_40 : decode cX4_plainBottom 40 = .ok (.dstore 6, 2) := by decide +kernel
theorem dX4_plainBottom_42 : decode cX4_plainBottom 42 = .ok (.iload_n 1, 1) := by decide +kernel
theorem dX4_plainBottom_43 : decode cX4_plainBottom 43 = .ok (.iload_n 2, 1) := by decide +kernel
theorem dX4_plainBottom_44 : decode cX4_plainBottom 44 = .ok (.isub, 1) := by decide +kernel
theorem dX4_plainBottom_45 : decode cX4_plainBottom 45 = .ok (.istore 8, 2) := by decide +kernel
theorem dX4_plainBottom_47 : decode cX4_plainBottom 47 = .ok (.iload_n 3, 1) := by decide +kernel
theorem dX4_plainBottom_48 : decode cX4_plainBottom 48 = .ok (.iload_n 2, 1) := by decide +kernel
theorem dX4_plainBottom_49 : decode cX4_plainBottom 49 = .ok (.isub, 1) := by decide +kernel
theorem dX4_plainBottom_50 : decode cX4_plainBottom 50 = .ok (.istore 9, 2) := by decide +kernel
theorem dX4_plainBottom_52 : decode cX4_plainBottom 52 = .ok (.dload 4, 2) := by decide +kernel
theorem dX4_plainBottom_54 : decode cX4_plainBottom 54 = .ok (.dload 6, 2) := by decide +kernel
theorem dX4_plainBottom_56 : decode cX4_plainBottom 56 = .ok (.dload 4, 2) := by decide +kernel
theorem dX4_plainBottom_58 : decode cX4_plainBottom 58 = .ok (.dsub, 1) := by decide +kernel
theorem dX4_plainBottom_59 : decode cX4_plainBottom 59 = .ok (.iload 8, 2) := by decide +kernel
theorem dX4_plainBottom_61 : decode cX4_plainBottom 61 = .ok (.i2d, 1) := by decide +kernel
theorem dX4_plainBottom_62 : decode cX4_plainBottom 62 = .ok (.dmul, 1) := by decide +kernel
theorem dX4_plainBottom_63 : decode cX4_plainBottom 63 = .ok (.iload 9, 2) := by decide +kernel
theorem dX4_plainBottom_65 : decode cX4_plainBottom 65 = .ok (.i2d, 1) := by decide +kernel
theorem dX4_plainBottom_66 : decode cX4_plainBottom 66 = .ok (.ddiv, 1) := by decide +kernel
theorem dX4_plainBottom_67 : decode cX4_plainBottom 67 = .ok (.dadd, 1) := by decide +kernel
theorem dX4_plainBottom_68 : decode cX4_plainBottom 68 = .ok (.dreturn, 1) := by decide +kernel
set_option maxRecDepth 20000 in
theorem ggX4_bottom_X4_hasBottom : GoodIn wsX4_bottom wsX4_hasBottom := goodIn_r _ [7, 8, 9, 10, 6, 11, 12, 13, 14, 15, 16, 17, 18, 19, 20, 21, 22, 23, 24, 40, 41, 42, 43, 44, 45, 46, 47, 48, 49, 50, 51, 52, 53, 54, 55, 56, 57, 58, 59, 60, 61, 62, 63] (by decide +kernel) (by decide +kernel)
set_option maxRecDepth 20000 in
theorem gX4_bottom_X4_hasBottom : GoodIn wsX4_bottom (wsV RX4 152 RX4 yX4_hasBottom wsX4_hasBottom) := goodIn_app (goodIn_of _ (by decide +kernel)) ggX4_bottom_X4_hasBottom
set_option maxRecDepth 20000 in
theorem ggX4_bottom_X4_plainBottom : GoodIn wsX4_bottom wsX4_plainBottom := goodIn_r _ [28, 8, 9, 10, 6, 11, 12, 13, 14, 15, 16, 29, 30, 31, 32, 33, 34, 35, 36, 37, 38, 39, 21, 22, 23, 24, 40, 41, 42, 43, 44, 45, 46, 47, 48, 49, 50, 51, 52, 53, 54, 55, 56, 57, 58, 59, 60, 61, 62, 63] (by decide +kernel) (by decide +kernel)
set_option maxRecDepth 20000 in
theorem gX4_bottom_X4_plainBottom : GoodIn wsX4_bottom (wsV RX4 155 RX4 yX4_plainBottom wsX4_plainBottom) := goodIn_app (goodIn_of _ (by decide +kernel)) ggX4_bottom_X4_plainBottom
theorem dX4_bottom_0 : decode cX4_bottom 0 = .ok (.aload_n 0, 1) := by decide +kernel
theorem dX4_bottom_1 : decode cX4_bottom 1 = .ok (.iload_n 1, 1) := by decide +kernel
theorem dX4_bottom_2 : decode cX4_bottom 2 = .ok (.invokevirtual 152, 3) := by decide +kernel
theorem dX4_bottom_5 : decode cX4_bottom 5 = .ok (.ifCond .eq 18, 3) := by decide +kernel
theorem dX4_bottom_8 : decode cX4_bottom 8 = .ok (.aload_n 0, 1) := by decide +kernel
theorem dX4_bottom_9 : decode cX4_bottom 9 = .ok (.iload_n 1, 1) := by decide +kernel
theorem dX4_bottom_10 : decode cX4_bottom 10 = .ok (.invokevirtual 155, 3) := by decide +kernel
theorem dX4_bottom_13 : decode cX4_bottom 13 = .ok (.aload_n 0, 1) := by decide +kernel
theorem dX4_bottom_14 : decode cX4_bottom 14 = .ok (.getfield 26, 3) := by decide +kernel
theorem dX4_bottom_17 : decode cX4_bottom 17 = .ok (.iload_n 1, 1) := by decide +kernel
theorem dX4_bottom_18 : decode cX4_bottom 18 = .ok (.daload, 1) := by decide +kernel
theorem dX4_bottom_19 : decode cX4_bottom 19 = .ok (.dadd, 1) := by decide +kernel
theorem dX4_bottom_20 : decode cX4_bottom 20 = .ok (.goto 6, 3) := by decide +kernel
theorem dX4_bottom_23 : decode cX4_bottom 23 = .ok (.ldc2_w 158, 3) := by decide +kernel
theorem dX4_bottom_26 : decode cX4_bottom 26 = .ok (.dreturn, 1) := by decide +kernel
set_option maxRecDepth 20000 in
theorem ggX4_bridged_X4_isBridged : GoodIn wsX4_bridged wsX4_isBridged := goodIn_r _ [5, 6, 7, 8, 4, 9, 10, 11, 12, 13, 14, 15, 16, 17, 18, 19, 20, 21, 22, 23, 24, 25, 26, 27, 28, 29, 30, 31, 32, 33, 34, 35, 36, 37, 38, 39, 40, 41, 42] (by decide +kernel) (by decide +kernel)
set_option maxRecDepth 20000 in
theorem gX4_bridged_X4_isBridged : GoodIn wsX4_bridged (wsV RX4 146 RX4 yX4_isBridged wsX4_isBridged) := goodIn_app (goodIn_of _ (by decide +kernel)) ggX4_bridged_X4_isBridged
theorem dX4_bridged_0 : decode cX4_bridged 0 = .ok (.iconst 0, 1) := by decide +kernel
theorem dX4_bridged_1 : decode cX4_bridged 1 = .ok (.istore_n 2, 1) := by decide +kernel
theorem dX4_bridged_2 : decode cX4_bridged 2 = .ok (.iconst 0, 1) := by decide +kernel
theorem dX4_bridged_3 : decode cX4_bridged 3 = .ok (.istore_n 3, 1) := by decide +kernel
theorem dX4_bridged_4 : decode cX4_bridged 4 = .ok (.iload_n 3, 1) := by decide +kernel
theorem dX4_bridged_5 : decode cX4_bridged 5 = .ok (.bipush 32, 2) := by decide +kernel
theorem dX4_bridged_7 : decode cX4_bridged 7 = .ok (.if_icmp .ge 27, 3) := by decide +kernel
theorem dX4_bridged_10 : decode cX4_bridged 10 = .ok (.aload_n 0, 1) := by decide +kernel
theorem dX4_bridged_11 : decode cX4_bridged 11 = .ok (.iload_n 3, 1) := by decide +kernel
theorem dX4_bridged_12 : decode cX4_bridged 12 = .ok (.invokevirtual 146, 3) := by decide +kernel
theorem dX4_bridged_15 : decode cX4_bridged 15 = .ok (.ifCond .eq 13, 3) := by decide +kernel
theorem dX4_bridged_18 : decode cX4_bridged 18 = .ok (.iload_n 2, 1) := by decide +kernel
theorem dX4_bridged_19 : decode cX4_bridged 19 = .ok (.iload_n 1, 1) := by decide +kernel
theorem dX4_bridged_20 : decode cX4_bridged 20 = .ok (.if_icmp .ne 5, 3) := by decide +kernel
theorem dX4_bridged_23 : decode cX4_bridged 23 = .ok (.iload_n 3, 1) := by decide +kernel
theorem dX4_bridged_24 : decode cX4_bridged 24 = .ok (.ireturn, 1) := by decide +kernel
theorem dX4_bridged_25 : decode cX4_bridged 25 = .ok (.iinc 2 1, 3) := by decide +kernel
theorem dX4_bridged_28 : decode cX4_bridged 28 = .ok (.iinc 3 1, 3) := by decide +kernel
theorem dX4_bridged_31 : decode cX4_bridged 31 = .ok (.goto (-27), 3) := by decide +kernel
theorem dX4_bridged_34 : decode cX4_bridged 34 = .ok (.iconst (-1), 1) := by decide +kernel
theorem dX4_bridged_35 : decode cX4_bridged 35 = .ok (.ireturn, 1) := by decide +kernel
set_option maxRecDepth 20000 in
theorem ggX4_dead_X4_hasBottom : GoodIn wsX4_dead wsX4_hasBottom := goodIn_r _ [9, 10, 11, 12, 8, 13, 14, 15, 16, 17, 18, 19, 20, 21, 22, 23, 24, 25, 26, 41, 42, 43, 44, 45, 46, 47, 48, 49, 50, 51, 52, 53, 54, 55, 56, 57, 58, 59, 60, 61, 62, 63, 64] (by decide +kernel) (by decide +kernel)
set_option maxRecDepth 20000 in
theorem gX4_dead_X4_hasBottom : GoodIn wsX4_dead (wsV RX4 152 RX4 yX4_hasBottom wsX4_hasBottom) := goodIn_app (goodIn_of _ (by decide +kernel)) ggX4_dead_X4_hasBottom
set_option maxRecDepth 20000 in
theorem ggX4_dead_X4_plainBottom : GoodIn wsX4_dead wsX4_plainBottom := goodIn_r _ [30, 10, 11, 12, 8, 13, 14, 15, 16, 17, 18, 31, 32, 33, 34, 35, 36, 37, 38, 39, 40, 2, 23, 24, 25, 26, 41, 42, 43, 44, 45, 46, 47, 48, 49, 50, 51, 52, 53, 54, 55, 56, 57, 58, 59, 60, 61, 62, 63, 64] (by decide +kernel) (by decide +kernel)
set_option maxRecDepth 20000 in
theorem gX4_dead_X4_plainBottom : GoodIn wsX4_dead (wsV RX4 155 RX4 yX4_plainBottom wsX4_plainBottom) := goodIn_app (goodIn_of _ (by decide +kernel)) ggX4_dead_X4_plainBottom
theorem dX4_dead_0 : decode cX4_dead 0 = .ok (.aload_n 0, 1) := by decide +kernel
theorem dX4_dead_1 : decode cX4_dead 1 = .ok (.iload_n 1, 1) := by decide +kernel
theorem dX4_dead_2 : decode cX4_dead 2 = .ok (.invokevirtual 152, 3) := by decide +kernel
theorem dX4_dead_5 : decode cX4_dead 5 = .ok (.ifCond .eq 24, 3) := by decide +kernel
theorem dX4_dead_8 : decode cX4_dead 8 = .ok (.ldc2_w 160, 3) := by decide +kernel
theorem dX4_dead_11 : decode cX4_dead 11 = .ok (.aload_n 0, 1) := by decide +kernel
theorem dX4_dead_12 : decode cX4_dead 12 = .ok (.getfield 61, 3) := by decide +kernel
theorem dX4_dead_15 : decode cX4_dead 15 = .ok (.dmul, 1) := by decide +kernel
theorem dX4_dead_16 : decode cX4_dead 16 = .ok (.ldc2_w 162, 3) := by decide +kernel
theorem dX4_dead_19 : decode cX4_dead 19 = .ok (.aload_n 0, 1) := by decide +kernel
theorem dX4_dead_20 : decode cX4_dead 20 = .ok (.iload_n 1, 1) := by decide +kernel
theorem dX4_dead_21 : decode cX4_dead 21 = .ok (.invokevirtual 155, 3) := by decide +kernel
theorem dX4_dead_24 : decode cX4_dead 24 = .ok (.dmul, 1) := by decide +kernel
theorem dX4_dead_25 : decode cX4_dead 25 = .ok (.dadd, 1) := by decide +kernel
theorem dX4_dead_26 : decode cX4_dead 26 = .ok (.goto 6, 3) := by decide +kernel
theorem dX4_dead_29 : decode cX4_dead 29 = .ok (.ldc2_w 158, 3) := by decide +kernel
theorem dX4_dead_32 : decode cX4_dead 32 = .ok (.dreturn, 1) := by decide +kernel
set_option maxRecDepth 20000 in
theorem ggX4_surface_X4_isPing : GoodIn wsX4_surface wsX4_isPing := goodIn_r _ [9] (by decide +kernel) (by decide +kernel)
set_option maxRecDepth 20000 in
theorem gX4_surface_X4_isPing : GoodIn wsX4_surface (va_wsS RX4 65 yX4_isPing wsX4_isPing) := goodIn_app (goodIn_of _ (by decide +kernel)) ggX4_surface_X4_isPing
set_option maxRecDepth 20000 in
theorem ggX4_surface_X4_strength : GoodIn wsX4_surface wsX4_strength := goodIn_r _ [13, 14, 15, 16, 17, 18, 19, 20, 21, 22, 23, 8, 24, 5, 25, 26, 27, 28, 29, 30, 31, 32, 33, 34, 35, 36, 37, 38, 39, 40, 41, 42, 43, 44, 45, 46, 47, 48] (by decide +kernel) (by decide +kernel)
set_option maxRecDepth 20000 in
theorem gX4_surface_X4_strength : GoodIn wsX4_surface (wsV RX4 129 RX4 yX4_strength wsX4_strength) := goodIn_app (goodIn_of _ (by decide +kernel)) ggX4_surface_X4_strength
theorem dX4_surface_0 : decode cX4_surface 0 = .ok (.iload_n 1, 1) := by decide +kernel
theorem dX4_surface_1 : decode cX4_surface 1 = .ok (.invokestatic 65, 3) := by decide +kernel
theorem dX4_surface_4 : decode cX4_surface 4 = .ok (.ifCond .ne 7, 3) := by decide +kernel
theorem dX4_surface_7 : decode cX4_surface 7 = .ok (.ldc2_w 158, 3) := by decide +kernel
theorem dX4_surface_10 : decode cX4_surface 10 = .ok (.dreturn, 1) := by decide +kernel
theorem dX4_surface_11 : decode cX4_surface 11 = .ok (.iconst 0, 1) := by decide +kernel
theorem dX4_surface_12 : decode cX4_surface 12 = .ok (.istore_n 2, 1) := by decide +kernel
theorem dX4_surface_13 : decode cX4_surface 13 = .ok (.iload_n 2, 1) := by decide +kernel
theorem dX4_surface_14 : decode cX4_surface 14 = .ok (.aload_n 0, 1) := by decide +kernel
theorem dX4_surface_15 : decode cX4_surface 15 = .ok (.getfield 55, 3) := by decide +kernel
theorem dX4_surface_18 : decode cX4_surface 18 = .ok (.if_icmp .ge 26, 3) := by decide +kernel
theorem dX4_surface_21 : decode cX4_surface 21 = .ok (.aload_n 0, 1) := by decide +kernel
theorem dX4_surface_22 : decode cX4_surface 22 = .ok (.aload_n 0, 1) := by decide +kernel
theorem dX4_surface_23 : decode cX4_surface 23 = .ok (.getfield 78, 3) := by decide +kernel
theorem dX4_surface_26 : decode cX4_surface 26 = .ok (.iload_n 1, 1) := by decide +kernel
theorem dX4_surface_27 : decode cX4_surface 27 = .ok (.iload_n 2, 1) := by decide +kernel
theorem dX4_surface_28 : decode cX4_surface 28 = .ok (.invokevirtual 129, 3) := by decide +kernel
theorem dX4_surface_31 : decode cX4_surface 31 = .ok (.ldc2_w 164, 3) := by decide +kernel
theorem dX4_surface_34 : decode cX4_surface 34 = .ok (.lcmp, 1) := by decide +kernel
theorem dX4_surface_35 : decode cX4_surface 35 = .ok (.ifCond .lt 9, 3) := by decide +kernel
theorem dX4_surface_38 : decode cX4_surface 38 = .ok (.iinc 2 1, 3) := by decide +kernel
theorem dX4_surface_41 : decode cX4_surface 41 = .ok (.goto (-28), 3) := by decide +kernel
theorem dX4_surface_44 : decode cX4_surface 44 = .ok (.iload_n 2, 1) := by decide +kernel
theorem dX4_surface_45 : decode cX4_surface 45 = .ok (.i2d, 1) := by decide +kernel
theorem dX4_surface_46 : decode cX4_surface 46 = .ok (.aload_n 0, 1) := by decide +kernel
theorem dX4_surface_47 : decode cX4_surface 47 = .ok (.getfield 61, 3) := by decide +kernel
theorem dX4_surface_50 : decode cX4_surface 50 = .ok (.dmul, 1) := by decide +kernel
theorem dX4_surface_51 : decode cX4_surface 51 = .ok (.dreturn, 1) := by decide +kernel
set_option maxRecDepth 20000 in
theorem ggX4_tail_X4_isWalked : GoodIn wsX4_tail wsX4_isWalked := goodIn_r _ [10, 11, 3, 12, 13, 9, 14, 36, 37, 38, 39, 40, 41, 42, 43, 44, 45, 46, 47, 48, 49, 50, 51, 52, 53, 54, 55, 56, 57, 58, 59] (by decide +kernel) (by decide +kernel)
set_option maxRecDepth 20000 in
theorem gX4_tail_X4_isWalked : GoodIn wsX4_tail (wsV RX4 139 RX4 yX4_isWalked wsX4_isWalked) := goodIn_app (goodIn_of _ (by decide +kernel)) ggX4_tail_X4_isWalked
set_option maxRecDepth 20000 in
theorem ggX4_tail_X4_counting : GoodIn wsX4_tail wsX4_counting := goodIn_r _ [18, 4, 19, 20, 21, 22, 9, 23, 24, 36, 37, 38, 39, 40, 41, 42, 43, 44, 45, 46, 47, 48, 49, 50, 51, 52, 53, 54, 55, 56, 57, 58, 59] (by decide +kernel) (by decide +kernel)
set_option maxRecDepth 20000 in
theorem gX4_tail_X4_counting : GoodIn wsX4_tail (wsV RX4 112 RX4 yX4_counting wsX4_counting) := goodIn_app (goodIn_of _ (by decide +kernel)) ggX4_tail_X4_counting
set_option maxRecDepth 20000 in
theorem ggX4_tail_X4_strength : GoodIn wsX4_tail wsX4_strength := goodIn_r _ [28, 29, 30, 31, 32, 33, 34, 35, 20, 21, 22, 9, 23, 24, 36, 37, 38, 39, 40, 41, 42, 43, 44, 45, 46, 47, 48, 49, 50, 51, 52, 53, 54, 55, 56, 57, 58, 59] (by decide +kernel) (by decide +kernel)
set_option maxRecDepth 20000 in
theorem gX4_tail_X4_strength : GoodIn wsX4_tail (wsV RX4 129 RX4 yX4_strength wsX4_strength) := goodIn_app (goodIn_of _ (by decide +kernel)) ggX4_tail_X4_strength
theorem dX4_tail_0 : decode cX4_tail 0 = .ok (.aload_n 0, 1) := by decide +kernel
theorem dX4_tail_1 : decode cX4_tail 1 = .ok (.iload_n 1, 1) := by decide +kernel
theorem dX4_tail_2 : decode cX4_tail 2 = .ok (.invokevirtual 139, 3) := by decide +kernel
theorem dX4_tail_5 : decode cX4_tail 5 = .ok (.ifCond .ne 7, 3) := by decide +kernel
theorem dX4_tail_8 : decode cX4_tail 8 = .ok (.ldc2_w 158, 3) := by decide +kernel
theorem dX4_tail_11 : decode cX4_tail 11 = .ok (.dreturn, 1) := by decide +kernel
theorem dX4_tail_12 : decode cX4_tail 12 = .ok (.aload_n 0, 1) := by decide +kernel
theorem dX4_tail_13 : decode cX4_tail 13 = .ok (.getfield 20, 3) := by decide +kernel
theorem dX4_tail_16 : decode cX4_tail 16 = .ok (.iload_n 1, 1) := by decide +kernel
theorem dX4_tail_17 : decode cX4_tail 17 = .ok (.baload, 1) := by decide +kernel
theorem dX4_tail_18 : decode cX4_tail 18 = .ok (.ifCond .eq 11, 3) := by decide +kernel
theorem dX4_tail_21 : decode cX4_tail 21 = .ok (.aload_n 0, 1) := by decide +kernel
theorem dX4_tail_22 : decode cX4_tail 22 = .ok (.iload_n 1, 1) := by decide +kernel
theorem dX4_tail_23 : decode cX4_tail 23 = .ok (.invokevirtual 112, 3) := by decide +kernel
theorem dX4_tail_26 : decode cX4_tail 26 = .ok (.goto 9, 3) := by decide +kernel
theorem dX4_tail_29 : decode cX4_tail 29 = .ok (.aload_n 0, 1) := by decide +kernel
theorem dX4_tail_30 : decode cX4_tail 30 = .ok (.getfield 44, 3) := by decide +kernel
theorem dX4_tail_33 : decode cX4_tail 33 = .ok (.iload_n 1, 1) := by decide +kernel
theorem dX4_tail_34 : decode cX4_tail 34 = .ok (.iaload, 1) := by decide +kernel
theorem dX4_tail_35 : decode cX4_tail 35 = .ok (.istore_n 2, 1) := by decide +kernel
theorem dX4_tail_36 : decode cX4_tail 36 = .ok (.lconst 0, 1) := by decide +kernel
theorem dX4_tail_37 : decode cX4_tail 37 = .ok (.lstore_n 3, 1) := by decide +kernel
theorem dX4_tail_38 : decode cX4_tail 38 = .ok (.iload_n 2, 1) := by decide +kernel
theorem dX4_tail_39 : decode cX4_tail 39 = .ok (.iconst 1, 1) := by decide +kernel
theorem dX4_tail_40 : decode cX4_tail 40 = .ok (.iadd, 1) := by decide +kernel
theorem dX4_tail_41 : decode cX4_tail 41 = .ok (.istore 5, 2) := by decide +kernel
theorem dX4_tail_43 : decode cX4_tail 43 = .ok (.iload 5, 2) := by decide +kernel
theorem dX4_tail_45 : decode cX4_tail 45 = .ok (.aload_n 0, 1) := by decide +kernel
theorem dX4_tail_46 : decode cX4_tail 46 = .ok (.getfield 55, 3) := by decide +kernel
theorem dX4_tail_49 : decode cX4_tail 49 = .ok (.if_icmp .ge 32, 3) := by decide +kernel
theorem dX4_tail_52 : decode cX4_tail 52 = .ok (.iload 5, 2) := by decide +kernel
theorem dX4_tail_54 : decode cX4_tail 54 = .ok (.iload_n 2, 1) := by decide +kernel
theorem dX4_tail_55 : decode cX4_tail 55 = .ok (.bipush 8, 2) := by decide +kernel
theorem dX4_tail_57 : decode cX4_tail 57 = .ok (.iadd, 1) := by decide +kernel
theorem dX4_tail_58 : decode cX4_tail 58 = .ok (.if_icmp .gt 23, 3) := by decide +kernel
theorem dX4_tail_61 : decode cX4_tail 61 = .ok (.lload_n 3, 1) := by decide +kernel
theorem dX4_tail_62 : decode cX4_tail 62 = .ok (.aload_n 0, 1) := by decide +kernel
theorem dX4_tail_63 : decode cX4_tail 63 = .ok (.aload_n 0, 1) := by decide +kernel
theorem dX4_tail_64 : decode cX4_tail 64 = .ok (.getfield 136, 3) := by decide +kernel
theorem dX4_tail_67 : decode cX4_tail 67 = .ok (.iload_n 1, 1) := by decide +kernel
theorem dX4_tail_68 : decode cX4_tail 68 = .ok (.iload 5, 2) := by decide +kernel
theorem dX4_tail_70 : decode cX4_tail 70 = .ok (.invokevirtual 129, 3) := by decide +kernel
theorem dX4_tail_73 : decode cX4_tail 73 = .ok (.ladd, 1) := by decide +kernel
theorem dX4_tail_74 : decode cX4_tail 74 = .ok (.lstore_n 3, 1) := by decide +kernel
theorem dX4_tail_75 : decode cX4_tail 75 = .ok (.iinc 5 1, 3) := by decide +kernel
theorem dX4_tail_78 : decode cX4_tail 78 = .ok (.goto (-35), 3) := by decide +kernel
theorem dX4_tail_81 : decode cX4_tail 81 = .ok (.lload_n 3, 1) := by decide +kernel
theorem dX4_tail_82 : decode cX4_tail 82 = .ok (.l2d, 1) := by decide +kernel
theorem dX4_tail_83 : decode cX4_tail 83 = .ok (.dreturn, 1) := by decide +kernel
set_option maxRecDepth 20000 in
theorem ggX4_kind_X4_tail : GoodIn wsX4_kind wsX4_tail := goodIn_r _ [8, 1, 9, 10, 11, 12, 13, 14, 15, 7, 16, 17, 18, 19, 20, 21, 22, 23, 24, 25, 26, 27, 28, 29, 30, 31, 32, 33, 34, 35, 36, 37, 38, 39, 40, 41, 42, 43, 44, 45, 46, 47, 48, 49, 50, 51, 52, 53, 54, 55, 56, 57, 58, 59, 60, 61, 62, 63, 64, 65] (by decide +kernel) (by decide +kernel)
set_option maxRecDepth 20000 in
theorem gX4_kind_X4_tail : GoodIn wsX4_kind (wsV RX4 166 RX4 yX4_tail wsX4_tail) := goodIn_app (goodIn_of _ (by decide +kernel)) ggX4_kind_X4_tail
theorem dX4_kind_0 : decode cX4_kind 0 = .ok (.aload_n 0, 1) := by decide +kernel
theorem dX4_kind_1 : decode cX4_kind 1 = .ok (.iload_n 1, 1) := by decide +kernel
theorem dX4_kind_2 : decode cX4_kind 2 = .ok (.invokevirtual 166, 3) := by decide +kernel
theorem dX4_kind_5 : decode cX4_kind 5 = .ok (.dstore_n 2, 1) := by decide +kernel
theorem dX4_kind_6 : decode cX4_kind 6 = .ok (.dload_n 2, 1) := by decide +kernel
theorem dX4_kind_7 : decode cX4_kind 7 = .ok (.ldc2_w 158, 3) := by decide +kernel
theorem dX4_kind_10 : decode cX4_kind 10 = .ok (.dcmp .l, 1) := by decide +kernel
theorem dX4_kind_11 : decode cX4_kind 11 = .ok (.ifCond .ne 7, 3) := by decide +kernel
theorem dX4_kind_14 : decode cX4_kind 14 = .ok (.iconst (-1), 1) := by decide +kernel
theorem dX4_kind_15 : decode cX4_kind 15 = .ok (.goto 28, 3) := by decide +kernel
theorem dX4_kind_18 : decode cX4_kind 18 = .ok (.dload_n 2, 1) := by decide +kernel
theorem dX4_kind_19 : decode cX4_kind 19 = .ok (.ldc2_w 169, 3) := by decide +kernel
theorem dX4_kind_22 : decode cX4_kind 22 = .ok (.dcmp .g, 1) := by decide +kernel
theorem dX4_kind_23 : decode cX4_kind 23 = .ok (.ifCond .ge 7, 3) := by decide +kernel
theorem dX4_kind_26 : decode cX4_kind 26 = .ok (.iconst 0, 1) := by decide +kernel
theorem dX4_kind_27 : decode cX4_kind 27 = .ok (.goto 16, 3) := by decide +kernel
theorem dX4_kind_30 : decode cX4_kind 30 = .ok (.dload_n 2, 1) := by decide +kernel
theorem dX4_kind_31 : decode cX4_kind 31 = .ok (.ldc2_w 171, 3) := by decide +kernel
theorem dX4_kind_34 : decode cX4_kind 34 = .ok (.dcmp .g, 1) := by decide +kernel
theorem dX4_kind_35 : decode cX4_kind 35 = .ok (.ifCond .ge 7, 3) := by decide +kernel
theorem dX4_kind_38 : decode cX4_kind 38 = .ok (.iconst 1, 1) := by decide +kernel
theorem dX4_kind_39 : decode cX4_kind 39 = .ok (.goto 4, 3) := by decide +kernel
theorem dX4_kind_42 : decode cX4_kind 42 = .ok (.iconst 2, 1) := by decide +kernel
theorem dX4_kind_43 : decode cX4_kind 43 = .ok (.ireturn, 1) := by decide +kernel
theorem dX4_insert_0 : decode cX4_insert 0 = .ok (.iconst 0, 1) := by decide +kernel
theorem dX4_insert_1 : decode cX4_insert 1 = .ok (.istore 7, 2) := by decide +kernel
theorem dX4_insert_3 : decode cX4_insert 3 = .ok (.iload 7, 2) := by decide +kernel
theorem dX4_insert_5 : decode cX4_insert 5 = .ok (.iload_n 2, 1) := by decide +kernel
theorem dX4_insert_6 : decode cX4_insert 6 = .ok (.if_icmp .ge 18, 3) := by decide +kernel
theorem dX4_insert_9 : decode cX4_insert 9 = .ok (.aload_n 0, 1) := by decide +kernel
theorem dX4_insert_10 : decode cX4_insert 10 = .ok (.iload 7, 2) := by decide +kernel
theorem dX4_insert_12 : decode cX4_insert 12 = .ok (.daload, 1) := by decide +kernel
theorem dX4_insert_13 : decode cX4_insert 13 = .ok (.dload_n 3, 1) := by decide +kernel
theorem dX4_insert_14 : decode cX4_insert 14 = .ok (.dcmp .g, 1) := by decide +kernel
theorem dX4_insert_15 : decode cX4_insert 15 = .ok (.ifCond .ge 9, 3) := by decide +kernel
theorem dX4_insert_18 : decode cX4_insert 18 = .ok (.iinc 7 1, 3) := by decide +kernel
theorem dX4_insert_21 : decode cX4_insert 21 = .ok (.goto (-18), 3) := by decide +kernel
theorem dX4_insert_24 : decode cX4_insert 24 = .ok (.iload 7, 2) := by decide +kernel
theorem dX4_insert_26 : decode cX4_insert 26 = .ok (.iload_n 2, 1) := by decide +kernel
theorem dX4_insert_27 : decode cX4_insert 27 = .ok (.if_icmp .ge 20, 3) := by decide +kernel
theorem dX4_insert_30 : decode cX4_insert 30 = .ok (.aload_n 0, 1) := by decide +kernel
theorem dX4_insert_31 : decode cX4_insert 31 = .ok (.iload 7, 2) := by decide +kernel
theorem dX4_insert_33 : decode cX4_insert 33 = .ok (.daload, 1) := by decide +kernel
theorem dX4_insert_34 : decode cX4_insert 34 = .ok (.dload_n 3, 1) := by decide +kernel
theorem dX4_insert_35 : decode cX4_insert 35 = .ok (.dcmp .l, 1) := by decide +kernel
theorem dX4_insert_36 : decode cX4_insert 36 = .ok (.ifCond .ne 11, 3) := by decide +kernel
theorem dX4_insert_39 : decode cX4_insert 39 = .ok (.aload_n 1, 1) := by decide +kernel
theorem dX4_insert_40 : decode cX4_insert 40 = .ok (.iload 7, 2) := by decide +kernel
theorem dX4_insert_42 : decode cX4_insert 42 = .ok (.dload 5, 2) := by decide +kernel
theorem dX4_insert_44 : decode cX4_insert 44 = .ok (.dastore, 1) := by decide +kernel
theorem dX4_insert_45 : decode cX4_insert 45 = .ok (.iload_n 2, 1) := by decide +kernel
theorem dX4_insert_46 : decode cX4_insert 46 = .ok (.ireturn, 1) := by decide +kernel
theorem dX4_insert_47 : decode cX4_insert 47 = .ok (.iload_n 2, 1) := by decide +kernel
theorem dX4_insert_48 : decode cX4_insert 48 = .ok (.bipush 20, 2) := by decide +kernel
theorem dX4_insert_50 : decode cX4_insert 50 = .ok (.if_icmp .ne 5, 3) := by decide +kernel
theorem dX4_insert_53 : decode cX4_insert 53 = .ok (.iconst (-1), 1) := by decide +kernel
theorem dX4_insert_54 : decode cX4_insert 54 = .ok (.ireturn, 1) := by decide +kernel
theorem dX4_insert_55 : decode cX4_insert 55 = .ok (.iload_n 2, 1) := by decide +kernel
theorem dX4_insert_56 : decode cX4_insert 56 = .ok (.istore 8, 2) := by decide +kernel
theorem dX4_insert_58 : decode cX4_insert 58 = .ok (.iload 8, 2) := by decide +kernel
theorem dX4_insert_60 : decode cX4_insert 60 = .ok (.iload 7, 2) := by decide +kernel
theorem dX4_insert_62 : decode cX4_insert 62 = .ok (.if_icmp .le 29, 3) := by decide +kernel
theorem dX4_insert_65 : decode cX4_insert 65 = .ok (.aload_n 0, 1) := by decide +kernel
theorem dX4_insert_66 : decode cX4_insert 66 = .ok (.iload 8, 2) := by decide +kernel
theorem dX4_insert_68 : decode cX4_insert 68 = .ok (.aload_n 0, 1) := by decide +kernel
theorem dX4_insert_69 : decode cX4_insert 69 = .ok (.iload 8, 2) := by decide +kernel
theorem dX4_insert_71 : decode cX4_insert 71 = .ok (.iconst 1, 1) := by decide +kernel
theorem dX4_insert_72 : decode cX4_insert 72 = .ok (.isub, 1) := by decide +kernel
theorem dX4_insert_73 : decode cX4_insert 73 = .ok (.daload, 1) := by decide +kernel
theorem dX4_insert_74 : decode cX4_insert 74 = .ok (.dastore, 1) := by decide +kernel
theorem dX4_insert_75 : decode cX4_insert 75 = .ok (.aload_n 1, 1) := by decide +kernel
theorem dX4_insert_76 : decode cX4_insert 76 = .ok (.iload 8, 2) := by decide +kernel
theorem dX4_insert_78 : decode cX4_insert 78 = .ok (.aload_n 1, 1) := by decide +kernel
theorem dX4_insert_79 : decode cX4_insert 79 = .ok (.iload 8, 2) := by decide +kernel
theorem dX4_insert_81 : decode cX4_insert 81 = .ok (.iconst 1, 1) := by decide +kernel
theorem dX4_insert_82 : decode cX4_insert 82 = .ok (.isub, 1) := by decide +kernel
theorem dX4_insert_83 : decode cX4_insert 83 = .ok (.daload, 1) := by decide +kernel
theorem dX4_insert_84 : decode cX4_insert 84 = .ok (.dastore, 1) := by decide +kernel
theorem dX4_insert_85 : decode cX4_insert 85 = .ok (.iinc 8 (-1), 3) := by decide +kernel
theorem dX4_insert_88 : decode cX4_insert 88 = .ok (.goto (-30), 3) := by decide +kernel
theorem dX4_insert_91 : decode cX4_insert 91 = .ok (.aload_n 0, 1) := by decide +kernel
theorem dX4_insert_92 : decode cX4_insert 92 = .ok (.iload 7, 2) := by decide +kernel
theorem dX4_insert_94 : decode cX4_insert 94 = .ok (.dload_n 3, 1) := by decide +kernel
theorem dX4_insert_95 : decode cX4_insert 95 = .ok (.dastore, 1) := by decide +kernel
theorem dX4_insert_96 : decode cX4_insert 96 = .ok (.aload_n 1, 1) := by decide +kernel
theorem dX4_insert_97 : decode cX4_insert 97 = .ok (.iload 7, 2) := by decide +kernel
theorem dX4_insert_99 : decode cX4_insert 99 = .ok (.dload 5, 2) := by decide +kernel
theorem dX4_insert_101 : decode cX4_insert 101 = .ok (.dastore, 1) := by decide +kernel
theorem dX4_insert_102 : decode cX4_insert 102 = .ok (.iload_n 2, 1) := by decide +kernel
theorem dX4_insert_103 : decode cX4_insert 103 = .ok (.iconst 1, 1) := by decide +kernel
theorem dX4_insert_104 : decode cX4_insert 104 = .ok (.iadd, 1) := by decide +kernel
theorem dX4_insert_105 : decode cX4_insert 105 = .ok (.ireturn, 1) := by decide +kernel
set_option maxRecDepth 20000 in
theorem ggX4_speed_X4_within : GoodIn wsX4_speed wsX4_within := goodIn_r _ [10] (by decide +kernel) (by decide +kernel)
set_option maxRecDepth 20000 in
theorem gX4_speed_X4_within : GoodIn wsX4_speed (va_wsS RX4 74 yX4_within wsX4_within) := goodIn_app (goodIn_of _ (by decide +kernel)) ggX4_speed_X4_within
set_option maxRecDepth 20000 in
theorem ggX4_speed_X4_insert : GoodIn wsX4_speed wsX4_insert := goodIn_r _ [13] (by decide +kernel) (by decide +kernel)
set_option maxRecDepth 20000 in
theorem gX4_speed_X4_insert : GoodIn wsX4_speed (va_wsS RX4 180 yX4_insert wsX4_insert) := goodIn_app (goodIn_of _ (by decide +kernel)) ggX4_speed_X4_insert
theorem dX4_speed_0 : decode cX4_speed 0 = .ok (.dload_n 1, 1) := by decide +kernel
theorem dX4_speed_1 : decode cX4_speed 1 = .ok (.dconst 0, 1) := by decide +kernel
theorem dX4_speed_2 : decode cX4_speed 2 = .ok (.ldc2_w 92, 3) := by decide +kernel
theorem dX4_speed_5 : decode cX4_speed 5 = .ok (.invokestatic 74, 3) := by decide +kernel
theorem dX4_speed_8 : decode cX4_speed 8 = .ok (.ifCond .eq 16, 3) := by decide +kernel
theorem dX4_speed_11 : decode cX4_speed 11 = .ok (.dload_n 3, 1) := by decide +kernel
theorem dX4_speed_12 : decode cX4_speed 12 = .ok (.ldc2_w 173, 3) := by decide +kernel
theorem dX4_speed_15 : decode cX4_speed 15 = .ok (.ldc2_w 175, 3) := by decide +kernel
theorem dX4_speed_18 : decode cX4_speed 18 = .ok (.invokestatic 74, 3) := by decide +kernel
theorem dX4_speed_21 : decode cX4_speed 21 = .ok (.ifCond .ne 5, 3) := by decide +kernel
theorem dX4_speed_24 : decode cX4_speed 24 = .ok (.iconst 0, 1) := by decide +kernel
theorem dX4_speed_25 : decode cX4_speed 25 = .ok (.ireturn, 1) := by decide +kernel
theorem dX4_speed_26 : decode cX4_speed 26 = .ok (.aload_n 0, 1) := by decide +kernel
theorem dX4_speed_27 : decode cX4_speed 27 = .ok (.getfield 32, 3) := by decide +kernel
theorem dX4_speed_30 : decode cX4_speed 30 = .ok (.aload_n 0, 1) := by decide +kernel
theorem dX4_speed_31 : decode cX4_speed 31 = .ok (.getfield 35, 3) := by decide +kernel
theorem dX4_speed_34 : decode cX4_speed 34 = .ok (.aload_n 0, 1) := by decide +kernel
theorem dX4_speed_35 : decode cX4_speed 35 = .ok (.getfield 177, 3) := by decide +kernel
theorem dX4_speed_38 : decode cX4_speed 38 = .ok (.dload_n 1, 1) := by decide +kernel
theorem dX4_speed_39 : decode cX4_speed 39 = .ok (.dload_n 3, 1) := by decide +kernel
theorem dX4_speed_40 : decode cX4_speed 40 = .ok (.invokestatic 180, 3) := by decide +kernel
theorem dX4_speed_43 : decode cX4_speed 43 = .ok (.istore 5, 2) := by decide +kernel
theorem dX4_speed_45 : decode cX4_speed 45 = .ok (.aload_n 0, 1) := by decide +kernel
theorem dX4_speed_46 : decode cX4_speed 46 = .ok (.iload 5, 2) := by decide +kernel
theorem dX4_speed_48 : decode cX4_speed 48 = .ok (.iconst (-1), 1) := by decide +kernel
theorem dX4_speed_49 : decode cX4_speed 49 = .ok (.if_icmp .ne 10, 3) := by decide +kernel
theorem dX4_speed_52 : decode cX4_speed 52 = .ok (.aload_n 0, 1) := by decide +kernel
theorem dX4_speed_53 : decode cX4_speed 53 = .ok (.getfield 177, 3) := by decide +kernel
theorem dX4_speed_56 : decode cX4_speed 56 = .ok (.goto 5, 3) := by decide +kernel
theorem dX4_speed_59 : decode cX4_speed 59 = .ok (.iload 5, 2) := by decide +kernel
theorem dX4_speed_61 : decode cX4_speed 61 = .ok (.putfield 177, 3) := by decide +kernel
theorem dX4_speed_64 : decode cX4_speed 64 = .ok (.iload 5, 2) := by decide +kernel
theorem dX4_speed_66 : decode cX4_speed 66 = .ok (.iconst (-1), 1) := by decide +kernel
theorem dX4_speed_67 : decode cX4_speed 67 = .ok (.if_icmp .eq 7, 3) := by decide +kernel
theorem dX4_speed_70 : decode cX4_speed 70 = .ok (.iconst 1, 1) := by decide +kernel
theorem dX4_speed_71 : decode cX4_speed 71 = .ok (.goto 4, 3) := by decide +kernel
theorem dX4_speed_74 : decode cX4_speed 74 = .ok (.iconst 0, 1) := by decide +kernel
theorem dX4_speed_75 : decode cX4_speed 75 = .ok (.ireturn, 1) := by decide +kernel
set_option maxRecDepth 20000 in
theorem ggX4_ball_X4_within : GoodIn wsX4_ball wsX4_within := goodIn_r _ [10] (by decide +kernel) (by decide +kernel)
set_option maxRecDepth 20000 in
theorem gX4_ball_X4_within : GoodIn wsX4_ball (va_wsS RX4 74 yX4_within wsX4_within) := goodIn_app (goodIn_of _ (by decide +kernel)) ggX4_ball_X4_within
set_option maxRecDepth 20000 in
theorem ggX4_ball_X4_insert : GoodIn wsX4_ball wsX4_insert := goodIn_r _ [13] (by decide +kernel) (by decide +kernel)
set_option maxRecDepth 20000 in
theorem gX4_ball_X4_insert : GoodIn wsX4_ball (va_wsS RX4 180 yX4_insert wsX4_insert) := goodIn_app (goodIn_of _ (by decide +kernel)) ggX4_ball_X4_insert
theorem dX4_ball_0 : decode cX4_ball 0 = .ok (.dload_n 1, 1) := by decide +kernel
theorem dX4_ball_1 : decode cX4_ball 1 = .ok (.dconst 0, 1) := by decide +kernel
theorem dX4_ball_2 : decode cX4_ball 2 = .ok (.ldc2_w 184, 3) := by decide +kernel
theorem dX4_ball_5 : decode cX4_ball 5 = .ok (.invokestatic 74, 3) := by decide +kernel
theorem dX4_ball_8 : decode cX4_ball 8 = .ok (.ifCond .eq 16, 3) := by decide +kernel
theorem dX4_ball_11 : decode cX4_ball 11 = .ok (.dload_n 3, 1) := by decide +kernel
theorem dX4_ball_12 : decode cX4_ball 12 = .ok (.ldc2_w 186, 3) := by decide +kernel
theorem dX4_ball_15 : decode cX4_ball 15 = .ok (.ldc2_w 81, 3) := by decide +kernel
theorem dX4_ball_18 : decode cX4_ball 18 = .ok (.invokestatic 74, 3) := by decide +kernel
theorem dX4_ball_21 : decode cX4_ball 21 = .ok (.ifCond .ne 5, 3) := by decide +kernel
theorem dX4_ball_24 : decode cX4_ball 24 = .ok (.iconst 0, 1) := by decide +kernel
theorem dX4_ball_25 : decode cX4_ball 25 = .ok (.ireturn, 1) := by decide +kernel
theorem dX4_ball_26 : decode cX4_ball 26 = .ok (.aload_n 0, 1) := by decide +kernel
theorem dX4_ball_27 : decode cX4_ball 27 = .ok (.getfield 38, 3) := by decide +kernel
theorem dX4_ball_30 : decode cX4_ball 30 = .ok (.aload_n 0, 1) := by decide +kernel
theorem dX4_ball_31 : decode cX4_ball 31 = .ok (.getfield 41, 3) := by decide +kernel
theorem dX4_ball_34 : decode cX4_ball 34 = .ok (.aload_n 0, 1) := by decide +kernel
theorem dX4_ball_35 : decode cX4_ball 35 = .ok (.getfield 188, 3) := by decide +kernel
theorem dX4_ball_38 : decode cX4_ball 38 = .ok (.dload_n 1, 1) := by decide +kernel
theorem dX4_ball_39 : decode cX4_ball 39 = .ok (.dload_n 3, 1) := by decide +kernel
theorem dX4_ball_40 : decode cX4_ball 40 = .ok (.invokestatic 180, 3) := by decide +kernel
theorem dX4_ball_43 : decode cX4_ball 43 = .ok (.istore 5, 2) := by decide +kernel
theorem dX4_ball_45 : decode cX4_ball 45 = .ok (.aload_n 0, 1) := by decide +kernel
theorem dX4_ball_46 : decode cX4_ball 46 = .ok (.iload 5, 2) := by decide +kernel
theorem dX4_ball_48 : decode cX4_ball 48 = .ok (.iconst (-1), 1) := by decide +kernel
theorem dX4_ball_49 : decode cX4_ball 49 = .ok (.if_icmp .ne 10, 3) := by decide +kernel
theorem dX4_ball_52 : decode cX4_ball 52 = .ok (.aload_n 0, 1) := by decide +kernel
theorem dX4_ball_53 : decode cX4_ball 53 = .ok (.getfield 188, 3) := by decide +kernel
theorem dX4_ball_56 : decode cX4_ball 56 = .ok (.goto 5, 3) := by decide +kernel
theorem dX4_ball_59 : decode cX4_ball 59 = .ok (.iload 5, 2) := by decide +kernel
theorem dX4_ball_61 : decode cX4_ball 61 = .ok (.putfield 188, 3) := by decide +kernel
theorem dX4_ball_64 : decode cX4_ball 64 = .ok (.iload 5, 2) := by decide +kernel
theorem dX4_ball_66 : decode cX4_ball 66 = .ok (.iconst (-1), 1) := by decide +kernel
theorem dX4_ball_67 : decode cX4_ball 67 = .ok (.if_icmp .eq 7, 3) := by decide +kernel
theorem dX4_ball_70 : decode cX4_ball 70 = .ok (.iconst 1, 1) := by decide +kernel
theorem dX4_ball_71 : decode cX4_ball 71 = .ok (.goto 4, 3) := by decide +kernel
theorem dX4_ball_74 : decode cX4_ball 74 = .ok (.iconst 0, 1) := by decide +kernel
theorem dX4_ball_75 : decode cX4_ball 75 = .ok (.ireturn, 1) := by decide +kernel
theorem dX4_speedAt_0 : decode cX4_speedAt 0 = .ok (.aload_n 0, 1) := by decide +kernel
theorem dX4_speedAt_1 : decode cX4_speedAt 1 = .ok (.getfield 177, 3) := by decide +kernel
theorem dX4_speedAt_4 : decode cX4_speedAt 4 = .ok (.ifCond .ne 7, 3) := by decide +kernel
theorem dX4_speedAt_7 : decode cX4_speedAt 7 = .ok (.ldc2_w 191, 3) := by decide +kernel
theorem dX4_speedAt_10 : decode cX4_speedAt 10 = .ok (.dreturn, 1) := by decide +kernel
theorem dX4_speedAt_11 : decode cX4_speedAt 11 = .ok (.iconst 0, 1) := by decide +kernel
theorem dX4_speedAt_12 : decode cX4_speedAt 12 = .ok (.istore_n 3, 1) := by decide +kernel
theorem dX4_speedAt_13 : decode cX4_speedAt 13 = .ok (.iload_n 3, 1) := by decide +kernel
theorem dX4_speedAt_14 : decode cX4_speedAt 14 = .ok (.iconst 1, 1) := by decide +kernel
theorem dX4_speedAt_15 : decode cX4_speedAt 15 = .ok (.iadd, 1) := by decide +kernel
theorem dX4_speedAt_16 : decode cX4_speedAt 16 = .ok (.aload_n 0, 1) := by decide +kernel
theorem dX4_speedAt_17 : decode cX4_speedAt 17 = .ok (.getfield 177, 3) := by decide +kernel
theorem dX4_speedAt_20 : decode cX4_speedAt 20 = .ok (.if_icmp .ge 22, 3) := by decide +kernel
theorem dX4_speedAt_23 : decode cX4_speedAt 23 = .ok (.aload_n 0, 1) := by decide +kernel
theorem dX4_speedAt_24 : decode cX4_speedAt 24 = .ok (.getfield 32, 3) := by decide +kernel
theorem dX4_speedAt_27 : decode cX4_speedAt 27 = .ok (.iload_n 3, 1) := by decide +kernel
theorem dX4_speedAt_28 : decode cX4_speedAt 28 = .ok (.iconst 1, 1) := by decide +kernel
theorem dX4_speedAt_29 : decode cX4_speedAt 29 = .ok (.iadd, 1) := by decide +kernel
theorem dX4_speedAt_30 : decode cX4_speedAt 30 = .ok (.daload, 1) := by decide +kernel
theorem dX4_speedAt_31 : decode cX4_speedAt 31 = .ok (.dload_n 1, 1) := by decide +kernel
theorem dX4_speedAt_32 : decode cX4_speedAt 32 = .ok (.dcmp .g, 1) := by decide +kernel
theorem dX4_speedAt_33 : decode cX4_speedAt 33 = .ok (.ifCond .gt 9, 3) := by decide +kernel
theorem dX4_speedAt_36 : decode cX4_speedAt 36 = .ok (.iinc 3 1, 3) := by decide +kernel
theorem dX4_speedAt_39 : decode cX4_speedAt 39 = .ok (.goto (-26), 3) := by decide +kernel
theorem dX4_speedAt_42 : decode cX4_speedAt 42 = .ok (.aload_n 0, 1) := by decide +kernel
theorem dX4_speedAt_43 : decode cX4_speedAt 43 = .ok (.getfield 35, 3) := by decide +kernel
theorem dX4_speedAt_46 : decode cX4_speedAt 46 = .ok (.iload_n 3, 1) := by decide +kernel
theorem dX4_speedAt_47 : decode cX4_speedAt 47 = .ok (.daload, 1) := by decide +kernel
theorem dX4_speedAt_48 : decode cX4_speedAt 48 = .ok (.dreturn, 1) := by decide +kernel
set_option maxRecDepth 20000 in
theorem ggX4_bent_X4_isPing : GoodIn wsX4_bent wsX4_isPing := goodIn_r _ [11] (by decide +kernel) (by decide +kernel)
set_option maxRecDepth 20000 in
theorem gX4_bent_X4_isPing : GoodIn wsX4_bent (va_wsS RX4 65 yX4_isPing wsX4_isPing) := goodIn_app (goodIn_of _ (by decide +kernel)) ggX4_bent_X4_isPing
set_option maxRecDepth 20000 in
theorem ggX4_bent_X4_isSample : GoodIn wsX4_bent wsX4_isSample := goodIn_r _ [15, 16, 24, 25, 26, 27, 28, 29, 30, 31, 32, 33, 34, 35, 36, 37, 38, 39, 40, 41, 42, 43, 44, 45, 46, 47] (by decide +kernel) (by decide +kernel)
set_option maxRecDepth 20000 in
theorem gX4_bent_X4_isSample : GoodIn wsX4_bent (wsV RX4 69 RX4 yX4_isSample wsX4_isSample) := goodIn_app (goodIn_of _ (by decide +kernel)) ggX4_bent_X4_isSample
set_option maxRecDepth 20000 in
theorem ggX4_bent_X4_speedAt : GoodIn wsX4_bent wsX4_speedAt := goodIn_r _ [20, 21, 3, 22, 23, 24, 25, 26, 27, 28, 29, 30, 31, 32, 33, 34, 35, 36, 37, 38, 39, 40, 41, 42, 43, 44, 45, 46, 47] (by decide +kernel) (by decide +kernel)
set_option maxRecDepth 20000 in
theorem gX4_bent_X4_speedAt : GoodIn wsX4_bent (wsV RX4 193 RX4 yX4_speedAt wsX4_speedAt) := goodIn_app (goodIn_of _ (by decide +kernel)) ggX4_bent_X4_speedAt
theorem dX4_bent_0 : decode cX4_bent 0 = .ok (.iload_n 1, 1) := by decide +kernel
theorem dX4_bent_1 : decode cX4_bent 1 = .ok (.invokestatic 65, 3) := by decide +kernel
theorem dX4_bent_4 : decode cX4_bent 4 = .ok (.ifCond .eq 11, 3) := by decide +kernel
theorem dX4_bent_7 : decode cX4_bent 7 = .ok (.aload_n 0, 1) := by decide +kernel
theorem dX4_bent_8 : decode cX4_bent 8 = .ok (.iload_n 2, 1) := by decide +kernel
theorem dX4_bent_9 : decode cX4_bent 9 = .ok (.invokevirtual 69, 3) := by decide +kernel
theorem dX4_bent_12 : decode cX4_bent 12 = .ok (.ifCond .ne 7, 3) := by decide +kernel
theorem dX4_bent_15 : decode cX4_bent 15 = .ok (.ldc2_w 158, 3) := by decide +kernel
theorem dX4_bent_18 : decode cX4_bent 18 = .ok (.dreturn, 1) := by decide +kernel
theorem dX4_bent_19 : decode cX4_bent 19 = .ok (.dconst 0, 1) := by decide +kernel
theorem dX4_bent_20 : decode cX4_bent 20 = .ok (.dstore_n 3, 1) := by decide +kernel
theorem dX4_bent_21 : decode cX4_bent 21 = .ok (.iconst 0, 1) := by decide +kernel
theorem dX4_bent_22 : decode cX4_bent 22 = .ok (.istore 5, 2) := by decide +kernel
theorem dX4_bent_24 : decode cX4_bent 24 = .ok (.iload 5, 2) := by decide +kernel
theorem dX4_bent_26 : decode cX4_bent 26 = .ok (.iload_n 2, 1) := by decide +kernel
theorem dX4_bent_27 : decode cX4_bent 27 = .ok (.if_icmp .gt 33, 3) := by decide +kernel
theorem dX4_bent_30 : decode cX4_bent 30 = .ok (.dload_n 3, 1) := by decide +kernel
theorem dX4_bent_31 : decode cX4_bent 31 = .ok (.aload_n 0, 1) := by decide +kernel
theorem dX4_bent_32 : decode cX4_bent 32 = .ok (.getfield 61, 3) := by decide +kernel
theorem dX4_bent_35 : decode cX4_bent 35 = .ok (.aload_n 0, 1) := by decide +kernel
theorem dX4_bent_36 : decode cX4_bent 36 = .ok (.iload 5, 2) := by decide +kernel
theorem dX4_bent_38 : decode cX4_bent 38 = .ok (.i2d, 1) := by decide +kernel
theorem dX4_bent_39 : decode cX4_bent 39 = .ok (.aload_n 0, 1) := by decide +kernel
theorem dX4_bent_40 : decode cX4_bent 40 = .ok (.getfield 61, 3) := by decide +kernel
theorem dX4_bent_43 : decode cX4_bent 43 = .ok (.dmul, 1) := by decide +kernel
theorem dX4_bent_44 : decode cX4_bent 44 = .ok (.invokevirtual 193, 3) := by decide +kernel
theorem dX4_bent_47 : decode cX4_bent 47 = .ok (.dmul, 1) := by decide +kernel
theorem dX4_bent_48 : decode cX4_bent 48 = .ok (.ldc2_w 191, 3) := by decide +kernel
theorem dX4_bent_51 : decode cX4_bent 51 = .ok (.ddiv, 1) := by decide +kernel
theorem dX4_bent_52 : decode cX4_bent 52 = .ok (.dadd, 1) := by decide +kernel
theorem dX4_bent_53 : decode cX4_bent 53 = .ok (.dstore_n 3, 1) := by decide +kernel
theorem dX4_bent_54 : decode cX4_bent 54 = .ok (.iinc 5 1, 3) := by decide +kernel
theorem dX4_bent_57 : decode cX4_bent 57 = .ok (.goto (-33), 3) := by decide +kernel
theorem dX4_bent_60 : decode cX4_bent 60 = .ok (.ldc2_w 197, 3) := by decide +kernel
theorem dX4_bent_63 : decode cX4_bent 63 = .ok (.aload_n 0, 1) := by decide +kernel
theorem dX4_bent_64 : decode cX4_bent 64 = .ok (.getfield 29, 3) := by decide +kernel
theorem dX4_bent_67 : decode cX4_bent 67 = .ok (.iload_n 1, 1) := by decide +kernel
theorem dX4_bent_68 : decode cX4_bent 68 = .ok (.daload, 1) := by decide +kernel
theorem dX4_bent_69 : decode cX4_bent 69 = .ok (.dmul, 1) := by decide +kernel
theorem dX4_bent_70 : decode cX4_bent 70 = .ok (.dstore 5, 2) := by decide +kernel
theorem dX4_bent_72 : decode cX4_bent 72 = .ok (.dload_n 3, 1) := by decide +kernel
theorem dX4_bent_73 : decode cX4_bent 73 = .ok (.dconst 1, 1) := by decide +kernel
theorem dX4_bent_74 : decode cX4_bent 74 = .ok (.dload 5, 2) := by decide +kernel
theorem dX4_bent_76 : decode cX4_bent 76 = .ok (.dload 5, 2) := by decide +kernel
theorem dX4_bent_78 : decode cX4_bent 78 = .ok (.dmul, 1) := by decide +kernel
theorem dX4_bent_79 : decode cX4_bent 79 = .ok (.ldc2_w 160, 3) := by decide +kernel
theorem dX4_bent_82 : decode cX4_bent 82 = .ok (.dmul, 1) := by decide +kernel
theorem dX4_bent_83 : decode cX4_bent 83 = .ok (.dsub, 1) := by decide +kernel
theorem dX4_bent_84 : decode cX4_bent 84 = .ok (.dmul, 1) := by decide +kernel
theorem dX4_bent_85 : decode cX4_bent 85 = .ok (.aload_n 0, 1) := by decide +kernel
theorem dX4_bent_86 : decode cX4_bent 86 = .ok (.getfield 26, 3) := by decide +kernel
theorem dX4_bent_89 : decode cX4_bent 89 = .ok (.iload_n 1, 1) := by decide +kernel
theorem dX4_bent_90 : decode cX4_bent 90 = .ok (.daload, 1) := by decide +kernel
theorem dX4_bent_91 : decode cX4_bent 91 = .ok (.dadd, 1) := by decide +kernel
theorem dX4_bent_92 : decode cX4_bent 92 = .ok (.dreturn, 1) := by decide +kernel
set_option maxRecDepth 20000 in
theorem ggX4_joined_X4_isPing : GoodIn wsX4_joined wsX4_isPing := goodIn_r _ [6] (by decide +kernel) (by decide +kernel)
set_option maxRecDepth 20000 in
theorem gX4_joined_X4_isPing : GoodIn wsX4_joined (va_wsS RX4 65 yX4_isPing wsX4_isPing) := goodIn_app (goodIn_of _ (by decide +kernel)) ggX4_joined_X4_isPing
set_option maxRecDepth 20000 in
theorem ggX4_joined_X4_isSample : GoodIn wsX4_joined wsX4_isSample := goodIn_r _ [10, 2, 27, 28, 29, 30, 31, 32, 33, 34, 35, 36, 37, 38, 39, 40, 41, 42, 43, 44, 45, 46, 47, 48, 49, 50] (by decide +kernel) (by decide +kernel)
set_option maxRecDepth 20000 in
theorem gX4_joined_X4_isSample : GoodIn wsX4_joined (wsV RX4 69 RX4 yX4_isSample wsX4_isSample) := goodIn_app (goodIn_of _ (by decide +kernel)) ggX4_joined_X4_isSample
set_option maxRecDepth 20000 in
theorem ggX4_joined_X4_strength : GoodIn wsX4_joined wsX4_strength := goodIn_r _ [14, 15, 16, 17, 18, 19, 20, 21, 22, 23, 24, 5, 25, 26, 27, 28, 29, 30, 31, 32, 33, 34, 35, 36, 37, 38, 39, 40, 41, 42, 43, 44, 45, 46, 47, 48, 49, 50] (by decide +kernel) (by decide +kernel)
set_option maxRecDepth 20000 in
theorem gX4_joined_X4_strength : GoodIn wsX4_joined (wsV RX4 129 RX4 yX4_strength wsX4_strength) := goodIn_app (goodIn_of _ (by decide +kernel)) ggX4_joined_X4_strength
set_option maxRecDepth 20000 in
theorem ggX4_joined_X4_range : GoodIn wsX4_joined wsX4_range := goodIn_r _ [25, 26, 27, 28, 29, 30, 31, 32, 33, 34, 35, 36, 37, 38, 39, 40, 41, 42, 43, 44, 45, 46, 47, 48, 49, 50] (by decide +kernel) (by decide +kernel)
set_option maxRecDepth 20000 in
theorem gX4_joined_X4_range : GoodIn wsX4_joined (wsV RX4 102 RX4 yX4_range wsX4_range) := goodIn_app (goodIn_of _ (by decide +kernel)) ggX4_joined_X4_range
theorem dX4_joined_0 : decode cX4_joined 0 = .ok (.iload_n 1, 1) := by decide +kernel
theorem dX4_joined_1 : decode cX4_joined 1 = .ok (.ifCond .lt 23, 3) := by decide +kernel
theorem dX4_joined_4 : decode cX4_joined 4 = .ok (.iload_n 1, 1) := by decide +kernel
theorem dX4_joined_5 : decode cX4_joined 5 = .ok (.iconst 3, 1) := by decide +kernel
theorem dX4_joined_6 : decode cX4_joined 6 = .ok (.if_icmp .gt 18, 3) := by decide +kernel
theorem dX4_joined_9 : decode cX4_joined 9 = .ok (.iload_n 2, 1) := by decide +kernel
theorem dX4_joined_10 : decode cX4_joined 10 = .ok (.invokestatic 65, 3) := by decide +kernel
theorem dX4_joined_13 : decode cX4_joined 13 = .ok (.ifCond .eq 11, 3) := by decide +kernel
theorem dX4_joined_16 : decode cX4_joined 16 = .ok (.aload_n 0, 1) := by decide +kernel
theorem dX4_joined_17 : decode cX4_joined 17 = .ok (.iload_n 3, 1) := by decide +kernel
theorem dX4_joined_18 : decode cX4_joined 18 = .ok (.invokevirtual 69, 3) := by decide +kernel
theorem dX4_joined_21 : decode cX4_joined 21 = .ok (.ifCond .ne 7, 3) := by decide +kernel
theorem dX4_joined_24 : decode cX4_joined 24 = .ok (.ldc2_w 158, 3) := by decide +kernel
theorem dX4_joined_27 : decode cX4_joined 27 = .ok (.dreturn, 1) := by decide +kernel
theorem dX4_joined_28 : decode cX4_joined 28 = .ok (.aload_n 0, 1) := by decide +kernel
theorem dX4_joined_29 : decode cX4_joined 29 = .ok (.iload_n 1, 1) := by decide +kernel
theorem dX4_joined_30 : decode cX4_joined 30 = .ok (.iload_n 2, 1) := by decide +kernel
theorem dX4_joined_31 : decode cX4_joined 31 = .ok (.iload_n 3, 1) := by decide +kernel
theorem dX4_joined_32 : decode cX4_joined 32 = .ok (.invokevirtual 129, 3) := by decide +kernel
theorem dX4_joined_35 : decode cX4_joined 35 = .ok (.l2d, 1) := by decide +kernel
theorem dX4_joined_36 : decode cX4_joined 36 = .ok (.dstore 4, 2) := by decide +kernel
theorem dX4_joined_38 : decode cX4_joined 38 = .ok (.iload_n 3, 1) := by decide +kernel
theorem dX4_joined_39 : decode cX4_joined 39 = .ok (.iconst 1, 1) := by decide +kernel
theorem dX4_joined_40 : decode cX4_joined 40 = .ok (.iadd, 1) := by decide +kernel
theorem dX4_joined_41 : decode cX4_joined 41 = .ok (.aload_n 0, 1) := by decide +kernel
theorem dX4_joined_42 : decode cX4_joined 42 = .ok (.getfield 55, 3) := by decide +kernel
theorem dX4_joined_45 : decode cX4_joined 45 = .ok (.if_icmp .ne 6, 3) := by decide +kernel
theorem dX4_joined_48 : decode cX4_joined 48 = .ok (.dload 4, 2) := by decide +kernel
theorem dX4_joined_50 : decode cX4_joined 50 = .ok (.dreturn, 1) := by decide +kernel
theorem dX4_joined_51 : decode cX4_joined 51 = .ok (.aload_n 0, 1) := by decide +kernel
theorem dX4_joined_52 : decode cX4_joined 52 = .ok (.iload_n 1, 1) := by decide +kernel
theorem dX4_joined_53 : decode cX4_joined 53 = .ok (.iload_n 2, 1) := by decide +kernel
theorem dX4_joined_54 : decode cX4_joined 54 = .ok (.iload_n 3, 1) := by decide +kernel
theorem dX4_joined_55 : decode cX4_joined 55 = .ok (.iconst 1, 1) := by decide +kernel
theorem dX4_joined_56 : decode cX4_joined 56 = .ok (.iadd, 1) := by decide +kernel
theorem dX4_joined_57 : decode cX4_joined 57 = .ok (.invokevirtual 129, 3) := by decide +kernel
theorem dX4_joined_60 : decode cX4_joined 60 = .ok (.l2d, 1) := by decide +kernel
theorem dX4_joined_61 : decode cX4_joined 61 = .ok (.dstore 6, 2) := by decide +kernel
theorem dX4_joined_63 : decode cX4_joined 63 = .ok (.aload_n 0, 1) := by decide +kernel
theorem dX4_joined_64 : decode cX4_joined 64 = .ok (.iload_n 3, 1) := by decide +kernel
theorem dX4_joined_65 : decode cX4_joined 65 = .ok (.invokevirtual 102, 3) := by decide +kernel
theorem dX4_joined_68 : decode cX4_joined 68 = .ok (.aload_n 0, 1) := by decide +kernel
theorem dX4_joined_69 : decode cX4_joined 69 = .ok (.iload_n 3, 1) := by decide +kernel
theorem dX4_joined_70 : decode cX4_joined 70 = .ok (.invokevirtual 102, 3) := by decide +kernel
theorem dX4_joined_73 : decode cX4_joined 73 = .ok (.dmul, 1) := by decide +kernel
theorem dX4_joined_74 : decode cX4_joined 74 = .ok (.dstore 8, 2) := by decide +kernel
theorem dX4_joined_76 : decode cX4_joined 76 = .ok (.aload_n 0, 1) := by decide +kernel
theorem dX4_joined_77 : decode cX4_joined 77 = .ok (.iload_n 3, 1) := by decide +kernel
theorem dX4_joined_78 : decode cX4_joined 78 = .ok (.iconst 1, 1) := by decide +kernel
theorem dX4_joined_79 : decode cX4_joined 79 = .ok (.iadd, 1) := by decide +kernel
theorem dX4_joined_80 : decode cX4_joined 80 = .ok (.invokevirtual 102, 3) := by decide +kernel
theorem dX4_joined_83 : decode cX4_joined 83 = .ok (.aload_n 0, 1) := by decide +kernel
theorem dX4_joined_84 : decode cX4_joined 84 = .ok (.iload_n 3, 1) := by decide +kernel
theorem dX4_joined_85 : decode cX4_joined 85 = .ok (.iconst 1, 1) := by decide +kernel
theorem dX4_joined_86 : decode cX4_joined 86 = .ok (.iadd, 1) := by decide +kernel
theorem dX4_joined_87 : decode cX4_joined 87 = .ok (.invokevirtual 102, 3) := by decide +kernel
theorem dX4_joined_90 : decode cX4_joined 90 = .ok (.dmul, 1) := by decide +kernel
theorem dX4_joined_91 : decode cX4_joined 91 = .ok (.dstore 10, 2) := by decide +kernel
theorem dX4_joined_93 : decode cX4_joined 93 = .ok (.dload 4, 2) := by decide +kernel
theorem dX4_joined_95 : decode cX4_joined 95 = .ok (.dload 8, 2) := by decide +kernel
theorem dX4_joined_97 : decode cX4_joined 97 = .ok (.dmul, 1) := by decide +kernel
theorem dX4_joined_98 : decode cX4_joined 98 = .ok (.dload 6, 2) := by decide +kernel
theorem dX4_joined_100 : decode cX4_joined 100 = .ok (.dload 10, 2) := by decide +kernel
theorem dX4_joined_102 : decode cX4_joined 102 = .ok (.dmul, 1) := by decide +kernel
theorem dX4_joined_103 : decode cX4_joined 103 = .ok (.dadd, 1) := by decide +kernel
theorem dX4_joined_104 : decode cX4_joined 104 = .ok (.dload 8, 2) := by decide +kernel
theorem dX4_joined_106 : decode cX4_joined 106 = .ok (.dload 10, 2) := by decide +kernel
theorem dX4_joined_108 : decode cX4_joined 108 = .ok (.dadd, 1) := by decide +kernel
theorem dX4_joined_109 : decode cX4_joined 109 = .ok (.ddiv, 1) := by decide +kernel
theorem dX4_joined_110 : decode cX4_joined 110 = .ok (.dreturn, 1) := by decide +kernel
set_option maxRecDepth 20000 in
theorem ggX4_factor_X4_within : GoodIn wsX4_factor wsX4_within := goodIn_r _ [8] (by decide +kernel) (by decide +kernel)
set_option maxRecDepth 20000 in
theorem gX4_factor_X4_within : GoodIn wsX4_factor (va_wsS RX4 74 yX4_within wsX4_within) := goodIn_app (goodIn_of _ (by decide +kernel)) ggX4_factor_X4_within
theorem dX4_factor_0 : decode cX4_factor 0 = .ok (.aload_n 0, 1) := by decide +kernel
theorem dX4_factor_1 : decode cX4_factor 1 = .ok (.getfield 188, 3) := by decide +kernel
theorem dX4_factor_4 : decode cX4_factor 4 = .ok (.ifCond .eq 14, 3) := by decide +kernel
theorem dX4_factor_7 : decode cX4_factor 7 = .ok (.dload_n 1, 1) := by decide +kernel
theorem dX4_factor_8 : decode cX4_factor 8 = .ok (.dconst 0, 1) := by decide +kernel
theorem dX4_factor_9 : decode cX4_factor 9 = .ok (.ldc2_w 184, 3) := by decide +kernel
theorem dX4_factor_12 : decode cX4_factor 12 = .ok (.invokestatic 74, 3) := by decide +kernel
theorem dX4_factor_15 : decode cX4_factor 15 = .ok (.ifCond .ne 5, 3) := by decide +kernel
theorem dX4_factor_18 : decode cX4_factor 18 = .ok (.dconst 1, 1) := by decide +kernel
theorem dX4_factor_19 : decode cX4_factor 19 = .ok (.dreturn, 1) := by decide +kernel
theorem dX4_factor_20 : decode cX4_factor 20 = .ok (.iconst 0, 1) := by decide +kernel
theorem dX4_factor_21 : decode cX4_factor 21 = .ok (.istore_n 3, 1) := by decide +kernel
theorem dX4_factor_22 : decode cX4_factor 22 = .ok (.iload_n 3, 1) := by decide +kernel
theorem dX4_factor_23 : decode cX4_factor 23 = .ok (.aload_n 0, 1) := by decide +kernel
theorem dX4_factor_24 : decode cX4_factor 24 = .ok (.getfield 188, 3) := by decide +kernel
theorem dX4_factor_27 : decode cX4_factor 27 = .ok (.if_icmp .ge 20, 3) := by decide +kernel
theorem dX4_factor_30 : decode cX4_factor 30 = .ok (.aload_n 0, 1) := by decide +kernel
theorem dX4_factor_31 : decode cX4_factor 31 = .ok (.getfield 38, 3) := by decide +kernel
theorem dX4_factor_34 : decode cX4_factor 34 = .ok (.iload_n 3, 1) := by decide +kernel
theorem dX4_factor_35 : decode cX4_factor 35 = .ok (.daload, 1) := by decide +kernel
theorem dX4_factor_36 : decode cX4_factor 36 = .ok (.dload_n 1, 1) := by decide +kernel
theorem dX4_factor_37 : decode cX4_factor 37 = .ok (.dcmp .g, 1) := by decide +kernel
theorem dX4_factor_38 : decode cX4_factor 38 = .ok (.ifCond .gt 9, 3) := by decide +kernel
theorem dX4_factor_41 : decode cX4_factor 41 = .ok (.iinc 3 1, 3) := by decide +kernel
theorem dX4_factor_44 : decode cX4_factor 44 = .ok (.goto (-22), 3) := by decide +kernel
theorem dX4_factor_47 : decode cX4_factor 47 = .ok (.iload_n 3, 1) := by decide +kernel
theorem dX4_factor_48 : decode cX4_factor 48 = .ok (.ifCond .ne 10, 3) := by decide +kernel
theorem dX4_factor_51 : decode cX4_factor 51 = .ok (.aload_n 0, 1) := by decide +kernel
theorem dX4_factor_52 : decode cX4_factor 52 = .ok (.getfield 41, 3) := by decide +kernel
theorem dX4_factor_55 : decode cX4_factor 55 = .ok (.iconst 0, 1) := by decide +kernel
theorem dX4_factor_56 : decode cX4_factor 56 = .ok (.daload, 1) := by decide +kernel
theorem dX4_factor_57 : decode cX4_factor 57 = .ok (.dreturn, 1) := by decide +kernel
theorem dX4_factor_58 : decode cX4_factor 58 = .ok (.iload_n 3, 1) := by decide +kernel
theorem dX4_factor_59 : decode cX4_factor 59 = .ok (.aload_n 0, 1) := by decide +kernel
theorem dX4_factor_60 : decode cX4_factor 60 = .ok (.getfield 188, 3) := by decide +kernel
theorem dX4_factor_63 : decode cX4_factor 63 = .ok (.if_icmp .ne 15, 3) := by decide +kernel
theorem dX4_factor_66 : decode cX4_factor 66 = .ok (.aload_n 0, 1) := by decide +kernel
theorem dX4_factor_67 : decode cX4_factor 67 = .ok (.getfield 41, 3) := by decide +kernel
theorem dX4_factor_70 : decode cX4_factor 70 = .ok (.aload_n 0, 1) := by decide +kernel
theorem dX4_factor_71 : decode cX4_factor 71 = .ok (.getfield 188, 3) := by decide +kernel
theorem dX4_factor_74 : decode cX4_factor 74 = .ok (.iconst 1, 1) := by decide +kernel
theorem dX4_factor_75 : decode cX4_factor 75 = .ok (.isub, 1) := by decide +kernel
theorem dX4_factor_76 : decode cX4_factor 76 = .ok (.daload, 1) := by decide +kernel
theorem dX4_factor_77 : decode cX4_factor 77 = .ok (.dreturn, 1) := by decide +kernel
theorem dX4_factor_78 : decode cX4_factor 78 = .ok (.aload_n 0, 1) := by decide +kernel
theorem dX4_factor_79 : decode cX4_factor 79 = .ok (.getfield 41, 3) := by decide +kernel
theorem dX4_factor_82 : decode cX4_factor 82 = .ok (.iload_n 3, 1) := by decide +kernel
theorem dX4_factor_83 : decode cX4_factor 83 = .ok (.iconst 1, 1) := by decide +kernel
theorem dX4_factor_84 : decode cX4_factor 84 = .ok (.isub, 1) := by decide +kernel
theorem dX4_factor_85 : decode cX4_factor 85 = .ok (.daload, 1) := by decide +kernel
theorem dX4_factor_86 : decode cX4_factor 86 = .ok (.dstore 4, 2) := by decide +kernel
theorem dX4_factor_88 : decode cX4_factor 88 = .ok (.aload_n 0, 1) := by decide +kernel
theorem dX4_factor_89 : decode cX4_factor 89 = .ok (.getfield 41, 3) := by decide +kernel
theorem dX4_factor_92 : decode cX4_factor 92 = .ok (.iload_n 3, 1) := by decide +kernel
theorem dX4_factor_93 : decode cX4_factor 93 = .ok (.daload, 1) := by decide +kernel
theorem dX4_factor_94 : decode cX4_factor 94 = .ok (.dstore 6, 2) := by decide +kernel
theorem dX4_factor_96 : decode cX4_factor 96 = .ok (.aload_n 0, 1) := by decide +kernel
theorem dX4_factor_97 : decode cX4_factor 97 = .ok (.getfield 38, 3) := by decide +kernel
theorem dX4_factor_100 : decode cX4_factor 100 = .ok (.iload_n 3, 1) := by decide +kernel
theorem dX4_factor_101 : decode cX4_factor 101 = .ok (.iconst 1, 1) := by decide +kernel
theorem dX4_factor_102 : decode cX4_factor 102 = .ok (.isub, 1) := by decide +kernel
theorem dX4_factor_103 : decode cX4_factor 103 = .ok (.daload, 1) := by decide +kernel
theorem dX4_factor_104 : decode cX4_factor 104 = .ok (.dstore 8, 2) := by decide +kernel
theorem dX4_factor_106 : decode cX4_factor 106 = .ok (.aload_n 0, 1) := by decide +kernel
theorem dX4_factor_107 : decode cX4_factor 107 = .ok (.getfield 38, 3) := by decide +kernel
theorem dX4_factor_110 : decode cX4_factor 110 = .ok (.iload_n 3, 1) := by decide +kernel
theorem dX4_factor_111 : decode cX4_factor 111 = .ok (.daload, 1) := by decide +kernel
theorem dX4_factor_112 : decode cX4_factor 112 = .ok (.dstore 10, 2) := by decide +kernel
theorem dX4_factor_114 : decode cX4_factor 114 = .ok (.dload 4, 2) := by decide +kernel
theorem dX4_factor_116 : decode cX4_factor 116 = .ok (.dload 6, 2) := by decide +kernel
theorem dX4_factor_118 : decode cX4_factor 118 = .ok (.dload 4, 2) := by decide +kernel
theorem dX4_factor_120 : decode cX4_factor 120 = .ok (.dsub, 1) := by decide +kernel
theorem dX4_factor_121 : decode cX4_factor 121 = .ok (.dload_n 1, 1) := by decide +kernel
theorem dX4_factor_122 : decode cX4_factor 122 = .ok (.dload 8, 2) := by decide +kernel
theorem dX4_factor_124 : decode cX4_factor 124 = .ok (.dsub, 1) := by decide +kernel
theorem dX4_factor_125 : decode cX4_factor 125 = .ok (.dload 10, 2) := by decide +kernel
theorem dX4_factor_127 : decode cX4_factor 127 = .ok (.dload 8, 2) := by decide +kernel
theorem dX4_factor_129 : decode cX4_factor 129 = .ok (.dsub, 1) := by decide +kernel
theorem dX4_factor_130 : decode cX4_factor 130 = .ok (.ddiv, 1) := by decide +kernel
theorem dX4_factor_131 : decode cX4_factor 131 = .ok (.dmul, 1) := by decide +kernel
theorem dX4_factor_132 : decode cX4_factor 132 = .ok (.dadd, 1) := by decide +kernel
theorem dX4_factor_133 : decode cX4_factor 133 = .ok (.dreturn, 1) := by decide +kernel
set_option maxRecDepth 20000 in
theorem ggX4_map_X4_within : GoodIn wsX4_map wsX4_within := goodIn_r _ [7] (by decide +kernel) (by decide +kernel)
set_option maxRecDepth 20000 in
theorem gX4_map_X4_within : GoodIn wsX4_map (va_wsS RX4 74 yX4_within wsX4_within) := goodIn_app (goodIn_of _ (by decide +kernel)) ggX4_map_X4_within
set_option maxRecDepth 20000 in
theorem ggX4_map_X4_hasBottom : GoodIn wsX4_map wsX4_hasBottom := goodIn_r _ [11, 12, 13, 14, 6, 15, 16, 17, 18, 19, 20, 21, 22, 23, 24, 25, 26, 27, 28, 49, 50, 51, 52, 53, 54, 55, 56, 57, 58, 59, 60, 61, 62, 63, 64, 65, 66, 67, 68, 69, 70, 71, 72] (by decide +kernel) (by decide +kernel)
set_option maxRecDepth 20000 in
theorem gX4_map_X4_hasBottom : GoodIn wsX4_map (wsV RX4 152 RX4 yX4_hasBottom wsX4_hasBottom) := goodIn_app (goodIn_of _ (by decide +kernel)) ggX4_map_X4_hasBottom
set_option maxRecDepth 20000 in
theorem ggX4_map_X4_bottom : GoodIn wsX4_map wsX4_bottom := goodIn_r _ [32, 33, 3, 8, 9, 10, 6, 11, 12, 13, 14, 15, 16, 17, 18, 19, 20, 21, 22, 23, 24, 25, 26, 27, 28, 34, 35, 36, 37, 38, 39, 40, 41, 42, 43, 44, 45, 46, 47, 48, 49, 50, 51, 52, 53, 54, 55, 56, 57, 58, 59, 60, 61, 62, 63, 64, 65, 66, 67, 68, 69, 70, 71, 72] (by decide +kernel) (by decide +kernel)
set_option maxRecDepth 20000 in
theorem gX4_map_X4_bottom : GoodIn wsX4_map (wsV RX4 203 RX4 yX4_bottom wsX4_bottom) := goodIn_app (goodIn_of _ (by decide +kernel)) ggX4_map_X4_bottom
theorem dX4_map_0 : decode cX4_map 0 = .ok (.dload_n 1, 1) := by decide +kernel
theorem dX4_map_1 : decode cX4_map 1 = .ok (.ldc2_w 199, 3) := by decide +kernel
theorem dX4_map_4 : decode cX4_map 4 = .ok (.ldc2_w 201, 3) := by decide +kernel
theorem dX4_map_7 : decode cX4_map 7 = .ok (.invokestatic 74, 3) := by decide +kernel
theorem dX4_map_10 : decode cX4_map 10 = .ok (.ifCond .eq 16, 3) := by decide +kernel
theorem dX4_map_13 : decode cX4_map 13 = .ok (.dload_n 3, 1) := by decide +kernel
theorem dX4_map_14 : decode cX4_map 14 = .ok (.ldc2_w 199, 3) := by decide +kernel
theorem dX4_map_17 : decode cX4_map 17 = .ok (.ldc2_w 201, 3) := by decide +kernel
theorem dX4_map_20 : decode cX4_map 20 = .ok (.invokestatic 74, 3) := by decide +kernel
theorem dX4_map_23 : decode cX4_map 23 = .ok (.ifCond .ne 7, 3) := by decide +kernel
theorem dX4_map_26 : decode cX4_map 26 = .ok (.ldc2_w 158, 3) := by decide +kernel
theorem dX4_map_29 : decode cX4_map 29 = .ok (.dreturn, 1) := by decide +kernel
theorem dX4_map_30 : decode cX4_map 30 = .ok (.dconst 0, 1) := by decide +kernel
theorem dX4_map_31 : decode cX4_map 31 = .ok (.dstore 5, 2) := by decide +kernel
theorem dX4_map_33 : decode cX4_map 33 = .ok (.dconst 0, 1) := by decide +kernel
theorem dX4_map_34 : decode cX4_map 34 = .ok (.dstore 7, 2) := by decide +kernel
theorem dX4_map_36 : decode cX4_map 36 = .ok (.iconst 0, 1) := by decide +kernel
theorem dX4_map_37 : decode cX4_map 37 = .ok (.istore 9, 2) := by decide +kernel
theorem dX4_map_39 : decode cX4_map 39 = .ok (.iconst 0, 1) := by decide +kernel
theorem dX4_map_40 : decode cX4_map 40 = .ok (.istore 10, 2) := by decide +kernel
theorem dX4_map_42 : decode cX4_map 42 = .ok (.iload 10, 2) := by decide +kernel
theorem dX4_map_44 : decode cX4_map 44 = .ok (.bipush 32, 2) := by decide +kernel
theorem dX4_map_46 : decode cX4_map 46 = .ok (.if_icmp .ge 63, 3) := by decide +kernel
theorem dX4_map_49 : decode cX4_map 49 = .ok (.aload_n 0, 1) := by decide +kernel
theorem dX4_map_50 : decode cX4_map 50 = .ok (.iload 10, 2) := by decide +kernel
theorem dX4_map_52 : decode cX4_map 52 = .ok (.invokevirtual 152, 3) := by decide +kernel
theorem dX4_map_55 : decode cX4_map 55 = .ok (.ifCond .eq 48, 3) := by decide +kernel
theorem dX4_map_58 : decode cX4_map 58 = .ok (.dconst 1, 1) := by decide +kernel
theorem dX4_map_59 : decode cX4_map 59 = .ok (.dconst 1, 1) := by decide +kernel
theorem dX4_map_60 : decode cX4_map 60 = .ok (.dload_n 1, 1) := by decide +kernel
theorem dX4_map_61 : decode cX4_map 61 = .ok (.iload 10, 2) := by decide +kernel
theorem dX4_map_63 : decode cX4_map 63 = .ok (.i2d, 1) := by decide +kernel
theorem dX4_map_64 : decode cX4_map 64 = .ok (.dsub, 1) := by decide +kernel
theorem dX4_map_65 : decode cX4_map 65 = .ok (.dload_n 1, 1) := by decide +kernel
theorem dX4_map_66 : decode cX4_map 66 = .ok (.iload 10, 2) := by decide +kernel
theorem dX4_map_68 : decode cX4_map 68 = .ok (.i2d, 1) := by decide +kernel
theorem dX4_map_69 : decode cX4_map 69 = .ok (.dsub, 1) := by decide +kernel
theorem dX4_map_70 : decode cX4_map 70 = .ok (.dmul, 1) := by decide +kernel
theorem dX4_map_71 : decode cX4_map 71 = .ok (.dadd, 1) := by decide +kernel
theorem dX4_map_72 : decode cX4_map 72 = .ok (.dload_n 3, 1) := by decide +kernel
theorem dX4_map_73 : decode cX4_map 73 = .ok (.dload_n 3, 1) := by decide +kernel
theorem dX4_map_74 : decode cX4_map 74 = .ok (.dmul, 1) := by decide +kernel
theorem dX4_map_75 : decode cX4_map 75 = .ok (.dadd, 1) := by decide +kernel
theorem dX4_map_76 : decode cX4_map 76 = .ok (.ddiv, 1) := by decide +kernel
theorem dX4_map_77 : decode cX4_map 77 = .ok (.dstore 11, 2) := by decide +kernel
theorem dX4_map_79 : decode cX4_map 79 = .ok (.dload 5, 2) := by decide +kernel
theorem dX4_map_81 : decode cX4_map 81 = .ok (.dload 11, 2) := by decide +kernel
theorem dX4_map_83 : decode cX4_map 83 = .ok (.aload_n 0, 1) := by decide +kernel
theorem dX4_map_84 : decode cX4_map 84 = .ok (.iload 10, 2) := by decide +kernel
theorem dX4_map_86 : decode cX4_map 86 = .ok (.invokevirtual 203, 3) := by decide +kernel
theorem dX4_map_89 : decode cX4_map 89 = .ok (.dmul, 1) := by decide +kernel
theorem dX4_map_90 : decode cX4_map 90 = .ok (.dadd, 1) := by decide +kernel
theorem dX4_map_91 : decode cX4_map 91 = .ok (.dstore 5, 2) := by decide +kernel
theorem dX4_map_93 : decode cX4_map 93 = .ok (.dload 7, 2) := by decide +kernel
theorem dX4_map_95 : decode cX4_map 95 = .ok (.dload 11, 2) := by decide +kernel
theorem dX4_map_97 : decode cX4_map 97 = .ok (.dadd, 1) := by decide +kernel
theorem dX4_map_98 : decode cX4_map 98 = .ok (.dstore 7, 2) := by decide +kernel
theorem dX4_map_100 : decode cX4_map 100 = .ok (.iconst 1, 1) := by decide +kernel
theorem dX4_map_101 : decode cX4_map 101 = .ok (.istore 9, 2) := by decide +kernel
theorem dX4_map_103 : decode cX4_map 103 = .ok (.iinc 10 1, 3) := by decide +kernel
theorem dX4_map_106 : decode cX4_map 106 = .ok (.goto (-64), 3) := by decide +kernel
theorem dX4_map_109 : decode cX4_map 109 = .ok (.iload 9, 2) := by decide +kernel
theorem dX4_map_111 : decode cX4_map 111 = .ok (.ifCond .eq 11, 3) := by decide +kernel
theorem dX4_map_114 : decode cX4_map 114 = .ok (.dload 5, 2) := by decide +kernel
theorem dX4_map_116 : decode cX4_map 116 = .ok (.dload 7, 2) := by decide +kernel
theorem dX4_map_118 : decode cX4_map 118 = .ok (.ddiv, 1) := by decide +kernel
theorem dX4_map_119 : decode cX4_map 119 = .ok (.goto 6, 3) := by decide +kernel
theorem dX4_map_122 : decode cX4_map 122 = .ok (.ldc2_w 158, 3) := by decide +kernel
theorem dX4_map_125 : decode cX4_map 125 = .ok (.dreturn, 1) := by decide +kernel

abbrev vwCl : List vw_C := [(RX0, TX0, 7), (RX1, TX1, 3), (RX2, TX2, 8), (RX3, TX3, 7), (RX4, TX4, 24)]
set_option maxRecDepth 20000 in
theorem ggX0_init_J7_fill_7f8df : GoodIn wsX0_init wsJ7_fill_7f8df := goodIn_r _ [25] (by decide +kernel) (by decide +kernel)
set_option maxRecDepth 20000 in
theorem gX0_init_J7_fill_7f8df : GoodIn wsX0_init (va_wsS RX0 49 yJ7_fill_7f8df wsJ7_fill_7f8df) := goodIn_app (goodIn_of _ (by decide +kernel)) ggX0_init_J7_fill_7f8df
theorem dX0_init_0 : decode cX0_init 0 = .ok (.aload_n 0, 1) := by decide +kernel
theorem dX0_init_1 : decode cX0_init 1 = .ok (.invokespecial 3, 3) := by decide +kernel
theorem dX0_init_4 : decode cX0_init 4 = .ok (.aload_n 0, 1) := by decide +kernel
theorem dX0_init_5 : decode cX0_init 5 = .ok (.bipush 32, 2) := by decide +kernel
theorem dX0_init_7 : decode cX0_init 7 = .ok (.newarray .boolean, 2) := by decide +kernel
theorem dX0_init_9 : decode cX0_init 9 = .ok (.putfield 9, 3) := by decide +kernel
theorem dX0_init_12 : decode cX0_init 12 = .ok (.aload_n 0, 1) := by decide +kernel
theorem dX0_init_13 : decode cX0_init 13 = .ok (.dconst 0, 1) := by decide +kernel
theorem dX0_init_14 : decode cX0_init 14 = .ok (.putfield 15, 3) := by decide +kernel
theorem dX0_init_17 : decode cX0_init 17 = .ok (.aload_n 0, 1) := by decide +kernel
theorem dX0_init_18 : decode cX0_init 18 = .ok (.dconst 0, 1) := by decide +kernel
theorem dX0_init_19 : decode cX0_init 19 = .ok (.putfield 19, 3) := by decide +kernel
theorem dX0_init_22 : decode cX0_init 22 = .ok (.aload_n 0, 1) := by decide +kernel
theorem dX0_init_23 : decode cX0_init 23 = .ok (.dconst 0, 1) := by decide +kernel
theorem dX0_init_24 : decode cX0_init 24 = .ok (.putfield 22, 3) := by decide +kernel
theorem dX0_init_27 : decode cX0_init 27 = .ok (.aload_n 0, 1) := by decide +kernel
theorem dX0_init_28 : decode cX0_init 28 = .ok (.iconst 1, 1) := by decide +kernel
theorem dX0_init_29 : decode cX0_init 29 = .ok (.bipush 64, 2) := by decide +kernel
theorem dX0_init_31 : decode cX0_init 31 = .ok (.iload_n 1, 1) := by decide +kernel
theorem dX0_init_32 : decode cX0_init 32 = .ok (.invokestatic 25, 3) := by decide +kernel
theorem dX0_init_35 : decode cX0_init 35 = .ok (.invokestatic 31, 3) := by decide +kernel
theorem dX0_init_38 : decode cX0_init 38 = .ok (.putfield 34, 3) := by decide +kernel
theorem dX0_init_41 : decode cX0_init 41 = .ok (.aload_n 0, 1) := by decide +kernel
theorem dX0_init_42 : decode cX0_init 42 = .ok (.iload_n 2, 1) := by decide +kernel
theorem dX0_init_43 : decode cX0_init 43 = .ok (.iconst 1, 1) := by decide +kernel
theorem dX0_init_44 : decode cX0_init 44 = .ok (.if_icmp .lt 19, 3) := by decide +kernel
theorem dX0_init_47 : decode cX0_init 47 = .ok (.iload_n 2, 1) := by decide +kernel
theorem dX0_init_48 : decode cX0_init 48 = .ok (.sipush 800, 3) := by decide +kernel
theorem dX0_init_51 : decode cX0_init 51 = .ok (.if_icmp .gt 12, 3) := by decide +kernel
theorem dX0_init_54 : decode cX0_init 54 = .ok (.iload_n 2, 1) := by decide +kernel
theorem dX0_init_55 : decode cX0_init 55 = .ok (.i2d, 1) := by decide +kernel
theorem dX0_init_56 : decode cX0_init 56 = .ok (.ldc2_w 38, 3) := by decide +kernel
theorem dX0_init_59 : decode cX0_init 59 = .ok (.dmul, 1) := by decide +kernel
theorem dX0_init_60 : decode cX0_init 60 = .ok (.goto 4, 3) := by decide +kernel
theorem dX0_init_63 : decode cX0_init 63 = .ok (.dconst 1, 1) := by decide +kernel
theorem dX0_init_64 : decode cX0_init 64 = .ok (.putfield 40, 3) := by decide +kernel
theorem dX0_init_67 : decode cX0_init 67 = .ok (.aload_n 0, 1) := by decide +kernel
theorem dX0_init_68 : decode cX0_init 68 = .ok (.sipush 128, 3) := by decide +kernel
theorem dX0_init_71 : decode cX0_init 71 = .ok (.aload_n 0, 1) := by decide +kernel
theorem dX0_init_72 : decode cX0_init 72 = .ok (.getfield 34, 3) := by decide +kernel
theorem dX0_init_75 : decode cX0_init 75 = .ok (.imul, 1) := by decide +kernel
theorem dX0_init_76 : decode cX0_init 76 = .ok (.newarray .double, 2) := by decide +kernel
theorem dX0_init_78 : decode cX0_init 78 = .ok (.putfield 43, 3) := by decide +kernel
theorem dX0_init_81 : decode cX0_init 81 = .ok (.aload_n 0, 1) := by decide +kernel
theorem dX0_init_82 : decode cX0_init 82 = .ok (.getfield 43, 3) := by decide +kernel
theorem dX0_init_85 : decode cX0_init 85 = .ok (.ldc2_w 47, 3) := by decide +kernel
theorem dX0_init_88 : decode cX0_init 88 = .ok (.invokestatic 49, 3) := by decide +kernel
theorem dX0_init_91 : decode cX0_init 91 = .ok (.return_, 1) := by decide +kernel
theorem dX0_isSample_0 : decode cX0_isSample 0 = .ok (.iload_n 1, 1) := by decide +kernel
theorem dX0_isSample_1 : decode cX0_isSample 1 = .ok (.ifCond .lt 15, 3) := by decide +kernel
theorem dX0_isSample_4 : decode cX0_isSample 4 = .ok (.iload_n 1, 1) := by decide +kernel
theorem dX0_isSample_5 : decode cX0_isSample 5 = .ok (.aload_n 0, 1) := by decide +kernel
theorem dX0_isSample_6 : decode cX0_isSample 6 = .ok (.getfield 34, 3) := by decide +kernel
theorem dX0_isSample_9 : decode cX0_isSample 9 = .ok (.if_icmp .ge 7, 3) := by decide +kernel
theorem dX0_isSample_12 : decode cX0_isSample 12 = .ok (.iconst 1, 1) := by decide +kernel
theorem dX0_isSample_13 : decode cX0_isSample 13 = .ok (.goto 4, 3) := by decide +kernel
theorem dX0_isSample_16 : decode cX0_isSample 16 = .ok (.iconst 0, 1) := by decide +kernel
theorem dX0_isSample_17 : decode cX0_isSample 17 = .ok (.ireturn, 1) := by decide +kernel
theorem dX0_range_0 : decode cX0_range 0 = .ok (.iload_n 1, 1) := by decide +kernel
theorem dX0_range_1 : decode cX0_range 1 = .ok (.iconst 1, 1) := by decide +kernel
theorem dX0_range_2 : decode cX0_range 2 = .ok (.iadd, 1) := by decide +kernel
theorem dX0_range_3 : decode cX0_range 3 = .ok (.i2d, 1) := by decide +kernel
theorem dX0_range_4 : decode cX0_range 4 = .ok (.aload_n 0, 1) := by decide +kernel
theorem dX0_range_5 : decode cX0_range 5 = .ok (.getfield 40, 3) := by decide +kernel
theorem dX0_range_8 : decode cX0_range 8 = .ok (.dmul, 1) := by decide +kernel
theorem dX0_range_9 : decode cX0_range 9 = .ok (.dreturn, 1) := by decide +kernel
theorem dX0_setLosses_0 : decode cX0_setLosses 0 = .ok (.aload_n 0, 1) := by decide +kernel
theorem dX0_setLosses_1 : decode cX0_setLosses 1 = .ok (.dload_n 1, 1) := by decide +kernel
theorem dX0_setLosses_2 : decode cX0_setLosses 2 = .ok (.putfield 15, 3) := by decide +kernel
theorem dX0_setLosses_5 : decode cX0_setLosses 5 = .ok (.aload_n 0, 1) := by decide +kernel
theorem dX0_setLosses_6 : decode cX0_setLosses 6 = .ok (.dload_n 3, 1) := by decide +kernel
theorem dX0_setLosses_7 : decode cX0_setLosses 7 = .ok (.putfield 19, 3) := by decide +kernel
theorem dX0_setLosses_10 : decode cX0_setLosses 10 = .ok (.return_, 1) := by decide +kernel
theorem dX0_setNoiseLevel_0 : decode cX0_setNoiseLevel 0 = .ok (.aload_n 0, 1) := by decide +kernel
theorem dX0_setNoiseLevel_1 : decode cX0_setNoiseLevel 1 = .ok (.dload_n 1, 1) := by decide +kernel
theorem dX0_setNoiseLevel_2 : decode cX0_setNoiseLevel 2 = .ok (.putfield 22, 3) := by decide +kernel
theorem dX0_setNoiseLevel_5 : decode cX0_setNoiseLevel 5 = .ok (.return_, 1) := by decide +kernel
set_option maxRecDepth 20000 in
theorem ggX0_tell_X0_placeOf : GoodIn wsX0_tell wsX0_placeOf := goodIn_r _ [7, 8, 9, 10, 11, 12, 13, 14, 15, 16, 6, 17, 20, 21, 22, 23, 24, 25, 26] (by decide +kernel) (by decide +kernel)
set_option maxRecDepth 20000 in
theorem gX0_tell_X0_placeOf : GoodIn wsX0_tell (wsV RX0 55 RX0 yX0_placeOf wsX0_placeOf) := goodIn_app (goodIn_of _ (by decide +kernel)) ggX0_tell_X0_placeOf
set_option maxRecDepth 20000 in
theorem ggX0_tell_X3_within : GoodIn wsX0_tell wsX3_within := goodIn_r _ [19] (by decide +kernel) (by decide +kernel)
set_option maxRecDepth 20000 in
theorem gX0_tell_X3_within_n61 : GoodIn wsX0_tell (wsX3_within) := ggX0_tell_X3_within
theorem dX0_tell_0 : decode cX0_tell 0 = .ok (.aload_n 0, 1) := by decide +kernel
theorem dX0_tell_1 : decode cX0_tell 1 = .ok (.iload_n 1, 1) := by decide +kernel
theorem dX0_tell_2 : decode cX0_tell 2 = .ok (.iload_n 2, 1) := by decide +kernel
theorem dX0_tell_3 : decode cX0_tell 3 = .ok (.iload_n 3, 1) := by decide +kernel
theorem dX0_tell_4 : decode cX0_tell 4 = .ok (.invokevirtual 55, 3) := by decide +kernel
theorem dX0_tell_7 : decode cX0_tell 7 = .ok (.istore 6, 2) := by decide +kernel
theorem dX0_tell_9 : decode cX0_tell 9 = .ok (.iload 6, 2) := by decide +kernel
theorem dX0_tell_11 : decode cX0_tell 11 = .ok (.iconst (-1), 1) := by decide +kernel
theorem dX0_tell_12 : decode cX0_tell 12 = .ok (.if_icmp .eq 15, 3) := by decide +kernel
theorem dX0_tell_15 : decode cX0_tell 15 = .ok (.dload 4, 2) := by decide +kernel
theorem dX0_tell_17 : decode cX0_tell 17 = .ok (.dconst 0, 1) := by decide +kernel
theorem dX0_tell_18 : decode cX0_tell 18 = .ok (.ldc2_w 59, 3) := by decide +kernel
theorem dX0_tell_21 : decode cX0_tell 21 = .ok (.invokestatic 61, 3) := by decide +kernel
theorem dX0_tell_24 : decode cX0_tell 24 = .ok (.ifCond .ne 5, 3) := by decide +kernel
theorem dX0_tell_27 : decode cX0_tell 27 = .ok (.iconst 0, 1) := by decide +kernel
theorem dX0_tell_28 : decode cX0_tell 28 = .ok (.ireturn, 1) := by decide +kernel
theorem dX0_tell_29 : decode cX0_tell 29 = .ok (.aload_n 0, 1) := by decide +kernel
theorem dX0_tell_30 : decode cX0_tell 30 = .ok (.getfield 43, 3) := by decide +kernel
theorem dX0_tell_33 : decode cX0_tell 33 = .ok (.iload 6, 2) := by decide +kernel
theorem dX0_tell_35 : decode cX0_tell 35 = .ok (.dload 4, 2) := by decide +kernel
theorem dX0_tell_37 : decode cX0_tell 37 = .ok (.dastore, 1) := by decide +kernel
theorem dX0_tell_38 : decode cX0_tell 38 = .ok (.iconst 1, 1) := by decide +kernel
theorem dX0_tell_39 : decode cX0_tell 39 = .ok (.ireturn, 1) := by decide +kernel
set_option maxRecDepth 20000 in
theorem ggX0_lose_X3_isPing : GoodIn wsX0_lose wsX3_isPing := goodIn_r _ [4] (by decide +kernel) (by decide +kernel)
set_option maxRecDepth 20000 in
theorem gX0_lose_X3_isPing_n65 : GoodIn wsX0_lose (wsX3_isPing) := ggX0_lose_X3_isPing
theorem dX0_lose_0 : decode cX0_lose 0 = .ok (.iload_n 1, 1) := by decide +kernel
theorem dX0_lose_1 : decode cX0_lose 1 = .ok (.invokestatic 65, 3) := by decide +kernel
theorem dX0_lose_4 : decode cX0_lose 4 = .ok (.ifCond .ne 5, 3) := by decide +kernel
theorem dX0_lose_7 : decode cX0_lose 7 = .ok (.iconst 0, 1) := by decide +kernel
theorem dX0_lose_8 : decode cX0_lose 8 = .ok (.ireturn, 1) := by decide +kernel
theorem dX0_lose_9 : decode cX0_lose 9 = .ok (.aload_n 0, 1) := by decide +kernel
theorem dX0_lose_10 : decode cX0_lose 10 = .ok (.getfield 9, 3) := by decide +kernel
theorem dX0_lose_13 : decode cX0_lose 13 = .ok (.iload_n 1, 1) := by decide +kernel
theorem dX0_lose_14 : decode cX0_lose 14 = .ok (.iconst 1, 1) := by decide +kernel
theorem dX0_lose_15 : decode cX0_lose 15 = .ok (.bastore, 1) := by decide +kernel
theorem dX0_lose_16 : decode cX0_lose 16 = .ok (.iconst 1, 1) := by decide +kernel
theorem dX0_lose_17 : decode cX0_lose 17 = .ok (.ireturn, 1) := by decide +kernel
set_option maxRecDepth 20000 in
theorem ggX0_isLost_X3_isPing : GoodIn wsX0_isLost wsX3_isPing := goodIn_r _ [4] (by decide +kernel) (by decide +kernel)
set_option maxRecDepth 20000 in
theorem gX0_isLost_X3_isPing_n65 : GoodIn wsX0_isLost (wsX3_isPing) := ggX0_isLost_X3_isPing
theorem dX0_isLost_0 : decode cX0_isLost 0 = .ok (.iload_n 1, 1) := by decide +kernel
theorem dX0_isLost_1 : decode cX0_isLost 1 = .ok (.invokestatic 65, 3) := by decide +kernel
theorem dX0_isLost_4 : decode cX0_isLost 4 = .ok (.ifCond .eq 16, 3) := by decide +kernel
theorem dX0_isLost_7 : decode cX0_isLost 7 = .ok (.aload_n 0, 1) := by decide +kernel
theorem dX0_isLost_8 : decode cX0_isLost 8 = .ok (.getfield 9, 3) := by decide +kernel
theorem dX0_isLost_11 : decode cX0_isLost 11 = .ok (.iload_n 1, 1) := by decide +kernel
theorem dX0_isLost_12 : decode cX0_isLost 12 = .ok (.baload, 1) := by decide +kernel
theorem dX0_isLost_13 : decode cX0_isLost 13 = .ok (.ifCond .eq 7, 3) := by decide +kernel
theorem dX0_isLost_16 : decode cX0_isLost 16 = .ok (.iconst 1, 1) := by decide +kernel
theorem dX0_isLost_17 : decode cX0_isLost 17 = .ok (.goto 4, 3) := by decide +kernel
theorem dX0_isLost_20 : decode cX0_isLost 20 = .ok (.iconst 0, 1) := by decide +kernel
theorem dX0_isLost_21 : decode cX0_isLost 21 = .ok (.ireturn, 1) := by decide +kernel
set_option maxRecDepth 20000 in
theorem ggX0_isSilent_X0_placeOf : GoodIn wsX0_isSilent wsX0_placeOf := goodIn_r _ [7, 1, 8, 9, 10, 11, 12, 13, 14, 15, 6, 16, 17, 18, 19, 20, 21, 22, 23] (by decide +kernel) (by decide +kernel)
set_option maxRecDepth 20000 in
theorem gX0_isSilent_X0_placeOf : GoodIn wsX0_isSilent (wsV RX0 55 RX0 yX0_placeOf wsX0_placeOf) := goodIn_app (goodIn_of _ (by decide +kernel)) ggX0_isSilent_X0_placeOf
theorem dX0_isSilent_0 : decode cX0_isSilent 0 = .ok (.iconst 0, 1) := by decide +kernel
theorem dX0_isSilent_1 : decode cX0_isSilent 1 = .ok (.istore_n 3, 1) := by decide +kernel
theorem dX0_isSilent_2 : decode cX0_isSilent 2 = .ok (.iload_n 3, 1) := by decide +kernel
theorem dX0_isSilent_3 : decode cX0_isSilent 3 = .ok (.aload_n 0, 1) := by decide +kernel
theorem dX0_isSilent_4 : decode cX0_isSilent 4 = .ok (.getfield 34, 3) := by decide +kernel
theorem dX0_isSilent_7 : decode cX0_isSilent 7 = .ok (.if_icmp .ge 38, 3) := by decide +kernel
theorem dX0_isSilent_10 : decode cX0_isSilent 10 = .ok (.aload_n 0, 1) := by decide +kernel
theorem dX0_isSilent_11 : decode cX0_isSilent 11 = .ok (.iload_n 1, 1) := by decide +kernel
theorem dX0_isSilent_12 : decode cX0_isSilent 12 = .ok (.iload_n 2, 1) := by decide +kernel
theorem dX0_isSilent_13 : decode cX0_isSilent 13 = .ok (.iload_n 3, 1) := by decide +kernel
theorem dX0_isSilent_14 : decode cX0_isSilent 14 = .ok (.invokevirtual 55, 3) := by decide +kernel
theorem dX0_isSilent_17 : decode cX0_isSilent 17 = .ok (.istore 4, 2) := by decide +kernel
theorem dX0_isSilent_19 : decode cX0_isSilent 19 = .ok (.iload 4, 2) := by decide +kernel
theorem dX0_isSilent_21 : decode cX0_isSilent 21 = .ok (.iconst (-1), 1) := by decide +kernel
theorem dX0_isSilent_22 : decode cX0_isSilent 22 = .ok (.if_icmp .eq 17, 3) := by decide +kernel
theorem dX0_isSilent_25 : decode cX0_isSilent 25 = .ok (.aload_n 0, 1) := by decide +kernel
theorem dX0_isSilent_26 : decode cX0_isSilent 26 = .ok (.getfield 43, 3) := by decide +kernel
theorem dX0_isSilent_29 : decode cX0_isSilent 29 = .ok (.iload 4, 2) := by decide +kernel
theorem dX0_isSilent_31 : decode cX0_isSilent 31 = .ok (.daload, 1) := by decide +kernel
theorem dX0_isSilent_32 : decode cX0_isSilent 32 = .ok (.dconst 0, 1) := by decide +kernel
theorem dX0_isSilent_33 : decode cX0_isSilent 33 = .ok (.dcmp .l, 1) := by decide +kernel
theorem dX0_isSilent_34 : decode cX0_isSilent 34 = .ok (.ifCond .lt 5, 3) := by decide +kernel
theorem dX0_isSilent_37 : decode cX0_isSilent 37 = .ok (.iconst 0, 1) := by decide +kernel
theorem dX0_isSilent_38 : decode cX0_isSilent 38 = .ok (.ireturn, 1) := by decide +kernel
theorem dX0_isSilent_39 : decode cX0_isSilent 39 = .ok (.iinc 3 1, 3) := by decide +kernel
theorem dX0_isSilent_42 : decode cX0_isSilent 42 = .ok (.goto (-40), 3) := by decide +kernel
theorem dX0_isSilent_45 : decode cX0_isSilent 45 = .ok (.iconst 1, 1) := by decide +kernel
theorem dX0_isSilent_46 : decode cX0_isSilent 46 = .ok (.ireturn, 1) := by decide +kernel
set_option maxRecDepth 20000 in
theorem ggX0_strength_X0_placeOf : GoodIn wsX0_strength wsX0_placeOf := goodIn_r _ [14, 15, 16, 17, 18, 19, 20, 21, 22, 23, 13, 24, 35, 36, 37, 38, 39, 40, 41] (by decide +kernel) (by decide +kernel)
set_option maxRecDepth 20000 in
theorem gX0_strength_X0_placeOf : GoodIn wsX0_strength (wsV RX0 55 RX0 yX0_placeOf wsX0_placeOf) := goodIn_app (goodIn_of _ (by decide +kernel)) ggX0_strength_X0_placeOf
set_option maxRecDepth 20000 in
theorem ggX0_strength_X0_isLost : GoodIn wsX0_strength wsX0_isLost := goodIn_r _ [28, 29, 19, 17, 20, 35, 36, 37, 38, 39, 40, 41] (by decide +kernel) (by decide +kernel)
set_option maxRecDepth 20000 in
theorem gX0_strength_X0_isLost : GoodIn wsX0_strength (wsV RX0 69 RX0 yX0_isLost wsX0_isLost) := goodIn_app (goodIn_of _ (by decide +kernel)) ggX0_strength_X0_isLost
set_option maxRecDepth 20000 in
theorem ggX0_strength_X0_range : GoodIn wsX0_strength wsX0_range := goodIn_r _ [33, 34, 35, 36, 37, 38, 39, 40, 41] (by decide +kernel) (by decide +kernel)
set_option maxRecDepth 20000 in
theorem gX0_strength_X0_range : GoodIn wsX0_strength (wsV RX0 72 RX0 yX0_range wsX0_range) := goodIn_app (goodIn_of _ (by decide +kernel)) ggX0_strength_X0_range
theorem dX0_strength_0 : decode cX0_strength 0 = .ok (.aload_n 0, 1) := by decide +kernel
theorem dX0_strength_1 : decode cX0_strength 1 = .ok (.iload_n 1, 1) := by decide +kernel
theorem dX0_strength_2 : decode cX0_strength 2 = .ok (.iload_n 2, 1) := by decide +kernel
theorem dX0_strength_3 : decode cX0_strength 3 = .ok (.iload_n 3, 1) := by decide +kernel
theorem dX0_strength_4 : decode cX0_strength 4 = .ok (.invokevirtual 55, 3) := by decide +kernel
theorem dX0_strength_7 : decode cX0_strength 7 = .ok (.istore 4, 2) := by decide +kernel
theorem dX0_strength_9 : decode cX0_strength 9 = .ok (.iload 4, 2) := by decide +kernel
theorem dX0_strength_11 : decode cX0_strength 11 = .ok (.iconst (-1), 1) := by decide +kernel
theorem dX0_strength_12 : decode cX0_strength 12 = .ok (.if_icmp .eq 23, 3) := by decide +kernel
theorem dX0_strength_15 : decode cX0_strength 15 = .ok (.aload_n 0, 1) := by decide +kernel
theorem dX0_strength_16 : decode cX0_strength 16 = .ok (.getfield 43, 3) := by decide +kernel
theorem dX0_strength_19 : decode cX0_strength 19 = .ok (.iload 4, 2) := by decide +kernel
theorem dX0_strength_21 : decode cX0_strength 21 = .ok (.daload, 1) := by decide +kernel
theorem dX0_strength_22 : decode cX0_strength 22 = .ok (.dconst 0, 1) := by decide +kernel
theorem dX0_strength_23 : decode cX0_strength 23 = .ok (.dcmp .g, 1) := by decide +kernel
theorem dX0_strength_24 : decode cX0_strength 24 = .ok (.ifCond .lt 11, 3) := by decide +kernel
theorem dX0_strength_27 : decode cX0_strength 27 = .ok (.aload_n 0, 1) := by decide +kernel
theorem dX0_strength_28 : decode cX0_strength 28 = .ok (.iload_n 2, 1) := by decide +kernel
theorem dX0_strength_29 : decode cX0_strength 29 = .ok (.invokevirtual 69, 3) := by decide +kernel
theorem dX0_strength_32 : decode cX0_strength 32 = .ok (.ifCond .eq 5, 3) := by decide +kernel
theorem dX0_strength_35 : decode cX0_strength 35 = .ok (.lconst 0, 1) := by decide +kernel
theorem dX0_strength_36 : decode cX0_strength 36 = .ok (.lreturn, 1) := by decide +kernel
theorem dX0_strength_37 : decode cX0_strength 37 = .ok (.aload_n 0, 1) := by decide +kernel
theorem dX0_strength_38 : decode cX0_strength 38 = .ok (.iload_n 3, 1) := by decide +kernel
theorem dX0_strength_39 : decode cX0_strength 39 = .ok (.invokevirtual 72, 3) := by decide +kernel
theorem dX0_strength_42 : decode cX0_strength 42 = .ok (.dstore 5, 2) := by decide +kernel
theorem dX0_strength_44 : decode cX0_strength 44 = .ok (.aload_n 0, 1) := by decide +kernel
theorem dX0_strength_45 : decode cX0_strength 45 = .ok (.getfield 43, 3) := by decide +kernel
theorem dX0_strength_48 : decode cX0_strength 48 = .ok (.iload 4, 2) := by decide +kernel
theorem dX0_strength_50 : decode cX0_strength 50 = .ok (.daload, 1) := by decide +kernel
theorem dX0_strength_51 : decode cX0_strength 51 = .ok (.aload_n 0, 1) := by decide +kernel
theorem dX0_strength_52 : decode cX0_strength 52 = .ok (.getfield 15, 3) := by decide +kernel
theorem dX0_strength_55 : decode cX0_strength 55 = .ok (.dload 5, 2) := by decide +kernel
theorem dX0_strength_57 : decode cX0_strength 57 = .ok (.dmul, 1) := by decide +kernel
theorem dX0_strength_58 : decode cX0_strength 58 = .ok (.dadd, 1) := by decide +kernel
theorem dX0_strength_59 : decode cX0_strength 59 = .ok (.aload_n 0, 1) := by decide +kernel
theorem dX0_strength_60 : decode cX0_strength 60 = .ok (.getfield 19, 3) := by decide +kernel
theorem dX0_strength_63 : decode cX0_strength 63 = .ok (.dload 5, 2) := by decide +kernel
theorem dX0_strength_65 : decode cX0_strength 65 = .ok (.dmul, 1) := by decide +kernel
theorem dX0_strength_66 : decode cX0_strength 66 = .ok (.dload 5, 2) := by decide +kernel
theorem dX0_strength_68 : decode cX0_strength 68 = .ok (.dmul, 1) := by decide +kernel
theorem dX0_strength_69 : decode cX0_strength 69 = .ok (.ldc2_w 76, 3) := by decide +kernel
theorem dX0_strength_72 : decode cX0_strength 72 = .ok (.dmul, 1) := by decide +kernel
theorem dX0_strength_73 : decode cX0_strength 73 = .ok (.dadd, 1) := by decide +kernel
theorem dX0_strength_74 : decode cX0_strength 74 = .ok (.aload_n 0, 1) := by decide +kernel
theorem dX0_strength_75 : decode cX0_strength 75 = .ok (.getfield 22, 3) := by decide +kernel
theorem dX0_strength_78 : decode cX0_strength 78 = .ok (.dsub, 1) := by decide +kernel
theorem dX0_strength_79 : decode cX0_strength 79 = .ok (.d2l, 1) := by decide +kernel
theorem dX0_strength_80 : decode cX0_strength 80 = .ok (.lstore 7, 2) := by decide +kernel
theorem dX0_strength_82 : decode cX0_strength 82 = .ok (.lconst 0, 1) := by decide +kernel
theorem dX0_strength_83 : decode cX0_strength 83 = .ok (.lload 7, 2) := by decide +kernel
theorem dX0_strength_85 : decode cX0_strength 85 = .ok (.invokestatic 78, 3) := by decide +kernel
theorem dX0_strength_88 : decode cX0_strength 88 = .ok (.lreturn, 1) := by decide +kernel
set_option maxRecDepth 20000 in
theorem ggX0_sampleFor_X0_range : GoodIn wsX0_sampleFor wsX0_range := goodIn_r _ [6, 7, 8, 9, 10, 11, 12, 13, 14] (by decide +kernel) (by decide +kernel)
set_option maxRecDepth 20000 in
theorem gX0_sampleFor_X0_range : GoodIn wsX0_sampleFor (wsV RX0 72 RX0 yX0_range wsX0_range) := goodIn_app (goodIn_of _ (by decide +kernel)) ggX0_sampleFor_X0_range
theorem dX0_sampleFor_0 : decode cX0_sampleFor 0 = .ok (.iconst 0, 1) := by decide +kernel
theorem dX0_sampleFor_1 : decode cX0_sampleFor 1 = .ok (.istore_n 3, 1) := by decide +kernel
theorem dX0_sampleFor_2 : decode cX0_sampleFor 2 = .ok (.iload_n 3, 1) := by decide +kernel
theorem dX0_sampleFor_3 : decode cX0_sampleFor 3 = .ok (.aload_n 0, 1) := by decide +kernel
theorem dX0_sampleFor_4 : decode cX0_sampleFor 4 = .ok (.getfield 34, 3) := by decide +kernel
theorem dX0_sampleFor_7 : decode cX0_sampleFor 7 = .ok (.iconst 1, 1) := by decide +kernel
theorem dX0_sampleFor_8 : decode cX0_sampleFor 8 = .ok (.isub, 1) := by decide +kernel
theorem dX0_sampleFor_9 : decode cX0_sampleFor 9 = .ok (.if_icmp .ge 19, 3) := by decide +kernel
theorem dX0_sampleFor_12 : decode cX0_sampleFor 12 = .ok (.aload_n 0, 1) := by decide +kernel
theorem dX0_sampleFor_13 : decode cX0_sampleFor 13 = .ok (.iload_n 3, 1) := by decide +kernel
theorem dX0_sampleFor_14 : decode cX0_sampleFor 14 = .ok (.invokevirtual 72, 3) := by decide +kernel
theorem dX0_sampleFor_17 : decode cX0_sampleFor 17 = .ok (.dload_n 1, 1) := by decide +kernel
theorem dX0_sampleFor_18 : decode cX0_sampleFor 18 = .ok (.dcmp .g, 1) := by decide +kernel
theorem dX0_sampleFor_19 : decode cX0_sampleFor 19 = .ok (.ifCond .ge 9, 3) := by decide +kernel
theorem dX0_sampleFor_22 : decode cX0_sampleFor 22 = .ok (.iinc 3 1, 3) := by decide +kernel
theorem dX0_sampleFor_25 : decode cX0_sampleFor 25 = .ok (.goto (-23), 3) := by decide +kernel
theorem dX0_sampleFor_28 : decode cX0_sampleFor 28 = .ok (.iload_n 3, 1) := by decide +kernel
theorem dX0_sampleFor_29 : decode cX0_sampleFor 29 = .ok (.ireturn, 1) := by decide +kernel
set_option maxRecDepth 20000 in
theorem ggX0_placeOf_X3_isFrequency : GoodIn wsX0_placeOf wsX3_isFrequency := goodIn_r _ [4] (by decide +kernel) (by decide +kernel)
set_option maxRecDepth 20000 in
theorem gX0_placeOf_X3_isFrequency_n81 : GoodIn wsX0_placeOf (wsX3_isFrequency) := ggX0_placeOf_X3_isFrequency
set_option maxRecDepth 20000 in
theorem ggX0_placeOf_X3_isPing : GoodIn wsX0_placeOf wsX3_isPing := goodIn_r _ [6] (by decide +kernel) (by decide +kernel)
set_option maxRecDepth 20000 in
theorem gX0_placeOf_X3_isPing_n65 : GoodIn wsX0_placeOf (wsX3_isPing) := ggX0_placeOf_X3_isPing
set_option maxRecDepth 20000 in
theorem ggX0_placeOf_X0_isSample : GoodIn wsX0_placeOf wsX0_isSample := goodIn_r _ [11, 1, 12, 13, 14, 15, 16, 17, 18] (by decide +kernel) (by decide +kernel)
set_option maxRecDepth 20000 in
theorem gX0_placeOf_X0_isSample : GoodIn wsX0_placeOf (wsV RX0 84 RX0 yX0_isSample wsX0_isSample) := goodIn_app (goodIn_of _ (by decide +kernel)) ggX0_placeOf_X0_isSample
theorem dX0_placeOf_0 : decode cX0_placeOf 0 = .ok (.iload_n 1, 1) := by decide +kernel
theorem dX0_placeOf_1 : decode cX0_placeOf 1 = .ok (.invokestatic 81, 3) := by decide +kernel
theorem dX0_placeOf_4 : decode cX0_placeOf 4 = .ok (.ifCond .eq 18, 3) := by decide +kernel
theorem dX0_placeOf_7 : decode cX0_placeOf 7 = .ok (.iload_n 2, 1) := by decide +kernel
theorem dX0_placeOf_8 : decode cX0_placeOf 8 = .ok (.invokestatic 65, 3) := by decide +kernel
theorem dX0_placeOf_11 : decode cX0_placeOf 11 = .ok (.ifCond .eq 11, 3) := by decide +kernel
theorem dX0_placeOf_14 : decode cX0_placeOf 14 = .ok (.aload_n 0, 1) := by decide +kernel
theorem dX0_placeOf_15 : decode cX0_placeOf 15 = .ok (.iload_n 3, 1) := by decide +kernel
theorem dX0_placeOf_16 : decode cX0_placeOf 16 = .ok (.invokevirtual 84, 3) := by decide +kernel
theorem dX0_placeOf_19 : decode cX0_placeOf 19 = .ok (.ifCond .ne 5, 3) := by decide +kernel
theorem dX0_placeOf_22 : decode cX0_placeOf 22 = .ok (.iconst (-1), 1) := by decide +kernel
theorem dX0_placeOf_23 : decode cX0_placeOf 23 = .ok (.ireturn, 1) := by decide +kernel
theorem dX0_placeOf_24 : decode cX0_placeOf 24 = .ok (.iload_n 1, 1) := by decide +kernel
theorem dX0_placeOf_25 : decode cX0_placeOf 25 = .ok (.bipush 32, 2) := by decide +kernel
theorem dX0_placeOf_27 : decode cX0_placeOf 27 = .ok (.imul, 1) := by decide +kernel
theorem dX0_placeOf_28 : decode cX0_placeOf 28 = .ok (.iload_n 2, 1) := by decide +kernel
theorem dX0_placeOf_29 : decode cX0_placeOf 29 = .ok (.iadd, 1) := by decide +kernel
theorem dX0_placeOf_30 : decode cX0_placeOf 30 = .ok (.aload_n 0, 1) := by decide +kernel
theorem dX0_placeOf_31 : decode cX0_placeOf 31 = .ok (.getfield 34, 3) := by decide +kernel
theorem dX0_placeOf_34 : decode cX0_placeOf 34 = .ok (.imul, 1) := by decide +kernel
theorem dX0_placeOf_35 : decode cX0_placeOf 35 = .ok (.iload_n 3, 1) := by decide +kernel
theorem dX0_placeOf_36 : decode cX0_placeOf 36 = .ok (.iadd, 1) := by decide +kernel
theorem dX0_placeOf_37 : decode cX0_placeOf 37 = .ok (.ireturn, 1) := by decide +kernel
theorem dX1_init_0 : decode cX1_init 0 = .ok (.aload_n 0, 1) := by decide +kernel
theorem dX1_init_1 : decode cX1_init 1 = .ok (.invokespecial 3, 3) := by decide +kernel
theorem dX1_init_4 : decode cX1_init 4 = .ok (.aload_n 0, 1) := by decide +kernel
theorem dX1_init_5 : decode cX1_init 5 = .ok (.bipush 20, 2) := by decide +kernel
theorem dX1_init_7 : decode cX1_init 7 = .ok (.newarray .double, 2) := by decide +kernel
theorem dX1_init_9 : decode cX1_init 9 = .ok (.putfield 9, 3) := by decide +kernel
theorem dX1_init_12 : decode cX1_init 12 = .ok (.aload_n 0, 1) := by decide +kernel
theorem dX1_init_13 : decode cX1_init 13 = .ok (.bipush 20, 2) := by decide +kernel
theorem dX1_init_15 : decode cX1_init 15 = .ok (.newarray .double, 2) := by decide +kernel
theorem dX1_init_17 : decode cX1_init 17 = .ok (.putfield 15, 3) := by decide +kernel
theorem dX1_init_20 : decode cX1_init 20 = .ok (.aload_n 0, 1) := by decide +kernel
theorem dX1_init_21 : decode cX1_init 21 = .ok (.iconst 0, 1) := by decide +kernel
theorem dX1_init_22 : decode cX1_init 22 = .ok (.putfield 18, 3) := by decide +kernel
theorem dX1_init_25 : decode cX1_init 25 = .ok (.return_, 1) := by decide +kernel
set_option maxRecDepth 20000 in
theorem ggX1_put_X1_rowsUpTo : GoodIn wsX1_put wsX1_rowsUpTo := goodIn_r _ [8, 3, 1, 9, 10, 11] (by decide +kernel) (by decide +kernel)
set_option maxRecDepth 20000 in
theorem gX1_put_X1_rowsUpTo : GoodIn wsX1_put (wsV RX1 22 RX1 yX1_rowsUpTo wsX1_rowsUpTo) := goodIn_app (goodIn_of _ (by decide +kernel)) ggX1_put_X1_rowsUpTo
theorem dX1_put_0 : decode cX1_put 0 = .ok (.aload_n 0, 1) := by decide +kernel
theorem dX1_put_1 : decode cX1_put 1 = .ok (.dload_n 1, 1) := by decide +kernel
theorem dX1_put_2 : decode cX1_put 2 = .ok (.invokevirtual 22, 3) := by decide +kernel
theorem dX1_put_5 : decode cX1_put 5 = .ok (.istore 5, 2) := by decide +kernel
theorem dX1_put_7 : decode cX1_put 7 = .ok (.iload 5, 2) := by decide +kernel
theorem dX1_put_9 : decode cX1_put 9 = .ok (.ifCond .le 29, 3) := by decide +kernel
theorem dX1_put_12 : decode cX1_put 12 = .ok (.aload_n 0, 1) := by decide +kernel
theorem dX1_put_13 : decode cX1_put 13 = .ok (.getfield 9, 3) := by decide +kernel
theorem dX1_put_16 : decode cX1_put 16 = .ok (.iload 5, 2) := by decide +kernel
theorem dX1_put_18 : decode cX1_put 18 = .ok (.iconst 1, 1) := by decide +kernel
theorem dX1_put_19 : decode cX1_put 19 = .ok (.isub, 1) := by decide +kernel
theorem dX1_put_20 : decode cX1_put 20 = .ok (.daload, 1) := by decide +kernel
theorem dX1_put_21 : decode cX1_put 21 = .ok (.dload_n 1, 1) := by decide +kernel
theorem dX1_put_22 : decode cX1_put 22 = .ok (.dcmp .l, 1) := by decide +kernel
theorem dX1_put_23 : decode cX1_put 23 = .ok (.ifCond .ne 15, 3) := by decide +kernel
theorem dX1_put_26 : decode cX1_put 26 = .ok (.aload_n 0, 1) := by decide +kernel
theorem dX1_put_27 : decode cX1_put 27 = .ok (.getfield 15, 3) := by decide +kernel
theorem dX1_put_30 : decode cX1_put 30 = .ok (.iload 5, 2) := by decide +kernel
theorem dX1_put_32 : decode cX1_put 32 = .ok (.iconst 1, 1) := by decide +kernel
theorem dX1_put_33 : decode cX1_put 33 = .ok (.isub, 1) := by decide +kernel
theorem dX1_put_34 : decode cX1_put 34 = .ok (.dload_n 3, 1) := by decide +kernel
theorem dX1_put_35 : decode cX1_put 35 = .ok (.dastore, 1) := by decide +kernel
theorem dX1_put_36 : decode cX1_put 36 = .ok (.iconst 1, 1) := by decide +kernel
theorem dX1_put_37 : decode cX1_put 37 = .ok (.ireturn, 1) := by decide +kernel
theorem dX1_put_38 : decode cX1_put 38 = .ok (.aload_n 0, 1) := by decide +kernel
theorem dX1_put_39 : decode cX1_put 39 = .ok (.getfield 18, 3) := by decide +kernel
theorem dX1_put_42 : decode cX1_put 42 = .ok (.bipush 20, 2) := by decide +kernel
theorem dX1_put_44 : decode cX1_put 44 = .ok (.if_icmp .lt 5, 3) := by decide +kernel
theorem dX1_put_47 : decode cX1_put 47 = .ok (.iconst 0, 1) := by decide +kernel
theorem dX1_put_48 : decode cX1_put 48 = .ok (.ireturn, 1) := by decide +kernel
theorem dX1_put_49 : decode cX1_put 49 = .ok (.aload_n 0, 1) := by decide +kernel
theorem dX1_put_50 : decode cX1_put 50 = .ok (.getfield 18, 3) := by decide +kernel
theorem dX1_put_53 : decode cX1_put 53 = .ok (.istore 6, 2) := by decide +kernel
theorem dX1_put_55 : decode cX1_put 55 = .ok (.iload 6, 2) := by decide +kernel
theorem dX1_put_57 : decode cX1_put 57 = .ok (.iload 5, 2) := by decide +kernel
theorem dX1_put_59 : decode cX1_put 59 = .ok (.if_icmp .le 41, 3) := by decide +kernel
theorem dX1_put_62 : decode cX1_put 62 = .ok (.aload_n 0, 1) := by decide +kernel
theorem dX1_put_63 : decode cX1_put 63 = .ok (.getfield 9, 3) := by decide +kernel
theorem dX1_put_66 : decode cX1_put 66 = .ok (.iload 6, 2) := by decide +kernel
theorem dX1_put_68 : decode cX1_put 68 = .ok (.aload_n 0, 1) := by decide +kernel
theorem dX1_put_69 : decode cX1_put 69 = .ok (.getfield 9, 3) := by decide +kernel
theorem dX1_put_72 : decode cX1_put 72 = .ok (.iload 6, 2) := by decide +kernel
theorem dX1_put_74 : decode cX1_put 74 = .ok (.iconst 1, 1) := by decide +kernel
theorem dX1_put_75 : decode cX1_put 75 = .ok (.isub, 1) := by decide +kernel
theorem dX1_put_76 : decode cX1_put 76 = .ok (.daload, 1) := by decide +kernel
theorem dX1_put_77 : decode cX1_put 77 = .ok (.dastore, 1) := by decide +kernel
theorem dX1_put_78 : decode cX1_put 78 = .ok (.aload_n 0, 1) := by decide +kernel
theorem dX1_put_79 : decode cX1_put 79 = .ok (.getfield 15, 3) := by decide +kernel
theorem dX1_put_82 : decode cX1_put 82 = .ok (.iload 6, 2) := by decide +kernel
theorem dX1_put_84 : decode cX1_put 84 = .ok (.aload_n 0, 1) := by decide +kernel
theorem dX1_put_85 : decode cX1_put 85 = .ok (.getfield 15, 3) := by decide +kernel
theorem dX1_put_88 : decode cX1_put 88 = .ok (.iload 6, 2) := by decide +kernel
theorem dX1_put_90 : decode cX1_put 90 = .ok (.iconst 1, 1) := by decide +kernel
theorem dX1_put_91 : decode cX1_put 91 = .ok (.isub, 1) := by decide +kernel
theorem dX1_put_92 : decode cX1_put 92 = .ok (.daload, 1) := by decide +kernel
theorem dX1_put_93 : decode cX1_put 93 = .ok (.dastore, 1) := by decide +kernel
theorem dX1_put_94 : decode cX1_put 94 = .ok (.iinc 6 (-1), 3) := by decide +kernel
theorem dX1_put_97 : decode cX1_put 97 = .ok (.goto (-42), 3) := by decide +kernel
theorem dX1_put_100 : decode cX1_put 100 = .ok (.aload_n 0, 1) := by decide +kernel
theorem dX1_put_101 : decode cX1_put 101 = .ok (.getfield 9, 3) := by decide +kernel
theorem dX1_put_104 : decode cX1_put 104 = .ok (.iload 5, 2) := by decide +kernel
theorem dX1_put_106 : decode cX1_put 106 = .ok (.dload_n 1, 1) := by decide +kernel
theorem dX1_put_107 : decode cX1_put 107 = .ok (.dastore, 1) := by decide +kernel
theorem dX1_put_108 : decode cX1_put 108 = .ok (.aload_n 0, 1) := by decide +kernel
theorem dX1_put_109 : decode cX1_put 109 = .ok (.getfield 15, 3) := by decide +kernel
theorem dX1_put_112 : decode cX1_put 112 = .ok (.iload 5, 2) := by decide +kernel
theorem dX1_put_114 : decode cX1_put 114 = .ok (.dload_n 3, 1) := by decide +kernel
theorem dX1_put_115 : decode cX1_put 115 = .ok (.dastore, 1) := by decide +kernel
theorem dX1_put_116 : decode cX1_put 116 = .ok (.aload_n 0, 1) := by decide +kernel
theorem dX1_put_117 : decode cX1_put 117 = .ok (.dup, 1) := by decide +kernel
theorem dX1_put_118 : decode cX1_put 118 = .ok (.getfield 18, 3) := by decide +kernel
theorem dX1_put_121 : decode cX1_put 121 = .ok (.iconst 1, 1) := by decide +kernel
theorem dX1_put_122 : decode cX1_put 122 = .ok (.iadd, 1) := by decide +kernel
theorem dX1_put_123 : decode cX1_put 123 = .ok (.putfield 18, 3) := by decide +kernel
theorem dX1_put_126 : decode cX1_put 126 = .ok (.iconst 1, 1) := by decide +kernel
theorem dX1_put_127 : decode cX1_put 127 = .ok (.ireturn, 1) := by decide +kernel
set_option maxRecDepth 20000 in
theorem ggX1_stepAt_X1_rowsUpTo : GoodIn wsX1_stepAt wsX1_rowsUpTo := goodIn_r _ [11, 1, 12, 13, 14, 15] (by decide +kernel) (by decide +kernel)
set_option maxRecDepth 20000 in
theorem gX1_stepAt_X1_rowsUpTo : GoodIn wsX1_stepAt (wsV RX1 22 RX1 yX1_rowsUpTo wsX1_rowsUpTo) := goodIn_app (goodIn_of _ (by decide +kernel)) ggX1_stepAt_X1_rowsUpTo
theorem dX1_stepAt_0 : decode cX1_stepAt 0 = .ok (.aload_n 0, 1) := by decide +kernel
theorem dX1_stepAt_1 : decode cX1_stepAt 1 = .ok (.getfield 18, 3) := by decide +kernel
theorem dX1_stepAt_4 : decode cX1_stepAt 4 = .ok (.ifCond .ne 5, 3) := by decide +kernel
theorem dX1_stepAt_7 : decode cX1_stepAt 7 = .ok (.dload_n 3, 1) := by decide +kernel
theorem dX1_stepAt_8 : decode cX1_stepAt 8 = .ok (.dreturn, 1) := by decide +kernel
theorem dX1_stepAt_9 : decode cX1_stepAt 9 = .ok (.aload_n 0, 1) := by decide +kernel
theorem dX1_stepAt_10 : decode cX1_stepAt 10 = .ok (.getfield 15, 3) := by decide +kernel
theorem dX1_stepAt_13 : decode cX1_stepAt 13 = .ok (.iconst 0, 1) := by decide +kernel
theorem dX1_stepAt_14 : decode cX1_stepAt 14 = .ok (.aload_n 0, 1) := by decide +kernel
theorem dX1_stepAt_15 : decode cX1_stepAt 15 = .ok (.dload_n 1, 1) := by decide +kernel
theorem dX1_stepAt_16 : decode cX1_stepAt 16 = .ok (.invokevirtual 22, 3) := by decide +kernel
theorem dX1_stepAt_19 : decode cX1_stepAt 19 = .ok (.iconst 1, 1) := by decide +kernel
theorem dX1_stepAt_20 : decode cX1_stepAt 20 = .ok (.isub, 1) := by decide +kernel
theorem dX1_stepAt_21 : decode cX1_stepAt 21 = .ok (.invokestatic 26, 3) := by decide +kernel
theorem dX1_stepAt_24 : decode cX1_stepAt 24 = .ok (.daload, 1) := by decide +kernel
theorem dX1_stepAt_25 : decode cX1_stepAt 25 = .ok (.dreturn, 1) := by decide +kernel
set_option maxRecDepth 20000 in
theorem ggX1_slopeAt_X1_rowsUpTo : GoodIn wsX1_slopeAt wsX1_rowsUpTo := goodIn_r _ [8, 1, 3, 20, 21, 22] (by decide +kernel) (by decide +kernel)
set_option maxRecDepth 20000 in
theorem gX1_slopeAt_X1_rowsUpTo : GoodIn wsX1_slopeAt (wsV RX1 22 RX1 yX1_rowsUpTo wsX1_rowsUpTo) := goodIn_app (goodIn_of _ (by decide +kernel)) ggX1_slopeAt_X1_rowsUpTo
set_option maxRecDepth 20000 in
theorem ggX1_slopeAt_X1_stepAt : GoodIn wsX1_slopeAt wsX1_stepAt := goodIn_r _ [12, 1, 2, 13, 14, 15, 16, 4, 5, 6, 7, 8, 3, 20, 21, 22] (by decide +kernel) (by decide +kernel)
set_option maxRecDepth 20000 in
theorem gX1_slopeAt_X1_stepAt : GoodIn wsX1_slopeAt (wsV RX1 32 RX1 yX1_stepAt wsX1_stepAt) := goodIn_app (goodIn_of _ (by decide +kernel)) ggX1_slopeAt_X1_stepAt
set_option maxRecDepth 20000 in
theorem ggX1_slopeAt_X3_over : GoodIn wsX1_slopeAt wsX3_over := goodIn_r _ [19] (by decide +kernel) (by decide +kernel)
set_option maxRecDepth 20000 in
theorem gX1_slopeAt_X3_over_n36 : GoodIn wsX1_slopeAt (wsX3_over) := ggX1_slopeAt_X3_over
theorem dX1_slopeAt_0 : decode cX1_slopeAt 0 = .ok (.aload_n 0, 1) := by decide +kernel
theorem dX1_slopeAt_1 : decode cX1_slopeAt 1 = .ok (.dload_n 1, 1) := by decide +kernel
theorem dX1_slopeAt_2 : decode cX1_slopeAt 2 = .ok (.invokevirtual 22, 3) := by decide +kernel
theorem dX1_slopeAt_5 : decode cX1_slopeAt 5 = .ok (.istore 5, 2) := by decide +kernel
theorem dX1_slopeAt_7 : decode cX1_slopeAt 7 = .ok (.iload 5, 2) := by decide +kernel
theorem dX1_slopeAt_9 : decode cX1_slopeAt 9 = .ok (.iconst 1, 1) := by decide +kernel
theorem dX1_slopeAt_10 : decode cX1_slopeAt 10 = .ok (.if_icmp .lt 12, 3) := by decide +kernel
theorem dX1_slopeAt_13 : decode cX1_slopeAt 13 = .ok (.iload 5, 2) := by decide +kernel
theorem dX1_slopeAt_15 : decode cX1_slopeAt 15 = .ok (.aload_n 0, 1) := by decide +kernel
theorem dX1_slopeAt_16 : decode cX1_slopeAt 16 = .ok (.getfield 18, 3) := by decide +kernel
theorem dX1_slopeAt_19 : decode cX1_slopeAt 19 = .ok (.if_icmp .lt 10, 3) := by decide +kernel
theorem dX1_slopeAt_22 : decode cX1_slopeAt 22 = .ok (.aload_n 0, 1) := by decide +kernel
theorem dX1_slopeAt_23 : decode cX1_slopeAt 23 = .ok (.dload_n 1, 1) := by decide +kernel
theorem dX1_slopeAt_24 : decode cX1_slopeAt 24 = .ok (.dload_n 3, 1) := by decide +kernel
theorem dX1_slopeAt_25 : decode cX1_slopeAt 25 = .ok (.invokevirtual 32, 3) := by decide +kernel
theorem dX1_slopeAt_28 : decode cX1_slopeAt 28 = .ok (.dreturn, 1) := by decide +kernel
theorem dX1_slopeAt_29 : decode cX1_slopeAt 29 = .ok (.aload_n 0, 1) := by decide +kernel
theorem dX1_slopeAt_30 : decode cX1_slopeAt 30 = .ok (.getfield 15, 3) := by decide +kernel
theorem dX1_slopeAt_33 : decode cX1_slopeAt 33 = .ok (.iload 5, 2) := by decide +kernel
theorem dX1_slopeAt_35 : decode cX1_slopeAt 35 = .ok (.iconst 1, 1) := by decide +kernel
theorem dX1_slopeAt_36 : decode cX1_slopeAt 36 = .ok (.isub, 1) := by decide +kernel
theorem dX1_slopeAt_37 : decode cX1_slopeAt 37 = .ok (.daload, 1) := by decide +kernel
theorem dX1_slopeAt_38 : decode cX1_slopeAt 38 = .ok (.dstore 6, 2) := by decide +kernel
theorem dX1_slopeAt_40 : decode cX1_slopeAt 40 = .ok (.aload_n 0, 1) := by decide +kernel
theorem dX1_slopeAt_41 : decode cX1_slopeAt 41 = .ok (.getfield 15, 3) := by decide +kernel
theorem dX1_slopeAt_44 : decode cX1_slopeAt 44 = .ok (.iload 5, 2) := by decide +kernel
theorem dX1_slopeAt_46 : decode cX1_slopeAt 46 = .ok (.daload, 1) := by decide +kernel
theorem dX1_slopeAt_47 : decode cX1_slopeAt 47 = .ok (.dstore 8, 2) := by decide +kernel
theorem dX1_slopeAt_49 : decode cX1_slopeAt 49 = .ok (.aload_n 0, 1) := by decide +kernel
theorem dX1_slopeAt_50 : decode cX1_slopeAt 50 = .ok (.getfield 9, 3) := by decide +kernel
theorem dX1_slopeAt_53 : decode cX1_slopeAt 53 = .ok (.iload 5, 2) := by decide +kernel
theorem dX1_slopeAt_55 : decode cX1_slopeAt 55 = .ok (.iconst 1, 1) := by decide +kernel
theorem dX1_slopeAt_56 : decode cX1_slopeAt 56 = .ok (.isub, 1) := by decide +kernel
theorem dX1_slopeAt_57 : decode cX1_slopeAt 57 = .ok (.daload, 1) := by decide +kernel
theorem dX1_slopeAt_58 : decode cX1_slopeAt 58 = .ok (.dstore 10, 2) := by decide +kernel
theorem dX1_slopeAt_60 : decode cX1_slopeAt 60 = .ok (.aload_n 0, 1) := by decide +kernel
theorem dX1_slopeAt_61 : decode cX1_slopeAt 61 = .ok (.getfield 9, 3) := by decide +kernel
theorem dX1_slopeAt_64 : decode cX1_slopeAt 64 = .ok (.iload 5, 2) := by decide +kernel
theorem dX1_slopeAt_66 : decode cX1_slopeAt 66 = .ok (.daload, 1) := by decide +kernel
theorem dX1_slopeAt_67 : decode cX1_slopeAt 67 = .ok (.dstore 12, 2) := by decide +kernel
theorem dX1_slopeAt_69 : decode cX1_slopeAt 69 = .ok (.dload 6, 2) := by decide +kernel
theorem dX1_slopeAt_71 : decode cX1_slopeAt 71 = .ok (.dload 8, 2) := by decide +kernel
theorem dX1_slopeAt_73 : decode cX1_slopeAt 73 = .ok (.dload 6, 2) := by decide +kernel
theorem dX1_slopeAt_75 : decode cX1_slopeAt 75 = .ok (.dsub, 1) := by decide +kernel
theorem dX1_slopeAt_76 : decode cX1_slopeAt 76 = .ok (.dload_n 1, 1) := by decide +kernel
theorem dX1_slopeAt_77 : decode cX1_slopeAt 77 = .ok (.dload 10, 2) := by decide +kernel
theorem dX1_slopeAt_79 : decode cX1_slopeAt 79 = .ok (.dsub, 1) := by decide +kernel
theorem dX1_slopeAt_80 : decode cX1_slopeAt 80 = .ok (.dload 12, 2) := by decide +kernel
theorem dX1_slopeAt_82 : decode cX1_slopeAt 82 = .ok (.dload 10, 2) := by decide +kernel
theorem dX1_slopeAt_84 : decode cX1_slopeAt 84 = .ok (.dsub, 1) := by decide +kernel
theorem dX1_slopeAt_85 : decode cX1_slopeAt 85 = .ok (.invokestatic 36, 3) := by decide +kernel
theorem dX1_slopeAt_88 : decode cX1_slopeAt 88 = .ok (.dmul, 1) := by decide +kernel
theorem dX1_slopeAt_89 : decode cX1_slopeAt 89 = .ok (.dadd, 1) := by decide +kernel
theorem dX1_slopeAt_90 : decode cX1_slopeAt 90 = .ok (.dreturn, 1) := by decide +kernel
theorem dX1_rowsUpTo_0 : decode cX1_rowsUpTo 0 = .ok (.iconst 0, 1) := by decide +kernel
theorem dX1_rowsUpTo_1 : decode cX1_rowsUpTo 1 = .ok (.istore_n 3, 1) := by decide +kernel
theorem dX1_rowsUpTo_2 : decode cX1_rowsUpTo 2 = .ok (.iload_n 3, 1) := by decide +kernel
theorem dX1_rowsUpTo_3 : decode cX1_rowsUpTo 3 = .ok (.aload_n 0, 1) := by decide +kernel
theorem dX1_rowsUpTo_4 : decode cX1_rowsUpTo 4 = .ok (.getfield 18, 3) := by decide +kernel
theorem dX1_rowsUpTo_7 : decode cX1_rowsUpTo 7 = .ok (.if_icmp .ge 20, 3) := by decide +kernel
theorem dX1_rowsUpTo_10 : decode cX1_rowsUpTo 10 = .ok (.aload_n 0, 1) := by decide +kernel
theorem dX1_rowsUpTo_11 : decode cX1_rowsUpTo 11 = .ok (.getfield 9, 3) := by decide +kernel
theorem dX1_rowsUpTo_14 : decode cX1_rowsUpTo 14 = .ok (.iload_n 3, 1) := by decide +kernel
theorem dX1_rowsUpTo_15 : decode cX1_rowsUpTo 15 = .ok (.daload, 1) := by decide +kernel
theorem dX1_rowsUpTo_16 : decode cX1_rowsUpTo 16 = .ok (.dload_n 1, 1) := by decide +kernel
theorem dX1_rowsUpTo_17 : decode cX1_rowsUpTo 17 = .ok (.dcmp .g, 1) := by decide +kernel
theorem dX1_rowsUpTo_18 : decode cX1_rowsUpTo 18 = .ok (.ifCond .gt 9, 3) := by decide +kernel
theorem dX1_rowsUpTo_21 : decode cX1_rowsUpTo 21 = .ok (.iinc 3 1, 3) := by decide +kernel
theorem dX1_rowsUpTo_24 : decode cX1_rowsUpTo 24 = .ok (.goto (-22), 3) := by decide +kernel
theorem dX1_rowsUpTo_27 : decode cX1_rowsUpTo 27 = .ok (.iload_n 3, 1) := by decide +kernel
theorem dX1_rowsUpTo_28 : decode cX1_rowsUpTo 28 = .ok (.ireturn, 1) := by decide +kernel
set_option maxRecDepth 20000 in
theorem ggX2_init_J7_fill_7f8df : GoodIn wsX2_init wsJ7_fill_7f8df := goodIn_r _ [21] (by decide +kernel) (by decide +kernel)
set_option maxRecDepth 20000 in
theorem gX2_init_J7_fill_7f8df : GoodIn wsX2_init (va_wsS RX2 49 yJ7_fill_7f8df wsJ7_fill_7f8df) := goodIn_app (goodIn_of _ (by decide +kernel)) ggX2_init_J7_fill_7f8df
theorem dX2_init_0 : decode cX2_init 0 = .ok (.aload_n 0, 1) := by decide +kernel
theorem dX2_init_1 : decode cX2_init 1 = .ok (.invokespecial 3, 3) := by decide +kernel
theorem dX2_init_4 : decode cX2_init 4 = .ok (.aload_n 0, 1) := by decide +kernel
theorem dX2_init_5 : decode cX2_init 5 = .ok (.bipush 32, 2) := by decide +kernel
theorem dX2_init_7 : decode cX2_init 7 = .ok (.newarray .double, 2) := by decide +kernel
theorem dX2_init_9 : decode cX2_init 9 = .ok (.putfield 9, 3) := by decide +kernel
theorem dX2_init_12 : decode cX2_init 12 = .ok (.aload_n 0, 1) := by decide +kernel
theorem dX2_init_13 : decode cX2_init 13 = .ok (.bipush 32, 2) := by decide +kernel
theorem dX2_init_15 : decode cX2_init 15 = .ok (.newarray .boolean, 2) := by decide +kernel
theorem dX2_init_17 : decode cX2_init 17 = .ok (.putfield 15, 3) := by decide +kernel
theorem dX2_init_20 : decode cX2_init 20 = .ok (.aload_n 0, 1) := by decide +kernel
theorem dX2_init_21 : decode cX2_init 21 = .ok (.bipush 32, 2) := by decide +kernel
theorem dX2_init_23 : decode cX2_init 23 = .ok (.newarray .int, 2) := by decide +kernel
theorem dX2_init_25 : decode cX2_init 25 = .ok (.putfield 19, 3) := by decide +kernel
theorem dX2_init_28 : decode cX2_init 28 = .ok (.aload_n 0, 1) := by decide +kernel
theorem dX2_init_29 : decode cX2_init 29 = .ok (.iconst 0, 1) := by decide +kernel
theorem dX2_init_30 : decode cX2_init 30 = .ok (.putfield 23, 3) := by decide +kernel
theorem dX2_init_33 : decode cX2_init 33 = .ok (.aload_n 0, 1) := by decide +kernel
theorem dX2_init_34 : decode cX2_init 34 = .ok (.iconst 0, 1) := by decide +kernel
theorem dX2_init_35 : decode cX2_init 35 = .ok (.putfield 27, 3) := by decide +kernel
theorem dX2_init_38 : decode cX2_init 38 = .ok (.aload_n 0, 1) := by decide +kernel
theorem dX2_init_39 : decode cX2_init 39 = .ok (.iconst 0, 1) := by decide +kernel
theorem dX2_init_40 : decode cX2_init 40 = .ok (.putfield 30, 3) := by decide +kernel
theorem dX2_init_43 : decode cX2_init 43 = .ok (.aload_n 0, 1) := by decide +kernel
theorem dX2_init_44 : decode cX2_init 44 = .ok (.aload_n 1, 1) := by decide +kernel
theorem dX2_init_45 : decode cX2_init 45 = .ok (.putfield 34, 3) := by decide +kernel
theorem dX2_init_48 : decode cX2_init 48 = .ok (.aload_n 0, 1) := by decide +kernel
theorem dX2_init_49 : decode cX2_init 49 = .ok (.bipush 32, 2) := by decide +kernel
theorem dX2_init_51 : decode cX2_init 51 = .ok (.aload_n 1, 1) := by decide +kernel
theorem dX2_init_52 : decode cX2_init 52 = .ok (.getfield 38, 3) := by decide +kernel
theorem dX2_init_55 : decode cX2_init 55 = .ok (.imul, 1) := by decide +kernel
theorem dX2_init_56 : decode cX2_init 56 = .ok (.newarray .long, 2) := by decide +kernel
theorem dX2_init_58 : decode cX2_init 58 = .ok (.putfield 43, 3) := by decide +kernel
theorem dX2_init_61 : decode cX2_init 61 = .ok (.aload_n 0, 1) := by decide +kernel
theorem dX2_init_62 : decode cX2_init 62 = .ok (.getfield 9, 3) := by decide +kernel
theorem dX2_init_65 : decode cX2_init 65 = .ok (.ldc2_w 47, 3) := by decide +kernel
theorem dX2_init_68 : decode cX2_init 68 = .ok (.invokestatic 49, 3) := by decide +kernel
theorem dX2_init_71 : decode cX2_init 71 = .ok (.return_, 1) := by decide +kernel
set_option maxRecDepth 20000 in
theorem ggX2_tellDepth_X3_isPing : GoodIn wsX2_tellDepth wsX3_isPing := goodIn_r _ [5] (by decide +kernel) (by decide +kernel)
set_option maxRecDepth 20000 in
theorem gX2_tellDepth_X3_isPing_n55 : GoodIn wsX2_tellDepth (wsX3_isPing) := ggX2_tellDepth_X3_isPing
set_option maxRecDepth 20000 in
theorem ggX2_tellDepth_X3_within : GoodIn wsX2_tellDepth wsX3_within := goodIn_r _ [7] (by decide +kernel) (by decide +kernel)
set_option maxRecDepth 20000 in
theorem gX2_tellDepth_X3_within_n61 : GoodIn wsX2_tellDepth (wsX3_within) := ggX2_tellDepth_X3_within
theorem dX2_tellDepth_0 : decode cX2_tellDepth 0 = .ok (.iload_n 1, 1) := by decide +kernel
theorem dX2_tellDepth_1 : decode cX2_tellDepth 1 = .ok (.invokestatic 55, 3) := by decide +kernel
theorem dX2_tellDepth_4 : decode cX2_tellDepth 4 = .ok (.ifCond .eq 14, 3) := by decide +kernel
theorem dX2_tellDepth_7 : decode cX2_tellDepth 7 = .ok (.dload_n 2, 1) := by decide +kernel
theorem dX2_tellDepth_8 : decode cX2_tellDepth 8 = .ok (.dconst 0, 1) := by decide +kernel
theorem dX2_tellDepth_9 : decode cX2_tellDepth 9 = .ok (.ldc2_w 59, 3) := by decide +kernel
theorem dX2_tellDepth_12 : decode cX2_tellDepth 12 = .ok (.invokestatic 61, 3) := by decide +kernel
theorem dX2_tellDepth_15 : decode cX2_tellDepth 15 = .ok (.ifCond .ne 5, 3) := by decide +kernel
theorem dX2_tellDepth_18 : decode cX2_tellDepth 18 = .ok (.iconst 0, 1) := by decide +kernel
theorem dX2_tellDepth_19 : decode cX2_tellDepth 19 = .ok (.ireturn, 1) := by decide +kernel
theorem dX2_tellDepth_20 : decode cX2_tellDepth 20 = .ok (.aload_n 0, 1) := by decide +kernel
theorem dX2_tellDepth_21 : decode cX2_tellDepth 21 = .ok (.getfield 9, 3) := by decide +kernel
theorem dX2_tellDepth_24 : decode cX2_tellDepth 24 = .ok (.iload_n 1, 1) := by decide +kernel
theorem dX2_tellDepth_25 : decode cX2_tellDepth 25 = .ok (.dload_n 2, 1) := by decide +kernel
theorem dX2_tellDepth_26 : decode cX2_tellDepth 26 = .ok (.dastore, 1) := by decide +kernel
theorem dX2_tellDepth_27 : decode cX2_tellDepth 27 = .ok (.iconst 1, 1) := by decide +kernel
theorem dX2_tellDepth_28 : decode cX2_tellDepth 28 = .ok (.ireturn, 1) := by decide +kernel
set_option maxRecDepth 20000 in
theorem ggX2_go_X2_hasPing : GoodIn wsX2_go wsX2_hasPing := goodIn_r _ [9, 10, 11, 12, 8, 13, 14, 15, 16, 17, 18, 19, 20, 21, 22, 23, 24, 25, 26, 27, 28, 29, 30, 31, 32, 33, 34, 35, 36, 37, 38, 39, 40, 41, 42, 43, 44, 113, 114, 115, 116, 117, 118, 119, 120, 121, 122, 123, 124, 125, 126, 127] (by decide +kernel) (by decide +kernel)
set_option maxRecDepth 20000 in
theorem gX2_go_X2_hasPing : GoodIn wsX2_go (wsV RX2 65 RX2 yX2_hasPing wsX2_hasPing) := goodIn_app (goodIn_of _ (by decide +kernel)) ggX2_go_X2_hasPing
set_option maxRecDepth 20000 in
theorem ggX2_go_X2_isForWalk : GoodIn wsX2_go wsX2_isForWalk := goodIn_r _ [13, 14, 15, 16, 17, 8, 18, 19, 20, 21, 22, 23, 24, 25, 26, 27, 28, 29, 30, 31, 32, 33, 34, 35, 36, 37, 38, 39, 40, 41, 42, 43, 44, 113, 114, 115, 116, 117, 118, 119, 120, 121, 122, 123, 124, 125, 126, 127] (by decide +kernel) (by decide +kernel)
set_option maxRecDepth 20000 in
theorem gX2_go_X2_isForWalk : GoodIn wsX2_go (wsV RX2 69 RX2 yX2_isForWalk wsX2_isForWalk) := goodIn_app (goodIn_of _ (by decide +kernel)) ggX2_go_X2_isForWalk
set_option maxRecDepth 20000 in
theorem ggX2_go_X2_neighbour : GoodIn wsX2_go wsX2_neighbour := goodIn_r _ [48, 49, 50, 51, 8, 52, 4, 20, 21, 22, 113, 114, 115, 116, 117, 118, 119, 120] (by decide +kernel) (by decide +kernel)
set_option maxRecDepth 20000 in
theorem gX2_go_X2_neighbour : GoodIn wsX2_go (wsV RX2 72 RX2 yX2_neighbour wsX2_neighbour) := goodIn_app (goodIn_of _ (by decide +kernel)) ggX2_go_X2_neighbour
set_option maxRecDepth 20000 in
theorem ggX2_go_X2_sumUp : GoodIn wsX2_go wsX2_sumUp := goodIn_r _ [56, 14, 1, 57, 58, 59, 60, 61, 8, 62, 19, 15, 16, 17, 18, 20, 21, 22, 63, 64, 65, 26, 66, 33, 67, 68, 69, 70, 71, 72, 73, 74, 75, 76, 42, 43, 44, 77, 78, 79, 80, 34, 81, 82, 83, 84, 85, 86, 87, 88, 35, 36, 37, 38, 39, 40, 41, 89, 24, 25, 27, 28, 90, 91, 92, 93, 2, 94, 95, 96, 97, 98, 99, 100, 101, 102, 103, 113, 114, 115, 116, 117, 118, 119, 120, 121, 122, 123, 124, 125, 126, 127] (by decide +kernel) (by decide +kernel)
set_option maxRecDepth 20000 in
theorem gX2_go_X2_sumUp : GoodIn wsX2_go (wsV RX2 76 RX2 yX2_sumUp wsX2_sumUp) := goodIn_app (goodIn_of _ (by decide +kernel)) ggX2_go_X2_sumUp
set_option maxRecDepth 20000 in
theorem ggX2_go_X2_traceBack : GoodIn wsX2_go wsX2_traceBack := goodIn_r _ [107, 4, 108, 109, 110, 111, 8, 112, 20, 21, 22, 90, 91, 92, 93, 2, 94, 95, 87, 96, 97, 98, 99, 72, 73, 74, 75, 14, 19, 15, 16, 17, 18, 63, 64, 65, 26, 66, 33, 67, 68, 69, 70, 71, 59, 60, 61, 62, 58, 100, 101, 102, 103, 57, 76, 42, 43, 44, 113, 114, 115, 116, 117, 118, 119, 120, 121, 122, 123, 124, 125, 126, 127] (by decide +kernel) (by decide +kernel)
set_option maxRecDepth 20000 in
theorem gX2_go_X2_traceBack : GoodIn wsX2_go (wsV RX2 80 RX2 yX2_traceBack wsX2_traceBack) := goodIn_app (goodIn_of _ (by decide +kernel)) ggX2_go_X2_traceBack
theorem dX2_go_0 : decode cX2_go 0 = .ok (.aload_n 0, 1) := by decide +kernel
theorem dX2_go_1 : decode cX2_go 1 = .ok (.iload_n 1, 1) := by decide +kernel
theorem dX2_go_2 : decode cX2_go 2 = .ok (.iload_n 2, 1) := by decide +kernel
theorem dX2_go_3 : decode cX2_go 3 = .ok (.invokevirtual 65, 3) := by decide +kernel
theorem dX2_go_6 : decode cX2_go 6 = .ok (.ifCond .ne 5, 3) := by decide +kernel
theorem dX2_go_9 : decode cX2_go 9 = .ok (.iconst (-1), 1) := by decide +kernel
theorem dX2_go_10 : decode cX2_go 10 = .ok (.ireturn, 1) := by decide +kernel
theorem dX2_go_11 : decode cX2_go 11 = .ok (.aload_n 0, 1) := by decide +kernel
theorem dX2_go_12 : decode cX2_go 12 = .ok (.iload_n 1, 1) := by decide +kernel
theorem dX2_go_13 : decode cX2_go 13 = .ok (.putfield 27, 3) := by decide +kernel
theorem dX2_go_16 : decode cX2_go 16 = .ok (.aload_n 0, 1) := by decide +kernel
theorem dX2_go_17 : decode cX2_go 17 = .ok (.iload_n 3, 1) := by decide +kernel
theorem dX2_go_18 : decode cX2_go 18 = .ok (.putfield 23, 3) := by decide +kernel
theorem dX2_go_21 : decode cX2_go 21 = .ok (.aload_n 0, 1) := by decide +kernel
theorem dX2_go_22 : decode cX2_go 22 = .ok (.iconst 1, 1) := by decide +kernel
theorem dX2_go_23 : decode cX2_go 23 = .ok (.putfield 30, 3) := by decide +kernel
theorem dX2_go_26 : decode cX2_go 26 = .ok (.iconst 0, 1) := by decide +kernel
theorem dX2_go_27 : decode cX2_go 27 = .ok (.istore 4, 2) := by decide +kernel
theorem dX2_go_29 : decode cX2_go 29 = .ok (.iload 4, 2) := by decide +kernel
theorem dX2_go_31 : decode cX2_go 31 = .ok (.bipush 32, 2) := by decide +kernel
theorem dX2_go_33 : decode cX2_go 33 = .ok (.if_icmp .ge 60, 3) := by decide +kernel
theorem dX2_go_36 : decode cX2_go 36 = .ok (.aload_n 0, 1) := by decide +kernel
theorem dX2_go_37 : decode cX2_go 37 = .ok (.getfield 15, 3) := by decide +kernel
theorem dX2_go_40 : decode cX2_go 40 = .ok (.iload 4, 2) := by decide +kernel
theorem dX2_go_42 : decode cX2_go 42 = .ok (.iload 4, 2) := by decide +kernel
theorem dX2_go_44 : decode cX2_go 44 = .ok (.iload_n 2, 1) := by decide +kernel
theorem dX2_go_45 : decode cX2_go 45 = .ok (.if_icmp .ge 17, 3) := by decide +kernel
theorem dX2_go_48 : decode cX2_go 48 = .ok (.aload_n 0, 1) := by decide +kernel
theorem dX2_go_49 : decode cX2_go 49 = .ok (.iload_n 1, 1) := by decide +kernel
theorem dX2_go_50 : decode cX2_go 50 = .ok (.iload 4, 2) := by decide +kernel
theorem dX2_go_52 : decode cX2_go 52 = .ok (.invokevirtual 69, 3) := by decide +kernel
theorem dX2_go_55 : decode cX2_go 55 = .ok (.ifCond .eq 7, 3) := by decide +kernel
theorem dX2_go_58 : decode cX2_go 58 = .ok (.iconst 1, 1) := by decide +kernel
theorem dX2_go_59 : decode cX2_go 59 = .ok (.goto 4, 3) := by decide +kernel
theorem dX2_go_62 : decode cX2_go 62 = .ok (.iconst 0, 1) := by decide +kernel
theorem dX2_go_63 : decode cX2_go 63 = .ok (.bastore, 1) := by decide +kernel
theorem dX2_go_64 : decode cX2_go 64 = .ok (.aload_n 0, 1) := by decide +kernel
theorem dX2_go_65 : decode cX2_go 65 = .ok (.getfield 15, 3) := by decide +kernel
theorem dX2_go_68 : decode cX2_go 68 = .ok (.iload 4, 2) := by decide +kernel
theorem dX2_go_70 : decode cX2_go 70 = .ok (.baload, 1) := by decide +kernel
theorem dX2_go_71 : decode cX2_go 71 = .ok (.ifCond .eq 16, 3) := by decide +kernel
theorem dX2_go_74 : decode cX2_go 74 = .ok (.aload_n 0, 1) := by decide +kernel
theorem dX2_go_75 : decode cX2_go 75 = .ok (.iload 4, 2) := by decide +kernel
theorem dX2_go_77 : decode cX2_go 77 = .ok (.aload_n 0, 1) := by decide +kernel
theorem dX2_go_78 : decode cX2_go 78 = .ok (.iload 4, 2) := by decide +kernel
theorem dX2_go_80 : decode cX2_go 80 = .ok (.iconst (-1), 1) := by decide +kernel
theorem dX2_go_81 : decode cX2_go 81 = .ok (.invokevirtual 72, 3) := by decide +kernel
theorem dX2_go_84 : decode cX2_go 84 = .ok (.invokevirtual 76, 3) := by decide +kernel
theorem dX2_go_87 : decode cX2_go 87 = .ok (.iinc 4 1, 3) := by decide +kernel
theorem dX2_go_90 : decode cX2_go 90 = .ok (.goto (-61), 3) := by decide +kernel
theorem dX2_go_93 : decode cX2_go 93 = .ok (.aload_n 0, 1) := by decide +kernel
theorem dX2_go_94 : decode cX2_go 94 = .ok (.invokevirtual 80, 3) := by decide +kernel
theorem dX2_go_97 : decode cX2_go 97 = .ok (.l2i, 1) := by decide +kernel
theorem dX2_go_98 : decode cX2_go 98 = .ok (.ireturn, 1) := by decide +kernel
theorem dX2_wasFound_0 : decode cX2_wasFound 0 = .ok (.aload_n 0, 1) := by decide +kernel
theorem dX2_wasFound_1 : decode cX2_wasFound 1 = .ok (.getfield 30, 3) := by decide +kernel
theorem dX2_wasFound_4 : decode cX2_wasFound 4 = .ok (.ireturn, 1) := by decide +kernel
set_option maxRecDepth 20000 in
theorem ggX2_isWalked_X3_isPing : GoodIn wsX2_isWalked wsX3_isPing := goodIn_r _ [4] (by decide +kernel) (by decide +kernel)
set_option maxRecDepth 20000 in
theorem gX2_isWalked_X3_isPing_n55 : GoodIn wsX2_isWalked (wsX3_isPing) := ggX2_isWalked_X3_isPing
theorem dX2_isWalked_0 : decode cX2_isWalked 0 = .ok (.iload_n 1, 1) := by decide +kernel
theorem dX2_isWalked_1 : decode cX2_isWalked 1 = .ok (.invokestatic 55, 3) := by decide +kernel
theorem dX2_isWalked_4 : decode cX2_isWalked 4 = .ok (.ifCond .eq 16, 3) := by decide +kernel
theorem dX2_isWalked_7 : decode cX2_isWalked 7 = .ok (.aload_n 0, 1) := by decide +kernel
theorem dX2_isWalked_8 : decode cX2_isWalked 8 = .ok (.getfield 15, 3) := by decide +kernel
theorem dX2_isWalked_11 : decode cX2_isWalked 11 = .ok (.iload_n 1, 1) := by decide +kernel
theorem dX2_isWalked_12 : decode cX2_isWalked 12 = .ok (.baload, 1) := by decide +kernel
theorem dX2_isWalked_13 : decode cX2_isWalked 13 = .ok (.ifCond .eq 7, 3) := by decide +kernel
theorem dX2_isWalked_16 : decode cX2_isWalked 16 = .ok (.iconst 1, 1) := by decide +kernel
theorem dX2_isWalked_17 : decode cX2_isWalked 17 = .ok (.goto 4, 3) := by decide +kernel
theorem dX2_isWalked_20 : decode cX2_isWalked 20 = .ok (.iconst 0, 1) := by decide +kernel
theorem dX2_isWalked_21 : decode cX2_isWalked 21 = .ok (.ireturn, 1) := by decide +kernel
set_option maxRecDepth 20000 in
theorem ggX2_isBridge_X3_isPing : GoodIn wsX2_isBridge wsX3_isPing := goodIn_r _ [3] (by decide +kernel) (by decide +kernel)
set_option maxRecDepth 20000 in
theorem gX2_isBridge_X3_isPing_n55 : GoodIn wsX2_isBridge (wsX3_isPing) := ggX2_isBridge_X3_isPing
set_option maxRecDepth 20000 in
theorem ggX2_isBridge_X2_isWalked : GoodIn wsX2_isBridge wsX2_isWalked := goodIn_r _ [8, 9, 1, 2, 3, 14, 15, 16, 17, 18, 19, 20, 21] (by decide +kernel) (by decide +kernel)
set_option maxRecDepth 20000 in
theorem gX2_isBridge_X2_isWalked : GoodIn wsX2_isBridge (wsV RX2 84 RX2 yX2_isWalked wsX2_isWalked) := goodIn_app (goodIn_of _ (by decide +kernel)) ggX2_isBridge_X2_isWalked
set_option maxRecDepth 20000 in
theorem ggX2_isBridge_X2_neighbour : GoodIn wsX2_isBridge wsX2_neighbour := goodIn_r _ [13, 4, 5, 6, 7, 8, 9, 1, 2, 3, 14, 15, 16, 17, 18, 19, 20, 21] (by decide +kernel) (by decide +kernel)
set_option maxRecDepth 20000 in
theorem gX2_isBridge_X2_neighbour : GoodIn wsX2_isBridge (wsV RX2 72 RX2 yX2_neighbour wsX2_neighbour) := goodIn_app (goodIn_of _ (by decide +kernel)) ggX2_isBridge_X2_neighbour
theorem dX2_isBridge_0 : decode cX2_isBridge 0 = .ok (.iload_n 1, 1) := by decide +kernel
theorem dX2_isBridge_1 : decode cX2_isBridge 1 = .ok (.invokestatic 55, 3) := by decide +kernel
theorem dX2_isBridge_4 : decode cX2_isBridge 4 = .ok (.ifCond .eq 11, 3) := by decide +kernel
theorem dX2_isBridge_7 : decode cX2_isBridge 7 = .ok (.aload_n 0, 1) := by decide +kernel
theorem dX2_isBridge_8 : decode cX2_isBridge 8 = .ok (.iload_n 1, 1) := by decide +kernel
theorem dX2_isBridge_9 : decode cX2_isBridge 9 = .ok (.invokevirtual 84, 3) := by decide +kernel
theorem dX2_isBridge_12 : decode cX2_isBridge 12 = .ok (.ifCond .eq 5, 3) := by decide +kernel
theorem dX2_isBridge_15 : decode cX2_isBridge 15 = .ok (.iconst 0, 1) := by decide +kernel
theorem dX2_isBridge_16 : decode cX2_isBridge 16 = .ok (.ireturn, 1) := by decide +kernel
theorem dX2_isBridge_17 : decode cX2_isBridge 17 = .ok (.aload_n 0, 1) := by decide +kernel
theorem dX2_isBridge_18 : decode cX2_isBridge 18 = .ok (.iload_n 1, 1) := by decide +kernel
theorem dX2_isBridge_19 : decode cX2_isBridge 19 = .ok (.iconst (-1), 1) := by decide +kernel
theorem dX2_isBridge_20 : decode cX2_isBridge 20 = .ok (.invokevirtual 72, 3) := by decide +kernel
theorem dX2_isBridge_23 : decode cX2_isBridge 23 = .ok (.istore_n 2, 1) := by decide +kernel
theorem dX2_isBridge_24 : decode cX2_isBridge 24 = .ok (.aload_n 0, 1) := by decide +kernel
theorem dX2_isBridge_25 : decode cX2_isBridge 25 = .ok (.iload_n 1, 1) := by decide +kernel
theorem dX2_isBridge_26 : decode cX2_isBridge 26 = .ok (.iconst 1, 1) := by decide +kernel
theorem dX2_isBridge_27 : decode cX2_isBridge 27 = .ok (.invokevirtual 72, 3) := by decide +kernel
theorem dX2_isBridge_30 : decode cX2_isBridge 30 = .ok (.istore_n 3, 1) := by decide +kernel
theorem dX2_isBridge_31 : decode cX2_isBridge 31 = .ok (.iload_n 2, 1) := by decide +kernel
theorem dX2_isBridge_32 : decode cX2_isBridge 32 = .ok (.iconst (-1), 1) := by decide +kernel
theorem dX2_isBridge_33 : decode cX2_isBridge 33 = .ok (.if_icmp .eq 19, 3) := by decide +kernel
theorem dX2_isBridge_36 : decode cX2_isBridge 36 = .ok (.iload_n 3, 1) := by decide +kernel
theorem dX2_isBridge_37 : decode cX2_isBridge 37 = .ok (.iconst (-1), 1) := by decide +kernel
theorem dX2_isBridge_38 : decode cX2_isBridge 38 = .ok (.if_icmp .eq 14, 3) := by decide +kernel
theorem dX2_isBridge_41 : decode cX2_isBridge 41 = .ok (.iload_n 3, 1) := by decide +kernel
theorem dX2_isBridge_42 : decode cX2_isBridge 42 = .ok (.iload_n 2, 1) := by decide +kernel
theorem dX2_isBridge_43 : decode cX2_isBridge 43 = .ok (.isub, 1) := by decide +kernel
theorem dX2_isBridge_44 : decode cX2_isBridge 44 = .ok (.iconst 4, 1) := by decide +kernel
theorem dX2_isBridge_45 : decode cX2_isBridge 45 = .ok (.if_icmp .gt 7, 3) := by decide +kernel
theorem dX2_isBridge_48 : decode cX2_isBridge 48 = .ok (.iconst 1, 1) := by decide +kernel
theorem dX2_isBridge_49 : decode cX2_isBridge 49 = .ok (.goto 4, 3) := by decide +kernel
theorem dX2_isBridge_52 : decode cX2_isBridge 52 = .ok (.iconst 0, 1) := by decide +kernel
theorem dX2_isBridge_53 : decode cX2_isBridge 53 = .ok (.ireturn, 1) := by decide +kernel
set_option maxRecDepth 20000 in
theorem ggX2_hasBottom_X2_isWalked : GoodIn wsX2_hasBottom wsX2_isWalked := goodIn_r _ [5, 6, 7, 8, 9, 18, 19, 20, 21, 22, 23, 24, 25] (by decide +kernel) (by decide +kernel)
set_option maxRecDepth 20000 in
theorem gX2_hasBottom_X2_isWalked : GoodIn wsX2_hasBottom (wsV RX2 84 RX2 yX2_isWalked wsX2_isWalked) := goodIn_app (goodIn_of _ (by decide +kernel)) ggX2_hasBottom_X2_isWalked
set_option maxRecDepth 20000 in
theorem ggX2_hasBottom_X2_isBridge : GoodIn wsX2_hasBottom wsX2_isBridge := goodIn_r _ [13, 7, 8, 9, 1, 2, 3, 4, 5, 6, 14, 15, 16, 17, 18, 19, 20, 21, 22, 23, 24, 25] (by decide +kernel) (by decide +kernel)
set_option maxRecDepth 20000 in
theorem gX2_hasBottom_X2_isBridge : GoodIn wsX2_hasBottom (wsV RX2 87 RX2 yX2_isBridge wsX2_isBridge) := goodIn_app (goodIn_of _ (by decide +kernel)) ggX2_hasBottom_X2_isBridge
theorem dX2_hasBottom_0 : decode cX2_hasBottom 0 = .ok (.aload_n 0, 1) := by decide +kernel
theorem dX2_hasBottom_1 : decode cX2_hasBottom 1 = .ok (.iload_n 1, 1) := by decide +kernel
theorem dX2_hasBottom_2 : decode cX2_hasBottom 2 = .ok (.invokevirtual 84, 3) := by decide +kernel
theorem dX2_hasBottom_5 : decode cX2_hasBottom 5 = .ok (.ifCond .ne 11, 3) := by decide +kernel
theorem dX2_hasBottom_8 : decode cX2_hasBottom 8 = .ok (.aload_n 0, 1) := by decide +kernel
theorem dX2_hasBottom_9 : decode cX2_hasBottom 9 = .ok (.iload_n 1, 1) := by decide +kernel
theorem dX2_hasBottom_10 : decode cX2_hasBottom 10 = .ok (.invokevirtual 87, 3) := by decide +kernel
theorem dX2_hasBottom_13 : decode cX2_hasBottom 13 = .ok (.ifCond .eq 7, 3) := by decide +kernel
theorem dX2_hasBottom_16 : decode cX2_hasBottom 16 = .ok (.iconst 1, 1) := by decide +kernel
theorem dX2_hasBottom_17 : decode cX2_hasBottom 17 = .ok (.goto 4, 3) := by decide +kernel
theorem dX2_hasBottom_20 : decode cX2_hasBottom 20 = .ok (.iconst 0, 1) := by decide +kernel
theorem dX2_hasBottom_21 : decode cX2_hasBottom 21 = .ok (.ireturn, 1) := by decide +kernel
set_option maxRecDepth 20000 in
theorem ggX2_depthAt_X2_isBridge : GoodIn wsX2_depthAt wsX2_isBridge := goodIn_r _ [5, 6, 7, 8, 9, 10, 11, 4, 12, 13, 14, 15, 16, 17, 41, 42, 43, 44, 45, 46, 47, 48] (by decide +kernel) (by decide +kernel)
set_option maxRecDepth 20000 in
theorem gX2_depthAt_X2_isBridge : GoodIn wsX2_depthAt (wsV RX2 87 RX2 yX2_isBridge wsX2_isBridge) := goodIn_app (goodIn_of _ (by decide +kernel)) ggX2_depthAt_X2_isBridge
set_option maxRecDepth 20000 in
theorem ggX2_depthAt_X2_depthWalked : GoodIn wsX2_depthAt wsX2_depthWalked := goodIn_r _ [21, 22, 23, 24, 25, 26, 4, 27, 6, 7, 8, 28, 29, 30, 31, 32, 33, 34, 35, 36, 37, 38, 41, 42, 43, 44, 45, 46, 47, 48, 49, 50, 51, 52, 53, 54, 55] (by decide +kernel) (by decide +kernel)
set_option maxRecDepth 20000 in
theorem gX2_depthAt_X2_depthWalked : GoodIn wsX2_depthAt (wsV RX2 90 RX2 yX2_depthWalked wsX2_depthWalked) := goodIn_app (goodIn_of _ (by decide +kernel)) ggX2_depthAt_X2_depthWalked
set_option maxRecDepth 20000 in
theorem ggX2_depthAt_X2_neighbour : GoodIn wsX2_depthAt wsX2_neighbour := goodIn_r _ [17, 9, 10, 11, 4, 12, 13, 6, 7, 8, 41, 42, 43, 44, 45, 46, 47, 48] (by decide +kernel) (by decide +kernel)
set_option maxRecDepth 20000 in
theorem gX2_depthAt_X2_neighbour : GoodIn wsX2_depthAt (wsV RX2 72 RX2 yX2_neighbour wsX2_neighbour) := goodIn_app (goodIn_of _ (by decide +kernel)) ggX2_depthAt_X2_neighbour
set_option maxRecDepth 20000 in
theorem ggX2_depthAt_X3_over : GoodIn wsX2_depthAt wsX3_over := goodIn_r _ [40] (by decide +kernel) (by decide +kernel)
set_option maxRecDepth 20000 in
theorem gX2_depthAt_X3_over_n94 : GoodIn wsX2_depthAt (wsX3_over) := ggX2_depthAt_X3_over
theorem dX2_depthAt_0 : decode cX2_depthAt 0 = .ok (.aload_n 0, 1) := by decide +kernel
theorem dX2_depthAt_1 : decode cX2_depthAt 1 = .ok (.iload_n 1, 1) := by decide +kernel
theorem dX2_depthAt_2 : decode cX2_depthAt 2 = .ok (.invokevirtual 87, 3) := by decide +kernel
theorem dX2_depthAt_5 : decode cX2_depthAt 5 = .ok (.ifCond .ne 9, 3) := by decide +kernel
theorem dX2_depthAt_8 : decode cX2_depthAt 8 = .ok (.aload_n 0, 1) := by decide +kernel
theorem dX2_depthAt_9 : decode cX2_depthAt 9 = .ok (.iload_n 1, 1) := by decide +kernel
theorem dX2_depthAt_10 : decode cX2_depthAt 10 = .ok (.invokevirtual 90, 3) := by decide +kernel
theorem dX2_depthAt_13 : decode cX2_depthAt 13 = .ok (.dreturn, 1) := by decide +kernel
theorem dX2_depthAt_14 : decode cX2_depthAt 14 = .ok (.aload_n 0, 1) := by decide +kernel
theorem dX2_depthAt_15 : decode cX2_depthAt 15 = .ok (.iload_n 1, 1) := by decide +kernel
theorem dX2_depthAt_16 : decode cX2_depthAt 16 = .ok (.iconst (-1), 1) := by decide +kernel
theorem dX2_depthAt_17 : decode cX2_depthAt 17 = .ok (.invokevirtual 72, 3) := by decide +kernel
theorem dX2_depthAt_20 : decode cX2_depthAt 20 = .ok (.istore_n 2, 1) := by decide +kernel
theorem dX2_depthAt_21 : decode cX2_depthAt 21 = .ok (.aload_n 0, 1) := by decide +kernel
theorem dX2_depthAt_22 : decode cX2_depthAt 22 = .ok (.iload_n 1, 1) := by decide +kernel
theorem dX2_depthAt_23 : decode cX2_depthAt 23 = .ok (.iconst 1, 1) := by decide +kernel
theorem dX2_depthAt_24 : decode cX2_depthAt 24 = .ok (.invokevirtual 72, 3) := by decide +kernel
theorem dX2_depthAt_27 : decode cX2_depthAt 27 = .ok (.istore_n 3, 1) := by decide +kernel
theorem dX2_depthAt_28 : decode cX2_depthAt 28 = .ok (.aload_n 0, 1) := by decide +kernel
theorem dX2_depthAt_29 : decode cX2_depthAt 29 = .ok (.iload_n 2, 1) := by decide +kernel
theorem dX2_depthAt_30 : decode cX2_depthAt 30 = .ok (.invokevirtual 90, 3) := by decide +kernel
theorem dX2_depthAt_33 : decode cX2_depthAt 33 = .ok (.dstore 4, 2) := by decide +kernel
theorem dX2_depthAt_35 : decode cX2_depthAt 35 = .ok (.aload_n 0, 1) := by decide +kernel
theorem dX2_depthAt_36 : decode cX2_depthAt 36 = .ok (.iload_n 3, 1) := by decide +kernel
theorem dX2_depthAt_37 : decode cX2_depthAt 37 = .ok (.invokevirtual 90, 3) := by decide +kernel
theorem dX2_depthAt_40 : decode cX2_depthAt 40 = .ok (.dstore 6, 2) := by decide +kernel
theorem dX2_depthAt_42 : decode cX2_depthAt 42 = .ok (.dload 4, 2) := by decide +kernel
theorem dX2_depthAt_44 : decode cX2_depthAt 44 = .ok (.dload 6, 2) := by decide +kernel
theorem dX2_depthAt_46 : decode cX2_depthAt 46 = .ok (.dload 4, 2) := by decide +kernel
theorem dX2_depthAt_48 : decode cX2_depthAt 48 = .ok (.dsub, 1) := by decide +kernel
theorem dX2_depthAt_49 : decode cX2_depthAt 49 = .ok (.iload_n 1, 1) := by decide +kernel
theorem dX2_depthAt_50 : decode cX2_depthAt 50 = .ok (.iload_n 2, 1) := by decide +kernel
theorem dX2_depthAt_51 : decode cX2_depthAt 51 = .ok (.isub, 1) := by decide +kernel
theorem dX2_depthAt_52 : decode cX2_depthAt 52 = .ok (.i2d, 1) := by decide +kernel
theorem dX2_depthAt_53 : decode cX2_depthAt 53 = .ok (.dmul, 1) := by decide +kernel
theorem dX2_depthAt_54 : decode cX2_depthAt 54 = .ok (.iload_n 3, 1) := by decide +kernel
theorem dX2_depthAt_55 : decode cX2_depthAt 55 = .ok (.iload_n 2, 1) := by decide +kernel
theorem dX2_depthAt_56 : decode cX2_depthAt 56 = .ok (.isub, 1) := by decide +kernel
theorem dX2_depthAt_57 : decode cX2_depthAt 57 = .ok (.i2d, 1) := by decide +kernel
theorem dX2_depthAt_58 : decode cX2_depthAt 58 = .ok (.invokestatic 94, 3) := by decide +kernel
theorem dX2_depthAt_61 : decode cX2_depthAt 61 = .ok (.dadd, 1) := by decide +kernel
theorem dX2_depthAt_62 : decode cX2_depthAt 62 = .ok (.dreturn, 1) := by decide +kernel
set_option maxRecDepth 20000 in
theorem ggX2_strengthsBehind_X2_isEdited : GoodIn wsX2_strengthsBehind wsX2_isEdited := goodIn_r _ [7, 8, 9, 10, 11, 60, 61, 62, 63, 64, 65, 66, 67] (by decide +kernel) (by decide +kernel)
set_option maxRecDepth 20000 in
theorem gX2_strengthsBehind_X2_isEdited : GoodIn wsX2_strengthsBehind (wsV RX2 98 RX2 yX2_isEdited wsX2_isEdited) := goodIn_app (goodIn_of _ (by decide +kernel)) ggX2_strengthsBehind_X2_isEdited
set_option maxRecDepth 20000 in
theorem ggX2_strengthsBehind_X2_lowest : GoodIn wsX2_strengthsBehind wsX2_lowest := goodIn_r _ [15, 1, 8, 3, 4, 5, 6, 7, 9, 10, 11, 16, 17, 18, 19, 20, 21, 22, 23, 24, 25, 26, 60, 61, 62, 63, 64, 65, 66, 67, 68, 69, 70, 71, 72, 73, 74] (by decide +kernel) (by decide +kernel)
set_option maxRecDepth 20000 in
theorem gX2_strengthsBehind_X2_lowest : GoodIn wsX2_strengthsBehind (wsV RX2 101 RX2 yX2_lowest wsX2_lowest) := goodIn_app (goodIn_of _ (by decide +kernel)) ggX2_strengthsBehind_X2_lowest
set_option maxRecDepth 20000 in
theorem ggX2_strengthsBehind_X2_sampleOfRow : GoodIn wsX2_strengthsBehind wsX2_sampleOfRow := goodIn_r _ [30, 31, 9, 10, 11, 60, 61, 62, 63, 64, 65, 66, 67] (by decide +kernel) (by decide +kernel)
set_option maxRecDepth 20000 in
theorem gX2_strengthsBehind_X2_sampleOfRow : GoodIn wsX2_strengthsBehind (wsV RX2 105 RX2 yX2_sampleOfRow wsX2_sampleOfRow) := goodIn_app (goodIn_of _ (by decide +kernel)) ggX2_strengthsBehind_X2_sampleOfRow
set_option maxRecDepth 20000 in
theorem ggX2_strengthsBehind_X0_strength : GoodIn wsX2_strengthsBehind wsX0_strength := goodIn_r _ [35, 36, 37, 38, 39, 40, 41, 42, 43, 44, 45, 46, 47, 19, 48, 21, 49, 10, 50, 9, 11, 51, 52, 53, 54, 55, 56, 57, 58, 59, 22, 23, 24, 25, 26, 68, 69, 70, 71, 72, 73, 74] (by decide +kernel) (by decide +kernel)
set_option maxRecDepth 20000 in
theorem gX2_strengthsBehind_X0_strength : GoodIn wsX2_strengthsBehind (wsV RX2 108 RX0 yX0_strength wsX0_strength) := goodIn_app (goodIn_of _ (by decide +kernel)) ggX2_strengthsBehind_X0_strength
theorem dX2_strengthsBehind_0 : decode cX2_strengthsBehind 0 = .ok (.aload_n 0, 1) := by decide +kernel
theorem dX2_strengthsBehind_1 : decode cX2_strengthsBehind 1 = .ok (.iload_n 1, 1) := by decide +kernel
theorem dX2_strengthsBehind_2 : decode cX2_strengthsBehind 2 = .ok (.invokevirtual 98, 3) := by decide +kernel
theorem dX2_strengthsBehind_5 : decode cX2_strengthsBehind 5 = .ok (.ifCond .eq 11, 3) := by decide +kernel
theorem dX2_strengthsBehind_8 : decode cX2_strengthsBehind 8 = .ok (.aload_n 0, 1) := by decide +kernel
theorem dX2_strengthsBehind_9 : decode cX2_strengthsBehind 9 = .ok (.iload_n 1, 1) := by decide +kernel
theorem dX2_strengthsBehind_10 : decode cX2_strengthsBehind 10 = .ok (.invokevirtual 101, 3) := by decide +kernel
theorem dX2_strengthsBehind_13 : decode cX2_strengthsBehind 13 = .ok (.goto 8, 3) := by decide +kernel
theorem dX2_strengthsBehind_16 : decode cX2_strengthsBehind 16 = .ok (.aload_n 0, 1) := by decide +kernel
theorem dX2_strengthsBehind_17 : decode cX2_strengthsBehind 17 = .ok (.iload_n 1, 1) := by decide +kernel
theorem dX2_strengthsBehind_18 : decode cX2_strengthsBehind 18 = .ok (.invokevirtual 105, 3) := by decide +kernel
theorem dX2_strengthsBehind_21 : decode cX2_strengthsBehind 21 = .ok (.istore_n 2, 1) := by decide +kernel
theorem dX2_strengthsBehind_22 : decode cX2_strengthsBehind 22 = .ok (.lconst 0, 1) := by decide +kernel
theorem dX2_strengthsBehind_23 : decode cX2_strengthsBehind 23 = .ok (.lstore_n 3, 1) := by decide +kernel
theorem dX2_strengthsBehind_24 : decode cX2_strengthsBehind 24 = .ok (.iconst 1, 1) := by decide +kernel
theorem dX2_strengthsBehind_25 : decode cX2_strengthsBehind 25 = .ok (.istore 5, 2) := by decide +kernel
theorem dX2_strengthsBehind_27 : decode cX2_strengthsBehind 27 = .ok (.iload 5, 2) := by decide +kernel
theorem dX2_strengthsBehind_29 : decode cX2_strengthsBehind 29 = .ok (.bipush 8, 2) := by decide +kernel
theorem dX2_strengthsBehind_31 : decode cX2_strengthsBehind 31 = .ok (.if_icmp .gt 28, 3) := by decide +kernel
theorem dX2_strengthsBehind_34 : decode cX2_strengthsBehind 34 = .ok (.lload_n 3, 1) := by decide +kernel
theorem dX2_strengthsBehind_35 : decode cX2_strengthsBehind 35 = .ok (.aload_n 0, 1) := by decide +kernel
theorem dX2_strengthsBehind_36 : decode cX2_strengthsBehind 36 = .ok (.getfield 34, 3) := by decide +kernel
theorem dX2_strengthsBehind_39 : decode cX2_strengthsBehind 39 = .ok (.aload_n 0, 1) := by decide +kernel
theorem dX2_strengthsBehind_40 : decode cX2_strengthsBehind 40 = .ok (.getfield 27, 3) := by decide +kernel
theorem dX2_strengthsBehind_43 : decode cX2_strengthsBehind 43 = .ok (.iload_n 1, 1) := by decide +kernel
theorem dX2_strengthsBehind_44 : decode cX2_strengthsBehind 44 = .ok (.iload_n 2, 1) := by decide +kernel
theorem dX2_strengthsBehind_45 : decode cX2_strengthsBehind 45 = .ok (.iload 5, 2) := by decide +kernel
theorem dX2_strengthsBehind_47 : decode cX2_strengthsBehind 47 = .ok (.iadd, 1) := by decide +kernel
theorem dX2_strengthsBehind_48 : decode cX2_strengthsBehind 48 = .ok (.invokevirtual 108, 3) := by decide +kernel
theorem dX2_strengthsBehind_51 : decode cX2_strengthsBehind 51 = .ok (.ladd, 1) := by decide +kernel
theorem dX2_strengthsBehind_52 : decode cX2_strengthsBehind 52 = .ok (.lstore_n 3, 1) := by decide +kernel
theorem dX2_strengthsBehind_53 : decode cX2_strengthsBehind 53 = .ok (.iinc 5 1, 3) := by decide +kernel
theorem dX2_strengthsBehind_56 : decode cX2_strengthsBehind 56 = .ok (.goto (-29), 3) := by decide +kernel
theorem dX2_strengthsBehind_59 : decode cX2_strengthsBehind 59 = .ok (.lload_n 3, 1) := by decide +kernel
theorem dX2_strengthsBehind_60 : decode cX2_strengthsBehind 60 = .ok (.l2d, 1) := by decide +kernel
theorem dX2_strengthsBehind_61 : decode cX2_strengthsBehind 61 = .ok (.dreturn, 1) := by decide +kernel
set_option maxRecDepth 20000 in
theorem ggX2_hasPing_X2_isForWalk : GoodIn wsX2_hasPing wsX2_isForWalk := goodIn_r _ [5, 6, 7, 8, 9, 4, 10, 11, 12, 13, 14, 15, 16, 17, 18, 19, 20, 21, 22, 23, 24, 25, 26, 27, 28, 29, 30, 31, 32, 33, 34, 35, 36, 37, 38, 39, 40, 41, 42, 43, 44, 45, 46, 47, 48, 49, 50, 51] (by decide +kernel) (by decide +kernel)
set_option maxRecDepth 20000 in
theorem gX2_hasPing_X2_isForWalk : GoodIn wsX2_hasPing (wsV RX2 69 RX2 yX2_isForWalk wsX2_isForWalk) := goodIn_app (goodIn_of _ (by decide +kernel)) ggX2_hasPing_X2_isForWalk
theorem dX2_hasPing_0 : decode cX2_hasPing 0 = .ok (.iconst 0, 1) := by decide +kernel
theorem dX2_hasPing_1 : decode cX2_hasPing 1 = .ok (.istore_n 3, 1) := by decide +kernel
theorem dX2_hasPing_2 : decode cX2_hasPing 2 = .ok (.iload_n 3, 1) := by decide +kernel
theorem dX2_hasPing_3 : decode cX2_hasPing 3 = .ok (.iload_n 2, 1) := by decide +kernel
theorem dX2_hasPing_4 : decode cX2_hasPing 4 = .ok (.if_icmp .ge 20, 3) := by decide +kernel
theorem dX2_hasPing_7 : decode cX2_hasPing 7 = .ok (.aload_n 0, 1) := by decide +kernel
theorem dX2_hasPing_8 : decode cX2_hasPing 8 = .ok (.iload_n 1, 1) := by decide +kernel
theorem dX2_hasPing_9 : decode cX2_hasPing 9 = .ok (.iload_n 3, 1) := by decide +kernel
theorem dX2_hasPing_10 : decode cX2_hasPing 10 = .ok (.invokevirtual 69, 3) := by decide +kernel
theorem dX2_hasPing_13 : decode cX2_hasPing 13 = .ok (.ifCond .eq 5, 3) := by decide +kernel
theorem dX2_hasPing_16 : decode cX2_hasPing 16 = .ok (.iconst 1, 1) := by decide +kernel
theorem dX2_hasPing_17 : decode cX2_hasPing 17 = .ok (.ireturn, 1) := by decide +kernel
theorem dX2_hasPing_18 : decode cX2_hasPing 18 = .ok (.iinc 3 1, 3) := by decide +kernel
theorem dX2_hasPing_21 : decode cX2_hasPing 21 = .ok (.goto (-19), 3) := by decide +kernel
theorem dX2_hasPing_24 : decode cX2_hasPing 24 = .ok (.iconst 0, 1) := by decide +kernel
theorem dX2_hasPing_25 : decode cX2_hasPing 25 = .ok (.ireturn, 1) := by decide +kernel
set_option maxRecDepth 20000 in
theorem ggX2_isForWalk_X2_isEdited : GoodIn wsX2_isForWalk wsX2_isEdited := goodIn_r _ [6, 7, 8, 9, 10, 33, 34, 35, 36, 37, 38, 39, 40] (by decide +kernel) (by decide +kernel)
set_option maxRecDepth 20000 in
theorem gX2_isForWalk_X2_isEdited : GoodIn wsX2_isForWalk (wsV RX2 98 RX2 yX2_isEdited wsX2_isEdited) := goodIn_app (goodIn_of _ (by decide +kernel)) ggX2_isForWalk_X2_isEdited
set_option maxRecDepth 20000 in
theorem ggX2_isForWalk_X0_isLost : GoodIn wsX2_isForWalk wsX0_isLost := goodIn_r _ [15, 16, 8, 9, 10, 41, 42, 43, 44, 45, 46, 47] (by decide +kernel) (by decide +kernel)
set_option maxRecDepth 20000 in
theorem gX2_isForWalk_X0_isLost : GoodIn wsX2_isForWalk (wsV RX2 112 RX0 yX0_isLost wsX0_isLost) := goodIn_app (goodIn_of _ (by decide +kernel)) ggX2_isForWalk_X0_isLost
set_option maxRecDepth 20000 in
theorem ggX2_isForWalk_X0_isSilent : GoodIn wsX2_isForWalk wsX0_isSilent := goodIn_r _ [20, 21, 22, 23, 24, 25, 14, 26, 27, 9, 28, 8, 10, 29, 30, 31, 32, 41, 42, 43, 44, 45, 46, 47] (by decide +kernel) (by decide +kernel)
set_option maxRecDepth 20000 in
theorem gX2_isForWalk_X0_isSilent : GoodIn wsX2_isForWalk (wsV RX2 115 RX0 yX0_isSilent wsX0_isSilent) := goodIn_app (goodIn_of _ (by decide +kernel)) ggX2_isForWalk_X0_isSilent
theorem dX2_isForWalk_0 : decode cX2_isForWalk 0 = .ok (.aload_n 0, 1) := by decide +kernel
theorem dX2_isForWalk_1 : decode cX2_isForWalk 1 = .ok (.iload_n 2, 1) := by decide +kernel
theorem dX2_isForWalk_2 : decode cX2_isForWalk 2 = .ok (.invokevirtual 98, 3) := by decide +kernel
theorem dX2_isForWalk_5 : decode cX2_isForWalk 5 = .ok (.ifCond .ne 26, 3) := by decide +kernel
theorem dX2_isForWalk_8 : decode cX2_isForWalk 8 = .ok (.aload_n 0, 1) := by decide +kernel
theorem dX2_isForWalk_9 : decode cX2_isForWalk 9 = .ok (.getfield 34, 3) := by decide +kernel
theorem dX2_isForWalk_12 : decode cX2_isForWalk 12 = .ok (.iload_n 2, 1) := by decide +kernel
theorem dX2_isForWalk_13 : decode cX2_isForWalk 13 = .ok (.invokevirtual 112, 3) := by decide +kernel
theorem dX2_isForWalk_16 : decode cX2_isForWalk 16 = .ok (.ifCond .ne 19, 3) := by decide +kernel
theorem dX2_isForWalk_19 : decode cX2_isForWalk 19 = .ok (.aload_n 0, 1) := by decide +kernel
theorem dX2_isForWalk_20 : decode cX2_isForWalk 20 = .ok (.getfield 34, 3) := by decide +kernel
theorem dX2_isForWalk_23 : decode cX2_isForWalk 23 = .ok (.iload_n 1, 1) := by decide +kernel
theorem dX2_isForWalk_24 : decode cX2_isForWalk 24 = .ok (.iload_n 2, 1) := by decide +kernel
theorem dX2_isForWalk_25 : decode cX2_isForWalk 25 = .ok (.invokevirtual 115, 3) := by decide +kernel
theorem dX2_isForWalk_28 : decode cX2_isForWalk 28 = .ok (.ifCond .ne 7, 3) := by decide +kernel
theorem dX2_isForWalk_31 : decode cX2_isForWalk 31 = .ok (.iconst 1, 1) := by decide +kernel
theorem dX2_isForWalk_32 : decode cX2_isForWalk 32 = .ok (.goto 4, 3) := by decide +kernel
theorem dX2_isForWalk_35 : decode cX2_isForWalk 35 = .ok (.iconst 0, 1) := by decide +kernel
theorem dX2_isForWalk_36 : decode cX2_isForWalk 36 = .ok (.ireturn, 1) := by decide +kernel
set_option maxRecDepth 20000 in
theorem ggX2_isEdited_X3_isPing : GoodIn wsX2_isEdited wsX3_isPing := goodIn_r _ [4] (by decide +kernel) (by decide +kernel)
set_option maxRecDepth 20000 in
theorem gX2_isEdited_X3_isPing_n55 : GoodIn wsX2_isEdited (wsX3_isPing) := ggX2_isEdited_X3_isPing
theorem dX2_isEdited_0 : decode cX2_isEdited 0 = .ok (.iload_n 1, 1) := by decide +kernel
theorem dX2_isEdited_1 : decode cX2_isEdited 1 = .ok (.invokestatic 55, 3) := by decide +kernel
theorem dX2_isEdited_4 : decode cX2_isEdited 4 = .ok (.ifCond .eq 18, 3) := by decide +kernel
theorem dX2_isEdited_7 : decode cX2_isEdited 7 = .ok (.aload_n 0, 1) := by decide +kernel
theorem dX2_isEdited_8 : decode cX2_isEdited 8 = .ok (.getfield 9, 3) := by decide +kernel
theorem dX2_isEdited_11 : decode cX2_isEdited 11 = .ok (.iload_n 1, 1) := by decide +kernel
theorem dX2_isEdited_12 : decode cX2_isEdited 12 = .ok (.daload, 1) := by decide +kernel
theorem dX2_isEdited_13 : decode cX2_isEdited 13 = .ok (.dconst 0, 1) := by decide +kernel
theorem dX2_isEdited_14 : decode cX2_isEdited 14 = .ok (.dcmp .l, 1) := by decide +kernel
theorem dX2_isEdited_15 : decode cX2_isEdited 15 = .ok (.ifCond .lt 7, 3) := by decide +kernel
theorem dX2_isEdited_18 : decode cX2_isEdited 18 = .ok (.iconst 1, 1) := by decide +kernel
theorem dX2_isEdited_19 : decode cX2_isEdited 19 = .ok (.goto 4, 3) := by decide +kernel
theorem dX2_isEdited_22 : decode cX2_isEdited 22 = .ok (.iconst 0, 1) := by decide +kernel
theorem dX2_isEdited_23 : decode cX2_isEdited 23 = .ok (.ireturn, 1) := by decide +kernel
set_option maxRecDepth 20000 in
theorem ggX2_depthWalked_X2_isEdited : GoodIn wsX2_depthWalked wsX2_isEdited := goodIn_r _ [7, 1, 8, 9, 10, 22, 23, 24, 25, 26, 27, 28, 29] (by decide +kernel) (by decide +kernel)
set_option maxRecDepth 20000 in
theorem gX2_depthWalked_X2_isEdited : GoodIn wsX2_depthWalked (wsV RX2 98 RX2 yX2_isEdited wsX2_isEdited) := goodIn_app (goodIn_of _ (by decide +kernel)) ggX2_depthWalked_X2_isEdited
set_option maxRecDepth 20000 in
theorem ggX2_depthWalked_X2_sampleOfRow : GoodIn wsX2_depthWalked wsX2_sampleOfRow := goodIn_r _ [14, 15, 8, 9, 10, 22, 23, 24, 25, 26, 27, 28, 29] (by decide +kernel) (by decide +kernel)
set_option maxRecDepth 20000 in
theorem gX2_depthWalked_X2_sampleOfRow : GoodIn wsX2_depthWalked (wsV RX2 105 RX2 yX2_sampleOfRow wsX2_sampleOfRow) := goodIn_app (goodIn_of _ (by decide +kernel)) ggX2_depthWalked_X2_sampleOfRow
set_option maxRecDepth 20000 in
theorem ggX2_depthWalked_X0_range : GoodIn wsX2_depthWalked wsX0_range := goodIn_r _ [20, 21, 30, 31, 32, 33, 34, 35, 36] (by decide +kernel) (by decide +kernel)
set_option maxRecDepth 20000 in
theorem gX2_depthWalked_X0_range : GoodIn wsX2_depthWalked (wsV RX2 118 RX0 yX0_range wsX0_range) := goodIn_app (goodIn_of _ (by decide +kernel)) ggX2_depthWalked_X0_range
theorem dX2_depthWalked_0 : decode cX2_depthWalked 0 = .ok (.aload_n 0, 1) := by decide +kernel
theorem dX2_depthWalked_1 : decode cX2_depthWalked 1 = .ok (.iload_n 1, 1) := by decide +kernel
theorem dX2_depthWalked_2 : decode cX2_depthWalked 2 = .ok (.invokevirtual 98, 3) := by decide +kernel
theorem dX2_depthWalked_5 : decode cX2_depthWalked 5 = .ok (.ifCond .eq 12, 3) := by decide +kernel
theorem dX2_depthWalked_8 : decode cX2_depthWalked 8 = .ok (.aload_n 0, 1) := by decide +kernel
theorem dX2_depthWalked_9 : decode cX2_depthWalked 9 = .ok (.getfield 9, 3) := by decide +kernel
theorem dX2_depthWalked_12 : decode cX2_depthWalked 12 = .ok (.iload_n 1, 1) := by decide +kernel
theorem dX2_depthWalked_13 : decode cX2_depthWalked 13 = .ok (.daload, 1) := by decide +kernel
theorem dX2_depthWalked_14 : decode cX2_depthWalked 14 = .ok (.goto 15, 3) := by decide +kernel
theorem dX2_depthWalked_17 : decode cX2_depthWalked 17 = .ok (.aload_n 0, 1) := by decide +kernel
theorem dX2_depthWalked_18 : decode cX2_depthWalked 18 = .ok (.getfield 34, 3) := by decide +kernel
theorem dX2_depthWalked_21 : decode cX2_depthWalked 21 = .ok (.aload_n 0, 1) := by decide +kernel
theorem dX2_depthWalked_22 : decode cX2_depthWalked 22 = .ok (.iload_n 1, 1) := by decide +kernel
theorem dX2_depthWalked_23 : decode cX2_depthWalked 23 = .ok (.invokevirtual 105, 3) := by decide +kernel
theorem dX2_depthWalked_26 : decode cX2_depthWalked 26 = .ok (.invokevirtual 118, 3) := by decide +kernel
theorem dX2_depthWalked_29 : decode cX2_depthWalked 29 = .ok (.dreturn, 1) := by decide +kernel
set_option maxRecDepth 20000 in
theorem ggX2_sampleOfRow_X3_isPing : GoodIn wsX2_sampleOfRow wsX3_isPing := goodIn_r _ [4] (by decide +kernel) (by decide +kernel)
set_option maxRecDepth 20000 in
theorem gX2_sampleOfRow_X3_isPing_n55 : GoodIn wsX2_sampleOfRow (wsX3_isPing) := ggX2_sampleOfRow_X3_isPing
theorem dX2_sampleOfRow_0 : decode cX2_sampleOfRow 0 = .ok (.iload_n 1, 1) := by decide +kernel
theorem dX2_sampleOfRow_1 : decode cX2_sampleOfRow 1 = .ok (.invokestatic 55, 3) := by decide +kernel
theorem dX2_sampleOfRow_4 : decode cX2_sampleOfRow 4 = .ok (.ifCond .eq 12, 3) := by decide +kernel
theorem dX2_sampleOfRow_7 : decode cX2_sampleOfRow 7 = .ok (.aload_n 0, 1) := by decide +kernel
theorem dX2_sampleOfRow_8 : decode cX2_sampleOfRow 8 = .ok (.getfield 19, 3) := by decide +kernel
theorem dX2_sampleOfRow_11 : decode cX2_sampleOfRow 11 = .ok (.iload_n 1, 1) := by decide +kernel
theorem dX2_sampleOfRow_12 : decode cX2_sampleOfRow 12 = .ok (.iaload, 1) := by decide +kernel
theorem dX2_sampleOfRow_13 : decode cX2_sampleOfRow 13 = .ok (.goto 4, 3) := by decide +kernel
theorem dX2_sampleOfRow_16 : decode cX2_sampleOfRow 16 = .ok (.iconst 0, 1) := by decide +kernel
theorem dX2_sampleOfRow_17 : decode cX2_sampleOfRow 17 = .ok (.ireturn, 1) := by decide +kernel
set_option maxRecDepth 20000 in
theorem ggX2_neighbour_X2_isWalked : GoodIn wsX2_neighbour wsX2_isWalked := goodIn_r _ [5, 6, 7, 8, 9, 10, 11, 12, 13, 14, 15, 16, 17] (by decide +kernel) (by decide +kernel)
set_option maxRecDepth 20000 in
theorem gX2_neighbour_X2_isWalked : GoodIn wsX2_neighbour (wsV RX2 84 RX2 yX2_isWalked wsX2_isWalked) := goodIn_app (goodIn_of _ (by decide +kernel)) ggX2_neighbour_X2_isWalked
theorem dX2_neighbour_0 : decode cX2_neighbour 0 = .ok (.iconst 1, 1) := by decide +kernel
theorem dX2_neighbour_1 : decode cX2_neighbour 1 = .ok (.istore_n 3, 1) := by decide +kernel
theorem dX2_neighbour_2 : decode cX2_neighbour 2 = .ok (.iload_n 3, 1) := by decide +kernel
theorem dX2_neighbour_3 : decode cX2_neighbour 3 = .ok (.bipush 32, 2) := by decide +kernel
theorem dX2_neighbour_5 : decode cX2_neighbour 5 = .ok (.if_icmp .ge 27, 3) := by decide +kernel
theorem dX2_neighbour_8 : decode cX2_neighbour 8 = .ok (.aload_n 0, 1) := by decide +kernel
theorem dX2_neighbour_9 : decode cX2_neighbour 9 = .ok (.iload_n 1, 1) := by decide +kernel
theorem dX2_neighbour_10 : decode cX2_neighbour 10 = .ok (.iload_n 3, 1) := by decide +kernel
theorem dX2_neighbour_11 : decode cX2_neighbour 11 = .ok (.iload_n 2, 1) := by decide +kernel
theorem dX2_neighbour_12 : decode cX2_neighbour 12 = .ok (.imul, 1) := by decide +kernel
theorem dX2_neighbour_13 : decode cX2_neighbour 13 = .ok (.iadd, 1) := by decide +kernel
theorem dX2_neighbour_14 : decode cX2_neighbour 14 = .ok (.invokevirtual 84, 3) := by decide +kernel
theorem dX2_neighbour_17 : decode cX2_neighbour 17 = .ok (.ifCond .eq 9, 3) := by decide +kernel
theorem dX2_neighbour_20 : decode cX2_neighbour 20 = .ok (.iload_n 1, 1) := by decide +kernel
theorem dX2_neighbour_21 : decode cX2_neighbour 21 = .ok (.iload_n 3, 1) := by decide +kernel
theorem dX2_neighbour_22 : decode cX2_neighbour 22 = .ok (.iload_n 2, 1) := by decide +kernel
theorem dX2_neighbour_23 : decode cX2_neighbour 23 = .ok (.imul, 1) := by decide +kernel
theorem dX2_neighbour_24 : decode cX2_neighbour 24 = .ok (.iadd, 1) := by decide +kernel
theorem dX2_neighbour_25 : decode cX2_neighbour 25 = .ok (.ireturn, 1) := by decide +kernel
theorem dX2_neighbour_26 : decode cX2_neighbour 26 = .ok (.iinc 3 1, 3) := by decide +kernel
theorem dX2_neighbour_29 : decode cX2_neighbour 29 = .ok (.goto (-27), 3) := by decide +kernel
theorem dX2_neighbour_32 : decode cX2_neighbour 32 = .ok (.iconst (-1), 1) := by decide +kernel
theorem dX2_neighbour_33 : decode cX2_neighbour 33 = .ok (.ireturn, 1) := by decide +kernel
set_option maxRecDepth 20000 in
theorem ggX2_lowest_X2_isEdited : GoodIn wsX2_lowest wsX2_isEdited := goodIn_r _ [7, 2, 8, 9, 10, 22, 23, 24, 25, 26, 27, 28, 29] (by decide +kernel) (by decide +kernel)
set_option maxRecDepth 20000 in
theorem gX2_lowest_X2_isEdited : GoodIn wsX2_lowest (wsV RX2 98 RX2 yX2_isEdited wsX2_isEdited) := goodIn_app (goodIn_of _ (by decide +kernel)) ggX2_lowest_X2_isEdited
set_option maxRecDepth 20000 in
theorem ggX2_lowest_X0_sampleFor : GoodIn wsX2_lowest wsX0_sampleFor := goodIn_r _ [15, 16, 17, 18, 19, 14, 20, 21, 30, 31, 32, 33, 34, 35, 36] (by decide +kernel) (by decide +kernel)
set_option maxRecDepth 20000 in
theorem gX2_lowest_X0_sampleFor : GoodIn wsX2_lowest (wsV RX2 121 RX0 yX0_sampleFor wsX0_sampleFor) := goodIn_app (goodIn_of _ (by decide +kernel)) ggX2_lowest_X0_sampleFor
theorem dX2_lowest_0 : decode cX2_lowest 0 = .ok (.aload_n 0, 1) := by decide +kernel
theorem dX2_lowest_1 : decode cX2_lowest 1 = .ok (.iload_n 1, 1) := by decide +kernel
theorem dX2_lowest_2 : decode cX2_lowest 2 = .ok (.invokevirtual 98, 3) := by decide +kernel
theorem dX2_lowest_5 : decode cX2_lowest 5 = .ok (.ifCond .eq 19, 3) := by decide +kernel
theorem dX2_lowest_8 : decode cX2_lowest 8 = .ok (.aload_n 0, 1) := by decide +kernel
theorem dX2_lowest_9 : decode cX2_lowest 9 = .ok (.getfield 34, 3) := by decide +kernel
theorem dX2_lowest_12 : decode cX2_lowest 12 = .ok (.aload_n 0, 1) := by decide +kernel
theorem dX2_lowest_13 : decode cX2_lowest 13 = .ok (.getfield 9, 3) := by decide +kernel
theorem dX2_lowest_16 : decode cX2_lowest 16 = .ok (.iload_n 1, 1) := by decide +kernel
theorem dX2_lowest_17 : decode cX2_lowest 17 = .ok (.daload, 1) := by decide +kernel
theorem dX2_lowest_18 : decode cX2_lowest 18 = .ok (.invokevirtual 121, 3) := by decide +kernel
theorem dX2_lowest_21 : decode cX2_lowest 21 = .ok (.goto 4, 3) := by decide +kernel
theorem dX2_lowest_24 : decode cX2_lowest 24 = .ok (.iconst 0, 1) := by decide +kernel
theorem dX2_lowest_25 : decode cX2_lowest 25 = .ok (.ireturn, 1) := by decide +kernel
set_option maxRecDepth 20000 in
theorem ggX2_highest_X2_isEdited : GoodIn wsX2_highest wsX2_isEdited := goodIn_r _ [8, 2, 9, 10, 11, 23, 24, 25, 26, 27, 28, 29, 30] (by decide +kernel) (by decide +kernel)
set_option maxRecDepth 20000 in
theorem gX2_highest_X2_isEdited : GoodIn wsX2_highest (wsV RX2 98 RX2 yX2_isEdited wsX2_isEdited) := goodIn_app (goodIn_of _ (by decide +kernel)) ggX2_highest_X2_isEdited
set_option maxRecDepth 20000 in
theorem ggX2_highest_X0_sampleFor : GoodIn wsX2_highest wsX0_sampleFor := goodIn_r _ [16, 17, 18, 19, 20, 15, 21, 22, 31, 32, 33, 34, 35, 36, 37] (by decide +kernel) (by decide +kernel)
set_option maxRecDepth 20000 in
theorem gX2_highest_X0_sampleFor : GoodIn wsX2_highest (wsV RX2 121 RX0 yX0_sampleFor wsX0_sampleFor) := goodIn_app (goodIn_of _ (by decide +kernel)) ggX2_highest_X0_sampleFor
theorem dX2_highest_0 : decode cX2_highest 0 = .ok (.aload_n 0, 1) := by decide +kernel
theorem dX2_highest_1 : decode cX2_highest 1 = .ok (.iload_n 1, 1) := by decide +kernel
theorem dX2_highest_2 : decode cX2_highest 2 = .ok (.invokevirtual 98, 3) := by decide +kernel
theorem dX2_highest_5 : decode cX2_highest 5 = .ok (.ifCond .eq 19, 3) := by decide +kernel
theorem dX2_highest_8 : decode cX2_highest 8 = .ok (.aload_n 0, 1) := by decide +kernel
theorem dX2_highest_9 : decode cX2_highest 9 = .ok (.getfield 34, 3) := by decide +kernel
theorem dX2_highest_12 : decode cX2_highest 12 = .ok (.aload_n 0, 1) := by decide +kernel
theorem dX2_highest_13 : decode cX2_highest 13 = .ok (.getfield 9, 3) := by decide +kernel
theorem dX2_highest_16 : decode cX2_highest 16 = .ok (.iload_n 1, 1) := by decide +kernel
theorem dX2_highest_17 : decode cX2_highest 17 = .ok (.daload, 1) := by decide +kernel
theorem dX2_highest_18 : decode cX2_highest 18 = .ok (.invokevirtual 121, 3) := by decide +kernel
theorem dX2_highest_21 : decode cX2_highest 21 = .ok (.goto 12, 3) := by decide +kernel
theorem dX2_highest_24 : decode cX2_highest 24 = .ok (.aload_n 0, 1) := by decide +kernel
theorem dX2_highest_25 : decode cX2_highest 25 = .ok (.getfield 34, 3) := by decide +kernel
theorem dX2_highest_28 : decode cX2_highest 28 = .ok (.getfield 38, 3) := by decide +kernel
theorem dX2_highest_31 : decode cX2_highest 31 = .ok (.iconst 1, 1) := by decide +kernel
theorem dX2_highest_32 : decode cX2_highest 32 = .ok (.isub, 1) := by decide +kernel
theorem dX2_highest_33 : decode cX2_highest 33 = .ok (.ireturn, 1) := by decide +kernel
set_option maxRecDepth 20000 in
theorem ggX2_sumUp_X2_highest : GoodIn wsX2_sumUp wsX2_highest := goodIn_r _ [9, 1, 10, 4, 11, 12, 13, 8, 14, 15, 16, 17, 18, 19, 20, 21, 22, 23, 24, 25, 26, 27, 28, 77, 78, 79, 80, 81, 82, 83, 84, 85, 86, 87, 88, 89, 90, 91] (by decide +kernel) (by decide +kernel)
set_option maxRecDepth 20000 in
theorem gX2_sumUp_X2_highest : GoodIn wsX2_sumUp (wsV RX2 125 RX2 yX2_highest wsX2_highest) := goodIn_app (goodIn_of _ (by decide +kernel)) ggX2_sumUp_X2_highest
set_option maxRecDepth 20000 in
theorem ggX2_sumUp_X2_lowest : GoodIn wsX2_sumUp wsX2_lowest := goodIn_r _ [32, 1, 10, 11, 12, 13, 8, 14, 15, 16, 17, 18, 19, 20, 21, 22, 23, 24, 25, 26, 27, 28, 77, 78, 79, 80, 81, 82, 83, 84, 85, 86, 87, 88, 89, 90, 91] (by decide +kernel) (by decide +kernel)
set_option maxRecDepth 20000 in
theorem gX2_sumUp_X2_lowest : GoodIn wsX2_sumUp (wsV RX2 101 RX2 yX2_lowest wsX2_lowest) := goodIn_app (goodIn_of _ (by decide +kernel)) ggX2_sumUp_X2_lowest
set_option maxRecDepth 20000 in
theorem ggX2_sumUp_X0_isSample : GoodIn wsX2_sumUp wsX0_isSample := goodIn_r _ [36, 23, 85, 86, 87, 88, 89, 90, 91] (by decide +kernel) (by decide +kernel)
set_option maxRecDepth 20000 in
theorem gX2_sumUp_X0_isSample : GoodIn wsX2_sumUp (wsV RX2 128 RX0 yX0_isSample wsX0_isSample) := goodIn_app (goodIn_of _ (by decide +kernel)) ggX2_sumUp_X0_isSample
set_option maxRecDepth 20000 in
theorem ggX2_sumUp_X0_strength : GoodIn wsX2_sumUp wsX0_strength := goodIn_r _ [40, 41, 42, 43, 44, 45, 46, 47, 48, 49, 50, 51, 52, 21, 53, 23, 54, 16, 55, 15, 17, 56, 34, 35, 36, 57, 58, 59, 60, 61, 24, 25, 26, 27, 28, 85, 86, 87, 88, 89, 90, 91] (by decide +kernel) (by decide +kernel)
set_option maxRecDepth 20000 in
theorem gX2_sumUp_X0_strength : GoodIn wsX2_sumUp (wsV RX2 108 RX0 yX0_strength wsX0_strength) := goodIn_app (goodIn_of _ (by decide +kernel)) ggX2_sumUp_X0_strength
set_option maxRecDepth 20000 in
theorem ggX2_sumUp_X2_bestBefore : GoodIn wsX2_sumUp wsX2_bestBefore := goodIn_r _ [65, 66, 67, 68, 48, 69, 70, 71, 72, 29, 30, 31, 8, 32, 1, 10, 11, 12, 13, 14, 15, 16, 17, 18, 19, 20, 21, 22, 23, 24, 25, 26, 27, 28, 5, 6, 7, 9, 4, 73, 74, 75, 76, 3, 33, 34, 35, 36, 77, 78, 79, 80, 81, 82, 83, 84, 85, 86, 87, 88, 89, 90, 91] (by decide +kernel) (by decide +kernel)
set_option maxRecDepth 20000 in
theorem gX2_sumUp_X2_bestBefore : GoodIn wsX2_sumUp (wsV RX2 131 RX2 yX2_bestBefore wsX2_bestBefore) := goodIn_app (goodIn_of _ (by decide +kernel)) ggX2_sumUp_X2_bestBefore
set_option maxRecDepth 20000 in
theorem ggX2_sumUp_X2_sumAt : GoodIn wsX2_sumUp wsX2_sumAt := goodIn_r _ [76, 1, 3, 4, 15, 16, 17, 33, 34, 35, 21, 36, 23, 77, 78, 79, 80, 81, 82, 83, 84, 85, 86, 87, 88, 89, 90, 91] (by decide +kernel) (by decide +kernel)
set_option maxRecDepth 20000 in
theorem gX2_sumUp_X2_sumAt : GoodIn wsX2_sumUp (wsV RX2 135 RX2 yX2_sumAt wsX2_sumAt) := goodIn_app (goodIn_of _ (by decide +kernel)) ggX2_sumUp_X2_sumAt
theorem dX2_sumUp_0 : decode cX2_sumUp 0 = .ok (.aload_n 0, 1) := by decide +kernel
theorem dX2_sumUp_1 : decode cX2_sumUp 1 = .ok (.iload_n 1, 1) := by decide +kernel
theorem dX2_sumUp_2 : decode cX2_sumUp 2 = .ok (.invokevirtual 125, 3) := by decide +kernel
theorem dX2_sumUp_5 : decode cX2_sumUp 5 = .ok (.istore_n 3, 1) := by decide +kernel
theorem dX2_sumUp_6 : decode cX2_sumUp 6 = .ok (.aload_n 0, 1) := by decide +kernel
theorem dX2_sumUp_7 : decode cX2_sumUp 7 = .ok (.iload_n 1, 1) := by decide +kernel
theorem dX2_sumUp_8 : decode cX2_sumUp 8 = .ok (.invokevirtual 101, 3) := by decide +kernel
theorem dX2_sumUp_11 : decode cX2_sumUp 11 = .ok (.istore 4, 2) := by decide +kernel
theorem dX2_sumUp_13 : decode cX2_sumUp 13 = .ok (.iload 4, 2) := by decide +kernel
theorem dX2_sumUp_15 : decode cX2_sumUp 15 = .ok (.iload_n 3, 1) := by decide +kernel
theorem dX2_sumUp_16 : decode cX2_sumUp 16 = .ok (.if_icmp .gt 79, 3) := by decide +kernel
theorem dX2_sumUp_19 : decode cX2_sumUp 19 = .ok (.aload_n 0, 1) := by decide +kernel
theorem dX2_sumUp_20 : decode cX2_sumUp 20 = .ok (.getfield 34, 3) := by decide +kernel
theorem dX2_sumUp_23 : decode cX2_sumUp 23 = .ok (.iload 4, 2) := by decide +kernel
theorem dX2_sumUp_25 : decode cX2_sumUp 25 = .ok (.invokevirtual 128, 3) := by decide +kernel
theorem dX2_sumUp_28 : decode cX2_sumUp 28 = .ok (.ifCond .eq 67, 3) := by decide +kernel
theorem dX2_sumUp_31 : decode cX2_sumUp 31 = .ok (.aload_n 0, 1) := by decide +kernel
theorem dX2_sumUp_32 : decode cX2_sumUp 32 = .ok (.getfield 34, 3) := by decide +kernel
theorem dX2_sumUp_35 : decode cX2_sumUp 35 = .ok (.aload_n 0, 1) := by decide +kernel
theorem dX2_sumUp_36 : decode cX2_sumUp 36 = .ok (.getfield 27, 3) := by decide +kernel
theorem dX2_sumUp_39 : decode cX2_sumUp 39 = .ok (.iload_n 1, 1) := by decide +kernel
theorem dX2_sumUp_40 : decode cX2_sumUp 40 = .ok (.iload 4, 2) := by decide +kernel
theorem dX2_sumUp_42 : decode cX2_sumUp 42 = .ok (.invokevirtual 108, 3) := by decide +kernel
theorem dX2_sumUp_45 : decode cX2_sumUp 45 = .ok (.lstore 5, 2) := by decide +kernel
theorem dX2_sumUp_47 : decode cX2_sumUp 47 = .ok (.iload_n 2, 1) := by decide +kernel
theorem dX2_sumUp_48 : decode cX2_sumUp 48 = .ok (.iconst (-1), 1) := by decide +kernel
theorem dX2_sumUp_49 : decode cX2_sumUp 49 = .ok (.if_icmp .eq 21, 3) := by decide +kernel
theorem dX2_sumUp_52 : decode cX2_sumUp 52 = .ok (.lload 5, 2) := by decide +kernel
theorem dX2_sumUp_54 : decode cX2_sumUp 54 = .ok (.aload_n 0, 1) := by decide +kernel
theorem dX2_sumUp_55 : decode cX2_sumUp 55 = .ok (.iload_n 2, 1) := by decide +kernel
theorem dX2_sumUp_56 : decode cX2_sumUp 56 = .ok (.aload_n 0, 1) := by decide +kernel
theorem dX2_sumUp_57 : decode cX2_sumUp 57 = .ok (.iload_n 2, 1) := by decide +kernel
theorem dX2_sumUp_58 : decode cX2_sumUp 58 = .ok (.iload_n 1, 1) := by decide +kernel
theorem dX2_sumUp_59 : decode cX2_sumUp 59 = .ok (.iload 4, 2) := by decide +kernel
theorem dX2_sumUp_61 : decode cX2_sumUp 61 = .ok (.invokevirtual 131, 3) := by decide +kernel
theorem dX2_sumUp_64 : decode cX2_sumUp 64 = .ok (.invokevirtual 135, 3) := by decide +kernel
theorem dX2_sumUp_67 : decode cX2_sumUp 67 = .ok (.ladd, 1) := by decide +kernel
theorem dX2_sumUp_68 : decode cX2_sumUp 68 = .ok (.lstore 5, 2) := by decide +kernel
theorem dX2_sumUp_70 : decode cX2_sumUp 70 = .ok (.aload_n 0, 1) := by decide +kernel
theorem dX2_sumUp_71 : decode cX2_sumUp 71 = .ok (.getfield 43, 3) := by decide +kernel
theorem dX2_sumUp_74 : decode cX2_sumUp 74 = .ok (.iload_n 1, 1) := by decide +kernel
theorem dX2_sumUp_75 : decode cX2_sumUp 75 = .ok (.aload_n 0, 1) := by decide +kernel
theorem dX2_sumUp_76 : decode cX2_sumUp 76 = .ok (.getfield 34, 3) := by decide +kernel
theorem dX2_sumUp_79 : decode cX2_sumUp 79 = .ok (.getfield 38, 3) := by decide +kernel
theorem dX2_sumUp_82 : decode cX2_sumUp 82 = .ok (.imul, 1) := by decide +kernel
theorem dX2_sumUp_83 : decode cX2_sumUp 83 = .ok (.iload 4, 2) := by decide +kernel
theorem dX2_sumUp_85 : decode cX2_sumUp 85 = .ok (.iadd, 1) := by decide +kernel
theorem dX2_sumUp_86 : decode cX2_sumUp 86 = .ok (.lload 5, 2) := by decide +kernel
theorem dX2_sumUp_88 : decode cX2_sumUp 88 = .ok (.lastore, 1) := by decide +kernel
theorem dX2_sumUp_89 : decode cX2_sumUp 89 = .ok (.iinc 4 1, 3) := by decide +kernel
theorem dX2_sumUp_92 : decode cX2_sumUp 92 = .ok (.goto (-79), 3) := by decide +kernel
theorem dX2_sumUp_95 : decode cX2_sumUp 95 = .ok (.return_, 1) := by decide +kernel
set_option maxRecDepth 20000 in
theorem ggX2_traceBack_X2_sampleOfRow : GoodIn wsX2_traceBack wsX2_sampleOfRow := goodIn_r _ [7, 2, 8, 9, 10, 58, 59, 60, 61, 62, 63, 64, 65] (by decide +kernel) (by decide +kernel)
set_option maxRecDepth 20000 in
theorem gX2_traceBack_X2_sampleOfRow : GoodIn wsX2_traceBack (wsV RX2 105 RX2 yX2_sampleOfRow wsX2_sampleOfRow) := goodIn_app (goodIn_of _ (by decide +kernel)) ggX2_traceBack_X2_sampleOfRow
set_option maxRecDepth 20000 in
theorem ggX2_traceBack_X2_bestBefore : GoodIn wsX2_traceBack wsX2_bestBefore := goodIn_r _ [14, 15, 16, 17, 18, 19, 20, 21, 22, 23, 24, 25, 6, 26, 27, 28, 29, 30, 31, 32, 8, 9, 10, 33, 34, 35, 36, 37, 38, 39, 40, 41, 42, 43, 44, 45, 46, 47, 48, 49, 50, 51, 52, 53, 54, 55, 56, 57, 58, 59, 60, 61, 62, 63, 64, 65, 66, 67, 68, 69, 70, 71, 72] (by decide +kernel) (by decide +kernel)
set_option maxRecDepth 20000 in
theorem gX2_traceBack_X2_bestBefore : GoodIn wsX2_traceBack (wsV RX2 131 RX2 yX2_bestBefore wsX2_bestBefore) := goodIn_app (goodIn_of _ (by decide +kernel)) ggX2_traceBack_X2_bestBefore
set_option maxRecDepth 20000 in
theorem ggX2_traceBack_X2_sumAt : GoodIn wsX2_traceBack wsX2_sumAt := goodIn_r _ [52, 27, 53, 48, 8, 9, 10, 54, 55, 56, 36, 57, 38, 58, 59, 60, 61, 62, 63, 64, 65, 66, 67, 68, 69, 70, 71, 72] (by decide +kernel) (by decide +kernel)
set_option maxRecDepth 20000 in
theorem gX2_traceBack_X2_sumAt : GoodIn wsX2_traceBack (wsV RX2 135 RX2 yX2_sumAt wsX2_sumAt) := goodIn_app (goodIn_of _ (by decide +kernel)) ggX2_traceBack_X2_sumAt
theorem dX2_traceBack_0 : decode cX2_traceBack 0 = .ok (.lconst 0, 1) := by decide +kernel
theorem dX2_traceBack_1 : decode cX2_traceBack 1 = .ok (.lstore_n 1, 1) := by decide +kernel
theorem dX2_traceBack_2 : decode cX2_traceBack 2 = .ok (.iconst (-1), 1) := by decide +kernel
theorem dX2_traceBack_3 : decode cX2_traceBack 3 = .ok (.istore_n 3, 1) := by decide +kernel
theorem dX2_traceBack_4 : decode cX2_traceBack 4 = .ok (.bipush 31, 2) := by decide +kernel
theorem dX2_traceBack_6 : decode cX2_traceBack 6 = .ok (.istore 4, 2) := by decide +kernel
theorem dX2_traceBack_8 : decode cX2_traceBack 8 = .ok (.iload 4, 2) := by decide +kernel
theorem dX2_traceBack_10 : decode cX2_traceBack 10 = .ok (.ifCond .lt 64, 3) := by decide +kernel
theorem dX2_traceBack_13 : decode cX2_traceBack 13 = .ok (.aload_n 0, 1) := by decide +kernel
theorem dX2_traceBack_14 : decode cX2_traceBack 14 = .ok (.getfield 15, 3) := by decide +kernel
theorem dX2_traceBack_17 : decode cX2_traceBack 17 = .ok (.iload 4, 2) := by decide +kernel
theorem dX2_traceBack_19 : decode cX2_traceBack 19 = .ok (.baload, 1) := by decide +kernel
theorem dX2_traceBack_20 : decode cX2_traceBack 20 = .ok (.ifCond .eq 48, 3) := by decide +kernel
theorem dX2_traceBack_23 : decode cX2_traceBack 23 = .ok (.aload_n 0, 1) := by decide +kernel
theorem dX2_traceBack_24 : decode cX2_traceBack 24 = .ok (.getfield 19, 3) := by decide +kernel
theorem dX2_traceBack_27 : decode cX2_traceBack 27 = .ok (.iload 4, 2) := by decide +kernel
theorem dX2_traceBack_29 : decode cX2_traceBack 29 = .ok (.aload_n 0, 1) := by decide +kernel
theorem dX2_traceBack_30 : decode cX2_traceBack 30 = .ok (.iload 4, 2) := by decide +kernel
theorem dX2_traceBack_32 : decode cX2_traceBack 32 = .ok (.iload_n 3, 1) := by decide +kernel
theorem dX2_traceBack_33 : decode cX2_traceBack 33 = .ok (.aload_n 0, 1) := by decide +kernel
theorem dX2_traceBack_34 : decode cX2_traceBack 34 = .ok (.iload_n 3, 1) := by decide +kernel
theorem dX2_traceBack_35 : decode cX2_traceBack 35 = .ok (.invokevirtual 105, 3) := by decide +kernel
theorem dX2_traceBack_38 : decode cX2_traceBack 38 = .ok (.invokevirtual 131, 3) := by decide +kernel
theorem dX2_traceBack_41 : decode cX2_traceBack 41 = .ok (.iastore, 1) := by decide +kernel
theorem dX2_traceBack_42 : decode cX2_traceBack 42 = .ok (.iload_n 3, 1) := by decide +kernel
theorem dX2_traceBack_43 : decode cX2_traceBack 43 = .ok (.iconst (-1), 1) := by decide +kernel
theorem dX2_traceBack_44 : decode cX2_traceBack 44 = .ok (.if_icmp .ne 19, 3) := by decide +kernel
theorem dX2_traceBack_47 : decode cX2_traceBack 47 = .ok (.aload_n 0, 1) := by decide +kernel
theorem dX2_traceBack_48 : decode cX2_traceBack 48 = .ok (.iload 4, 2) := by decide +kernel
theorem dX2_traceBack_50 : decode cX2_traceBack 50 = .ok (.aload_n 0, 1) := by decide +kernel
theorem dX2_traceBack_51 : decode cX2_traceBack 51 = .ok (.getfield 19, 3) := by decide +kernel
theorem dX2_traceBack_54 : decode cX2_traceBack 54 = .ok (.iload 4, 2) := by decide +kernel
theorem dX2_traceBack_56 : decode cX2_traceBack 56 = .ok (.iaload, 1) := by decide +kernel
theorem dX2_traceBack_57 : decode cX2_traceBack 57 = .ok (.invokevirtual 135, 3) := by decide +kernel
theorem dX2_traceBack_60 : decode cX2_traceBack 60 = .ok (.goto 4, 3) := by decide +kernel
theorem dX2_traceBack_63 : decode cX2_traceBack 63 = .ok (.lload_n 1, 1) := by decide +kernel
theorem dX2_traceBack_64 : decode cX2_traceBack 64 = .ok (.lstore_n 1, 1) := by decide +kernel
theorem dX2_traceBack_65 : decode cX2_traceBack 65 = .ok (.iload 4, 2) := by decide +kernel
theorem dX2_traceBack_67 : decode cX2_traceBack 67 = .ok (.istore_n 3, 1) := by decide +kernel
theorem dX2_traceBack_68 : decode cX2_traceBack 68 = .ok (.iinc 4 (-1), 3) := by decide +kernel
theorem dX2_traceBack_71 : decode cX2_traceBack 71 = .ok (.goto (-63), 3) := by decide +kernel
theorem dX2_traceBack_74 : decode cX2_traceBack 74 = .ok (.lload_n 1, 1) := by decide +kernel
theorem dX2_traceBack_75 : decode cX2_traceBack 75 = .ok (.lreturn, 1) := by decide +kernel
set_option maxRecDepth 20000 in
theorem ggX2_bestBefore_X2_lowest : GoodIn wsX2_bestBefore wsX2_lowest := goodIn_r _ [13, 14, 15, 16, 17, 18, 12, 19, 20, 21, 22, 23, 24, 25, 26, 27, 28, 29, 30, 31, 32, 33, 48, 49, 50, 51, 52, 53, 54, 55, 56, 57, 58, 59, 60, 61, 62] (by decide +kernel) (by decide +kernel)
set_option maxRecDepth 20000 in
theorem gX2_bestBefore_X2_lowest : GoodIn wsX2_bestBefore (wsV RX2 101 RX2 yX2_lowest wsX2_lowest) := goodIn_app (goodIn_of _ (by decide +kernel)) ggX2_bestBefore_X2_lowest
set_option maxRecDepth 20000 in
theorem ggX2_bestBefore_X2_highest : GoodIn wsX2_bestBefore wsX2_highest := goodIn_r _ [37, 14, 15, 38, 16, 17, 18, 12, 19, 20, 21, 22, 23, 24, 25, 26, 27, 28, 29, 30, 31, 32, 33, 48, 49, 50, 51, 52, 53, 54, 55, 56, 57, 58, 59, 60, 61, 62] (by decide +kernel) (by decide +kernel)
set_option maxRecDepth 20000 in
theorem gX2_bestBefore_X2_highest : GoodIn wsX2_bestBefore (wsV RX2 125 RX2 yX2_highest wsX2_highest) := goodIn_app (goodIn_of _ (by decide +kernel)) ggX2_bestBefore_X2_highest
set_option maxRecDepth 20000 in
theorem ggX2_bestBefore_X2_isEdited : GoodIn wsX2_bestBefore wsX2_isEdited := goodIn_r _ [19, 15, 20, 21, 22, 48, 49, 50, 51, 52, 53, 54, 55] (by decide +kernel) (by decide +kernel)
set_option maxRecDepth 20000 in
theorem gX2_bestBefore_X2_isEdited : GoodIn wsX2_bestBefore (wsV RX2 98 RX2 yX2_isEdited wsX2_isEdited) := goodIn_app (goodIn_of _ (by decide +kernel)) ggX2_bestBefore_X2_isEdited
set_option maxRecDepth 20000 in
theorem ggX2_bestBefore_X2_sumAt : GoodIn wsX2_bestBefore wsX2_sumAt := goodIn_r _ [42, 14, 43, 38, 20, 21, 22, 44, 45, 46, 26, 47, 28, 48, 49, 50, 51, 52, 53, 54, 55, 56, 57, 58, 59, 60, 61, 62] (by decide +kernel) (by decide +kernel)
set_option maxRecDepth 20000 in
theorem gX2_bestBefore_X2_sumAt : GoodIn wsX2_bestBefore (wsV RX2 135 RX2 yX2_sumAt wsX2_sumAt) := goodIn_app (goodIn_of _ (by decide +kernel)) ggX2_bestBefore_X2_sumAt
theorem dX2_bestBefore_0 : decode cX2_bestBefore 0 = .ok (.aload_n 0, 1) := by decide +kernel
theorem dX2_bestBefore_1 : decode cX2_bestBefore 1 = .ok (.iload_n 1, 1) := by decide +kernel
theorem dX2_bestBefore_2 : decode cX2_bestBefore 2 = .ok (.invokevirtual 101, 3) := by decide +kernel
theorem dX2_bestBefore_5 : decode cX2_bestBefore 5 = .ok (.istore 4, 2) := by decide +kernel
theorem dX2_bestBefore_7 : decode cX2_bestBefore 7 = .ok (.aload_n 0, 1) := by decide +kernel
theorem dX2_bestBefore_8 : decode cX2_bestBefore 8 = .ok (.iload_n 1, 1) := by decide +kernel
theorem dX2_bestBefore_9 : decode cX2_bestBefore 9 = .ok (.invokevirtual 125, 3) := by decide +kernel
theorem dX2_bestBefore_12 : decode cX2_bestBefore 12 = .ok (.istore 5, 2) := by decide +kernel
theorem dX2_bestBefore_14 : decode cX2_bestBefore 14 = .ok (.iload_n 2, 1) := by decide +kernel
theorem dX2_bestBefore_15 : decode cX2_bestBefore 15 = .ok (.iconst (-1), 1) := by decide +kernel
theorem dX2_bestBefore_16 : decode cX2_bestBefore 16 = .ok (.if_icmp .eq 45, 3) := by decide +kernel
theorem dX2_bestBefore_19 : decode cX2_bestBefore 19 = .ok (.aload_n 0, 1) := by decide +kernel
theorem dX2_bestBefore_20 : decode cX2_bestBefore 20 = .ok (.iload_n 1, 1) := by decide +kernel
theorem dX2_bestBefore_21 : decode cX2_bestBefore 21 = .ok (.invokevirtual 98, 3) := by decide +kernel
theorem dX2_bestBefore_24 : decode cX2_bestBefore 24 = .ok (.ifCond .ne 37, 3) := by decide +kernel
theorem dX2_bestBefore_27 : decode cX2_bestBefore 27 = .ok (.aload_n 0, 1) := by decide +kernel
theorem dX2_bestBefore_28 : decode cX2_bestBefore 28 = .ok (.iload_n 2, 1) := by decide +kernel
theorem dX2_bestBefore_29 : decode cX2_bestBefore 29 = .ok (.invokevirtual 98, 3) := by decide +kernel
theorem dX2_bestBefore_32 : decode cX2_bestBefore 32 = .ok (.ifCond .ne 29, 3) := by decide +kernel
theorem dX2_bestBefore_35 : decode cX2_bestBefore 35 = .ok (.iload 4, 2) := by decide +kernel
theorem dX2_bestBefore_37 : decode cX2_bestBefore 37 = .ok (.iload_n 3, 1) := by decide +kernel
theorem dX2_bestBefore_38 : decode cX2_bestBefore 38 = .ok (.aload_n 0, 1) := by decide +kernel
theorem dX2_bestBefore_39 : decode cX2_bestBefore 39 = .ok (.getfield 23, 3) := by decide +kernel
theorem dX2_bestBefore_42 : decode cX2_bestBefore 42 = .ok (.isub, 1) := by decide +kernel
theorem dX2_bestBefore_43 : decode cX2_bestBefore 43 = .ok (.invokestatic 139, 3) := by decide +kernel
theorem dX2_bestBefore_46 : decode cX2_bestBefore 46 = .ok (.istore 4, 2) := by decide +kernel
theorem dX2_bestBefore_48 : decode cX2_bestBefore 48 = .ok (.iload 5, 2) := by decide +kernel
theorem dX2_bestBefore_50 : decode cX2_bestBefore 50 = .ok (.iload_n 3, 1) := by decide +kernel
theorem dX2_bestBefore_51 : decode cX2_bestBefore 51 = .ok (.aload_n 0, 1) := by decide +kernel
theorem dX2_bestBefore_52 : decode cX2_bestBefore 52 = .ok (.getfield 23, 3) := by decide +kernel
theorem dX2_bestBefore_55 : decode cX2_bestBefore 55 = .ok (.iadd, 1) := by decide +kernel
theorem dX2_bestBefore_56 : decode cX2_bestBefore 56 = .ok (.invokestatic 144, 3) := by decide +kernel
theorem dX2_bestBefore_59 : decode cX2_bestBefore 59 = .ok (.istore 5, 2) := by decide +kernel
theorem dX2_bestBefore_61 : decode cX2_bestBefore 61 = .ok (.iload 4, 2) := by decide +kernel
theorem dX2_bestBefore_63 : decode cX2_bestBefore 63 = .ok (.istore 6, 2) := by decide +kernel
theorem dX2_bestBefore_65 : decode cX2_bestBefore 65 = .ok (.aload_n 0, 1) := by decide +kernel
theorem dX2_bestBefore_66 : decode cX2_bestBefore 66 = .ok (.iload_n 1, 1) := by decide +kernel
theorem dX2_bestBefore_67 : decode cX2_bestBefore 67 = .ok (.iload 4, 2) := by decide +kernel
theorem dX2_bestBefore_69 : decode cX2_bestBefore 69 = .ok (.invokevirtual 135, 3) := by decide +kernel
theorem dX2_bestBefore_72 : decode cX2_bestBefore 72 = .ok (.lstore 7, 2) := by decide +kernel
theorem dX2_bestBefore_74 : decode cX2_bestBefore 74 = .ok (.iload 4, 2) := by decide +kernel
theorem dX2_bestBefore_76 : decode cX2_bestBefore 76 = .ok (.iconst 1, 1) := by decide +kernel
theorem dX2_bestBefore_77 : decode cX2_bestBefore 77 = .ok (.iadd, 1) := by decide +kernel
theorem dX2_bestBefore_78 : decode cX2_bestBefore 78 = .ok (.istore 9, 2) := by decide +kernel
theorem dX2_bestBefore_80 : decode cX2_bestBefore 80 = .ok (.iload 9, 2) := by decide +kernel
theorem dX2_bestBefore_82 : decode cX2_bestBefore 82 = .ok (.iload 5, 2) := by decide +kernel
theorem dX2_bestBefore_84 : decode cX2_bestBefore 84 = .ok (.if_icmp .gt 34, 3) := by decide +kernel
theorem dX2_bestBefore_87 : decode cX2_bestBefore 87 = .ok (.aload_n 0, 1) := by decide +kernel
theorem dX2_bestBefore_88 : decode cX2_bestBefore 88 = .ok (.iload_n 1, 1) := by decide +kernel
theorem dX2_bestBefore_89 : decode cX2_bestBefore 89 = .ok (.iload 9, 2) := by decide +kernel
theorem dX2_bestBefore_91 : decode cX2_bestBefore 91 = .ok (.invokevirtual 135, 3) := by decide +kernel
theorem dX2_bestBefore_94 : decode cX2_bestBefore 94 = .ok (.lstore 10, 2) := by decide +kernel
theorem dX2_bestBefore_96 : decode cX2_bestBefore 96 = .ok (.lload 10, 2) := by decide +kernel
theorem dX2_bestBefore_98 : decode cX2_bestBefore 98 = .ok (.lload 7, 2) := by decide +kernel
theorem dX2_bestBefore_100 : decode cX2_bestBefore 100 = .ok (.lcmp, 1) := by decide +kernel
theorem dX2_bestBefore_101 : decode cX2_bestBefore 101 = .ok (.ifCond .le 11, 3) := by decide +kernel
theorem dX2_bestBefore_104 : decode cX2_bestBefore 104 = .ok (.iload 9, 2) := by decide +kernel
theorem dX2_bestBefore_106 : decode cX2_bestBefore 106 = .ok (.istore 6, 2) := by decide +kernel
theorem dX2_bestBefore_108 : decode cX2_bestBefore 108 = .ok (.lload 10, 2) := by decide +kernel
theorem dX2_bestBefore_110 : decode cX2_bestBefore 110 = .ok (.lstore 7, 2) := by decide +kernel
theorem dX2_bestBefore_112 : decode cX2_bestBefore 112 = .ok (.iinc 9 1, 3) := by decide +kernel
theorem dX2_bestBefore_115 : decode cX2_bestBefore 115 = .ok (.goto (-35), 3) := by decide +kernel
theorem dX2_bestBefore_118 : decode cX2_bestBefore 118 = .ok (.iload 6, 2) := by decide +kernel
theorem dX2_bestBefore_120 : decode cX2_bestBefore 120 = .ok (.ireturn, 1) := by decide +kernel
set_option maxRecDepth 20000 in
theorem ggX2_sumAt_X3_isPing : GoodIn wsX2_sumAt wsX3_isPing := goodIn_r _ [6] (by decide +kernel) (by decide +kernel)
set_option maxRecDepth 20000 in
theorem gX2_sumAt_X3_isPing_n55 : GoodIn wsX2_sumAt (wsX3_isPing) := ggX2_sumAt_X3_isPing
set_option maxRecDepth 20000 in
theorem ggX2_sumAt_X0_isSample : GoodIn wsX2_sumAt wsX0_isSample := goodIn_r _ [11, 12, 21, 22, 23, 24, 25, 26, 27] (by decide +kernel) (by decide +kernel)
set_option maxRecDepth 20000 in
theorem gX2_sumAt_X0_isSample : GoodIn wsX2_sumAt (wsV RX2 128 RX0 yX0_isSample wsX0_isSample) := goodIn_app (goodIn_of _ (by decide +kernel)) ggX2_sumAt_X0_isSample
theorem dX2_sumAt_0 : decode cX2_sumAt 0 = .ok (.iload_n 1, 1) := by decide +kernel
theorem dX2_sumAt_1 : decode cX2_sumAt 1 = .ok (.invokestatic 55, 3) := by decide +kernel
theorem dX2_sumAt_4 : decode cX2_sumAt 4 = .ok (.ifCond .eq 33, 3) := by decide +kernel
theorem dX2_sumAt_7 : decode cX2_sumAt 7 = .ok (.aload_n 0, 1) := by decide +kernel
theorem dX2_sumAt_8 : decode cX2_sumAt 8 = .ok (.getfield 34, 3) := by decide +kernel
theorem dX2_sumAt_11 : decode cX2_sumAt 11 = .ok (.iload_n 2, 1) := by decide +kernel
theorem dX2_sumAt_12 : decode cX2_sumAt 12 = .ok (.invokevirtual 128, 3) := by decide +kernel
theorem dX2_sumAt_15 : decode cX2_sumAt 15 = .ok (.ifCond .eq 22, 3) := by decide +kernel
theorem dX2_sumAt_18 : decode cX2_sumAt 18 = .ok (.aload_n 0, 1) := by decide +kernel
theorem dX2_sumAt_19 : decode cX2_sumAt 19 = .ok (.getfield 43, 3) := by decide +kernel
theorem dX2_sumAt_22 : decode cX2_sumAt 22 = .ok (.iload_n 1, 1) := by decide +kernel
theorem dX2_sumAt_23 : decode cX2_sumAt 23 = .ok (.aload_n 0, 1) := by decide +kernel
theorem dX2_sumAt_24 : decode cX2_sumAt 24 = .ok (.getfield 34, 3) := by decide +kernel
theorem dX2_sumAt_27 : decode cX2_sumAt 27 = .ok (.getfield 38, 3) := by decide +kernel
theorem dX2_sumAt_30 : decode cX2_sumAt 30 = .ok (.imul, 1) := by decide +kernel
theorem dX2_sumAt_31 : decode cX2_sumAt 31 = .ok (.iload_n 2, 1) := by decide +kernel
theorem dX2_sumAt_32 : decode cX2_sumAt 32 = .ok (.iadd, 1) := by decide +kernel
theorem dX2_sumAt_33 : decode cX2_sumAt 33 = .ok (.laload, 1) := by decide +kernel
theorem dX2_sumAt_34 : decode cX2_sumAt 34 = .ok (.goto 4, 3) := by decide +kernel
theorem dX2_sumAt_37 : decode cX2_sumAt 37 = .ok (.lconst 0, 1) := by decide +kernel
theorem dX2_sumAt_38 : decode cX2_sumAt 38 = .ok (.lreturn, 1) := by decide +kernel
theorem dJ9_max_7cf53_0 : decode cJ9_max_7cf53 0 = .ok (.iload_n 0, 1) := by decide +kernel
theorem dJ9_max_7cf53_1 : decode cJ9_max_7cf53 1 = .ok (.iload_n 1, 1) := by decide +kernel
theorem dJ9_max_7cf53_2 : decode cJ9_max_7cf53 2 = .ok (.if_icmp .lt 7, 3) := by decide +kernel
theorem dJ9_max_7cf53_5 : decode cJ9_max_7cf53 5 = .ok (.iload_n 0, 1) := by decide +kernel
theorem dJ9_max_7cf53_6 : decode cJ9_max_7cf53 6 = .ok (.goto 4, 3) := by decide +kernel
theorem dJ9_max_7cf53_9 : decode cJ9_max_7cf53 9 = .ok (.iload_n 1, 1) := by decide +kernel
theorem dJ9_max_7cf53_10 : decode cJ9_max_7cf53 10 = .ok (.ireturn, 1) := by decide +kernel
theorem dJ9_max_f86c9_0 : decode cJ9_max_f86c9 0 = .ok (.lload_n 0, 1) := by decide +kernel
theorem dJ9_max_f86c9_1 : decode cJ9_max_f86c9 1 = .ok (.lload_n 2, 1) := by decide +kernel
theorem dJ9_max_f86c9_2 : decode cJ9_max_f86c9 2 = .ok (.lcmp, 1) := by decide +kernel
theorem dJ9_max_f86c9_3 : decode cJ9_max_f86c9 3 = .ok (.ifCond .lt 7, 3) := by decide +kernel
theorem dJ9_max_f86c9_6 : decode cJ9_max_f86c9 6 = .ok (.lload_n 0, 1) := by decide +kernel
theorem dJ9_max_f86c9_7 : decode cJ9_max_f86c9 7 = .ok (.goto 4, 3) := by decide +kernel
theorem dJ9_max_f86c9_10 : decode cJ9_max_f86c9 10 = .ok (.lload_n 2, 1) := by decide +kernel
theorem dJ9_max_f86c9_11 : decode cJ9_max_f86c9 11 = .ok (.lreturn, 1) := by decide +kernel
theorem dJ9_min_7cf53_0 : decode cJ9_min_7cf53 0 = .ok (.iload_n 0, 1) := by decide +kernel
theorem dJ9_min_7cf53_1 : decode cJ9_min_7cf53 1 = .ok (.iload_n 1, 1) := by decide +kernel
theorem dJ9_min_7cf53_2 : decode cJ9_min_7cf53 2 = .ok (.if_icmp .gt 7, 3) := by decide +kernel
theorem dJ9_min_7cf53_5 : decode cJ9_min_7cf53 5 = .ok (.iload_n 0, 1) := by decide +kernel
theorem dJ9_min_7cf53_6 : decode cJ9_min_7cf53 6 = .ok (.goto 4, 3) := by decide +kernel
theorem dJ9_min_7cf53_9 : decode cJ9_min_7cf53 9 = .ok (.iload_n 1, 1) := by decide +kernel
theorem dJ9_min_7cf53_10 : decode cJ9_min_7cf53 10 = .ok (.ireturn, 1) := by decide +kernel
theorem dJ7_fill_7f8df_0 : decode cJ7_fill_7f8df 0 = .ok (.iconst 0, 1) := by decide +kernel
theorem dJ7_fill_7f8df_1 : decode cJ7_fill_7f8df 1 = .ok (.istore_n 3, 1) := by decide +kernel
theorem dJ7_fill_7f8df_2 : decode cJ7_fill_7f8df 2 = .ok (.aload_n 0, 1) := by decide +kernel
theorem dJ7_fill_7f8df_3 : decode cJ7_fill_7f8df 3 = .ok (.arraylength, 1) := by decide +kernel
theorem dJ7_fill_7f8df_4 : decode cJ7_fill_7f8df 4 = .ok (.istore 4, 2) := by decide +kernel
theorem dJ7_fill_7f8df_6 : decode cJ7_fill_7f8df 6 = .ok (.iload_n 3, 1) := by decide +kernel
theorem dJ7_fill_7f8df_7 : decode cJ7_fill_7f8df 7 = .ok (.iload 4, 2) := by decide +kernel
theorem dJ7_fill_7f8df_9 : decode cJ7_fill_7f8df 9 = .ok (.if_icmp .ge 13, 3) := by decide +kernel
theorem dJ7_fill_7f8df_12 : decode cJ7_fill_7f8df 12 = .ok (.aload_n 0, 1) := by decide +kernel
theorem dJ7_fill_7f8df_13 : decode cJ7_fill_7f8df 13 = .ok (.iload_n 3, 1) := by decide +kernel
theorem dJ7_fill_7f8df_14 : decode cJ7_fill_7f8df 14 = .ok (.dload_n 1, 1) := by decide +kernel
theorem dJ7_fill_7f8df_15 : decode cJ7_fill_7f8df 15 = .ok (.dastore, 1) := by decide +kernel
theorem dJ7_fill_7f8df_16 : decode cJ7_fill_7f8df 16 = .ok (.iinc 3 1, 3) := by decide +kernel
theorem dJ7_fill_7f8df_19 : decode cJ7_fill_7f8df 19 = .ok (.goto (-13), 3) := by decide +kernel
theorem dJ7_fill_7f8df_22 : decode cJ7_fill_7f8df 22 = .ok (.return_, 1) := by decide +kernel

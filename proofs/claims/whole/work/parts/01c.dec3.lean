set_option maxRecDepth 20000 in
theorem ggX3_init_X1_init : GoodIn wsX3_init wsX1_init := goodIn_r _ [22, 23, 2, 3, 9, 24, 25, 26, 69, 70, 71] (by decide +kernel) (by decide +kernel)
set_option maxRecDepth 20000 in
theorem gX3_init_X1_init_n9 : GoodIn wsX3_init (wsX1_init) := ggX3_init_X1_init
set_option maxRecDepth 20000 in
theorem ggX3_init_X0_init : GoodIn wsX3_init wsX0_init := goodIn_r _ [29, 30, 2, 3, 31, 32, 33, 34, 35, 36, 37, 38, 39, 40, 41, 42, 43, 44, 45, 9, 46, 47, 48, 49, 50, 51, 79, 80, 81, 82, 83, 84, 85] (by decide +kernel) (by decide +kernel)
set_option maxRecDepth 20000 in
theorem gX3_init_X0_init : GoodIn wsX3_init (wsX0_init) := ggX3_init_X0_init
set_option maxRecDepth 20000 in
theorem ggX3_init_X2_init : GoodIn wsX3_init wsX2_init := goodIn_r _ [54, 55, 2, 3, 9, 56, 31, 57, 58, 59, 60, 61, 62, 63, 64, 65, 66, 67, 68, 49, 50, 51, 86, 87, 88, 89, 90, 91, 92, 93, 79, 80, 81, 82, 83, 84, 85] (by decide +kernel) (by decide +kernel)
set_option maxRecDepth 20000 in
theorem gX3_init_X2_init : GoodIn wsX3_init (wsX2_init) := ggX3_init_X2_init
theorem dX3_init_0 : decode cX3_init 0 = .ok (.aload_n 0, 1) := by decide +kernel
theorem dX3_init_1 : decode cX3_init 1 = .ok (.invokespecial 1, 3) := by decide +kernel
theorem dX3_init_4 : decode cX3_init 4 = .ok (.aload_n 0, 1) := by decide +kernel
theorem dX3_init_5 : decode cX3_init 5 = .ok (.new 7, 3) := by decide +kernel
theorem dX3_init_8 : decode cX3_init 8 = .ok (.dup, 1) := by decide +kernel
theorem dX3_init_9 : decode cX3_init 9 = .ok (.invokespecial 9, 3) := by decide +kernel
theorem dX3_init_12 : decode cX3_init 12 = .ok (.putfield 10, 3) := by decide +kernel
theorem dX3_init_15 : decode cX3_init 15 = .ok (.aload_n 0, 1) := by decide +kernel
theorem dX3_init_16 : decode cX3_init 16 = .ok (.new 7, 3) := by decide +kernel
theorem dX3_init_19 : decode cX3_init 19 = .ok (.dup, 1) := by decide +kernel
theorem dX3_init_20 : decode cX3_init 20 = .ok (.invokespecial 9, 3) := by decide +kernel
theorem dX3_init_23 : decode cX3_init 23 = .ok (.putfield 16, 3) := by decide +kernel
theorem dX3_init_26 : decode cX3_init 26 = .ok (.aload_n 0, 1) := by decide +kernel
theorem dX3_init_27 : decode cX3_init 27 = .ok (.bipush 32, 2) := by decide +kernel
theorem dX3_init_29 : decode cX3_init 29 = .ok (.newarray .double, 2) := by decide +kernel
theorem dX3_init_31 : decode cX3_init 31 = .ok (.putfield 19, 3) := by decide +kernel
theorem dX3_init_34 : decode cX3_init 34 = .ok (.aload_n 0, 1) := by decide +kernel
theorem dX3_init_35 : decode cX3_init 35 = .ok (.bipush 32, 2) := by decide +kernel
theorem dX3_init_37 : decode cX3_init 37 = .ok (.newarray .double, 2) := by decide +kernel
theorem dX3_init_39 : decode cX3_init 39 = .ok (.putfield 23, 3) := by decide +kernel
theorem dX3_init_42 : decode cX3_init 42 = .ok (.aload_n 0, 1) := by decide +kernel
theorem dX3_init_43 : decode cX3_init 43 = .ok (.iconst 0, 1) := by decide +kernel
theorem dX3_init_44 : decode cX3_init 44 = .ok (.putfield 26, 3) := by decide +kernel
theorem dX3_init_47 : decode cX3_init 47 = .ok (.aload_n 0, 1) := by decide +kernel
theorem dX3_init_48 : decode cX3_init 48 = .ok (.new 30, 3) := by decide +kernel
theorem dX3_init_51 : decode cX3_init 51 = .ok (.dup, 1) := by decide +kernel
theorem dX3_init_52 : decode cX3_init 52 = .ok (.iload_n 1, 1) := by decide +kernel
theorem dX3_init_53 : decode cX3_init 53 = .ok (.iload_n 2, 1) := by decide +kernel
theorem dX3_init_54 : decode cX3_init 54 = .ok (.invokespecial 32, 3) := by decide +kernel
theorem dX3_init_57 : decode cX3_init 57 = .ok (.putfield 35, 3) := by decide +kernel
theorem dX3_init_60 : decode cX3_init 60 = .ok (.aload_n 0, 1) := by decide +kernel
theorem dX3_init_61 : decode cX3_init 61 = .ok (.new 39, 3) := by decide +kernel
theorem dX3_init_64 : decode cX3_init 64 = .ok (.dup, 1) := by decide +kernel
theorem dX3_init_65 : decode cX3_init 65 = .ok (.aload_n 0, 1) := by decide +kernel
theorem dX3_init_66 : decode cX3_init 66 = .ok (.getfield 35, 3) := by decide +kernel
theorem dX3_init_69 : decode cX3_init 69 = .ok (.invokespecial 41, 3) := by decide +kernel
theorem dX3_init_72 : decode cX3_init 72 = .ok (.putfield 44, 3) := by decide +kernel
theorem dX3_init_75 : decode cX3_init 75 = .ok (.return_, 1) := by decide +kernel
set_option maxRecDepth 20000 in
theorem ggX3_value_X0_tell : GoodIn wsX3_value wsX0_tell := goodIn_r _ [7, 8, 9, 10, 11, 12, 6, 13, 14, 15, 16, 17, 18, 19, 20, 21, 22, 23, 24, 25, 33, 34, 35, 36, 37, 38, 39] (by decide +kernel) (by decide +kernel)
set_option maxRecDepth 20000 in
theorem gX3_value_X0_tell : GoodIn wsX3_value (wsV RX3 48 RX0 yX0_tell wsX0_tell) := goodIn_app (goodIn_of _ (by decide +kernel)) ggX3_value_X0_tell
theorem dX3_value_0 : decode cX3_value 0 = .ok (.aload_n 0, 1) := by decide +kernel
theorem dX3_value_1 : decode cX3_value 1 = .ok (.getfield 35, 3) := by decide +kernel
theorem dX3_value_4 : decode cX3_value 4 = .ok (.aload_n 0, 1) := by decide +kernel
theorem dX3_value_5 : decode cX3_value 5 = .ok (.getfield 26, 3) := by decide +kernel
theorem dX3_value_8 : decode cX3_value 8 = .ok (.iload_n 1, 1) := by decide +kernel
theorem dX3_value_9 : decode cX3_value 9 = .ok (.iload_n 2, 1) := by decide +kernel
theorem dX3_value_10 : decode cX3_value 10 = .ok (.dload_n 3, 1) := by decide +kernel
theorem dX3_value_11 : decode cX3_value 11 = .ok (.invokevirtual 48, 3) := by decide +kernel
theorem dX3_value_14 : decode cX3_value 14 = .ok (.ireturn, 1) := by decide +kernel
set_option maxRecDepth 20000 in
theorem ggX3_loss_X3_within : GoodIn wsX3_loss wsX3_within := goodIn_r _ [6] (by decide +kernel) (by decide +kernel)
set_option maxRecDepth 20000 in
theorem gX3_loss_X3_within : GoodIn wsX3_loss (va_wsS RX3 54 yX3_within wsX3_within) := goodIn_app (goodIn_of _ (by decide +kernel)) ggX3_loss_X3_within
set_option maxRecDepth 20000 in
theorem ggX3_loss_X0_setLosses : GoodIn wsX3_loss wsX0_setLosses := goodIn_r _ [11, 12, 13, 21, 22, 23, 24, 25, 26, 27] (by decide +kernel) (by decide +kernel)
set_option maxRecDepth 20000 in
theorem gX3_loss_X0_setLosses : GoodIn wsX3_loss (wsV RX3 58 RX0 yX0_setLosses wsX0_setLosses) := goodIn_app (goodIn_of _ (by decide +kernel)) ggX3_loss_X0_setLosses
theorem dX3_loss_0 : decode cX3_loss 0 = .ok (.dload_n 1, 1) := by decide +kernel
theorem dX3_loss_1 : decode cX3_loss 1 = .ok (.dconst 0, 1) := by decide +kernel
theorem dX3_loss_2 : decode cX3_loss 2 = .ok (.ldc2_w 52, 3) := by decide +kernel
theorem dX3_loss_5 : decode cX3_loss 5 = .ok (.invokestatic 54, 3) := by decide +kernel
theorem dX3_loss_8 : decode cX3_loss 8 = .ok (.ifCond .eq 14, 3) := by decide +kernel
theorem dX3_loss_11 : decode cX3_loss 11 = .ok (.dload_n 3, 1) := by decide +kernel
theorem dX3_loss_12 : decode cX3_loss 12 = .ok (.dconst 0, 1) := by decide +kernel
theorem dX3_loss_13 : decode cX3_loss 13 = .ok (.ldc2_w 52, 3) := by decide +kernel
theorem dX3_loss_16 : decode cX3_loss 16 = .ok (.invokestatic 54, 3) := by decide +kernel
theorem dX3_loss_19 : decode cX3_loss 19 = .ok (.ifCond .ne 5, 3) := by decide +kernel
theorem dX3_loss_22 : decode cX3_loss 22 = .ok (.iconst 0, 1) := by decide +kernel
theorem dX3_loss_23 : decode cX3_loss 23 = .ok (.ireturn, 1) := by decide +kernel
theorem dX3_loss_24 : decode cX3_loss 24 = .ok (.aload_n 0, 1) := by decide +kernel
theorem dX3_loss_25 : decode cX3_loss 25 = .ok (.getfield 35, 3) := by decide +kernel
theorem dX3_loss_28 : decode cX3_loss 28 = .ok (.dload_n 1, 1) := by decide +kernel
theorem dX3_loss_29 : decode cX3_loss 29 = .ok (.dload_n 3, 1) := by decide +kernel
theorem dX3_loss_30 : decode cX3_loss 30 = .ok (.invokevirtual 58, 3) := by decide +kernel
theorem dX3_loss_33 : decode cX3_loss 33 = .ok (.iconst 1, 1) := by decide +kernel
theorem dX3_loss_34 : decode cX3_loss 34 = .ok (.ireturn, 1) := by decide +kernel
set_option maxRecDepth 20000 in
theorem ggX3_noise_X3_within : GoodIn wsX3_noise wsX3_within := goodIn_r _ [6] (by decide +kernel) (by decide +kernel)
set_option maxRecDepth 20000 in
theorem gX3_noise_X3_within : GoodIn wsX3_noise (va_wsS RX3 54 yX3_within wsX3_within) := goodIn_app (goodIn_of _ (by decide +kernel)) ggX3_noise_X3_within
set_option maxRecDepth 20000 in
theorem ggX3_noise_X0_setNoiseLevel : GoodIn wsX3_noise wsX0_setNoiseLevel := goodIn_r _ [11, 12, 20, 21, 22, 23, 24, 25, 26] (by decide +kernel) (by decide +kernel)
set_option maxRecDepth 20000 in
theorem gX3_noise_X0_setNoiseLevel : GoodIn wsX3_noise (wsV RX3 64 RX0 yX0_setNoiseLevel wsX0_setNoiseLevel) := goodIn_app (goodIn_of _ (by decide +kernel)) ggX3_noise_X0_setNoiseLevel
theorem dX3_noise_0 : decode cX3_noise 0 = .ok (.dload_n 1, 1) := by decide +kernel
theorem dX3_noise_1 : decode cX3_noise 1 = .ok (.dconst 0, 1) := by decide +kernel
theorem dX3_noise_2 : decode cX3_noise 2 = .ok (.ldc2_w 62, 3) := by decide +kernel
theorem dX3_noise_5 : decode cX3_noise 5 = .ok (.invokestatic 54, 3) := by decide +kernel
theorem dX3_noise_8 : decode cX3_noise 8 = .ok (.ifCond .ne 5, 3) := by decide +kernel
theorem dX3_noise_11 : decode cX3_noise 11 = .ok (.iconst 0, 1) := by decide +kernel
theorem dX3_noise_12 : decode cX3_noise 12 = .ok (.ireturn, 1) := by decide +kernel
theorem dX3_noise_13 : decode cX3_noise 13 = .ok (.aload_n 0, 1) := by decide +kernel
theorem dX3_noise_14 : decode cX3_noise 14 = .ok (.getfield 35, 3) := by decide +kernel
theorem dX3_noise_17 : decode cX3_noise 17 = .ok (.dload_n 1, 1) := by decide +kernel
theorem dX3_noise_18 : decode cX3_noise 18 = .ok (.invokevirtual 64, 3) := by decide +kernel
theorem dX3_noise_21 : decode cX3_noise 21 = .ok (.iconst 1, 1) := by decide +kernel
theorem dX3_noise_22 : decode cX3_noise 22 = .ok (.ireturn, 1) := by decide +kernel
set_option maxRecDepth 20000 in
theorem ggX3_run_X2_go : GoodIn wsX3_run wsX2_go := goodIn_r _ [7, 8, 9, 10, 11, 12, 13, 14, 6, 15, 16, 17, 18, 19, 20, 21, 22, 23, 24, 25, 26, 27, 28, 29, 30, 31, 32, 33, 34, 35, 36, 37, 38, 39, 40, 41, 42, 43, 44, 45, 46, 47, 48, 49, 50, 51, 52, 53, 54, 55, 56, 57, 58, 59, 60, 61, 62, 63, 64, 65, 66, 67, 68, 69, 70, 71, 72, 73, 74, 75, 76, 77, 78, 79, 80, 81, 82, 83, 84, 85, 86, 87, 88, 89, 90, 91, 92, 93, 94, 95, 96, 97, 98, 99, 100, 101, 102, 103, 104, 105, 106, 107, 108, 109, 110, 111, 112, 113, 114, 115, 116, 117, 118, 126, 127, 128, 129, 130, 131, 132, 133, 134, 135, 136, 137, 138, 139, 140] (by decide +kernel) (by decide +kernel)
set_option maxRecDepth 20000 in
theorem gX3_run_X2_go : GoodIn wsX3_run (wsV RX3 68 RX2 yX2_go wsX2_go) := goodIn_app (goodIn_of _ (by decide +kernel)) ggX3_run_X2_go
theorem dX3_run_0 : decode cX3_run 0 = .ok (.iload_n 1, 1) := by decide +kernel
theorem dX3_run_1 : decode cX3_run 1 = .ok (.iconst 1, 1) := by decide +kernel
theorem dX3_run_2 : decode cX3_run 2 = .ok (.if_icmp .lt 19, 3) := by decide +kernel
theorem dX3_run_5 : decode cX3_run 5 = .ok (.iload_n 1, 1) := by decide +kernel
theorem dX3_run_6 : decode cX3_run 6 = .ok (.bipush 32, 2) := by decide +kernel
theorem dX3_run_8 : decode cX3_run 8 = .ok (.if_icmp .gt 13, 3) := by decide +kernel
theorem dX3_run_11 : decode cX3_run 11 = .ok (.iload_n 2, 1) := by decide +kernel
theorem dX3_run_12 : decode cX3_run 12 = .ok (.ifCond .lt 9, 3) := by decide +kernel
theorem dX3_run_15 : decode cX3_run 15 = .ok (.iload_n 2, 1) := by decide +kernel
theorem dX3_run_16 : decode cX3_run 16 = .ok (.bipush 64, 2) := by decide +kernel
theorem dX3_run_18 : decode cX3_run 18 = .ok (.if_icmp .le 5, 3) := by decide +kernel
theorem dX3_run_21 : decode cX3_run 21 = .ok (.iconst (-1), 1) := by decide +kernel
theorem dX3_run_22 : decode cX3_run 22 = .ok (.ireturn, 1) := by decide +kernel
theorem dX3_run_23 : decode cX3_run 23 = .ok (.aload_n 0, 1) := by decide +kernel
theorem dX3_run_24 : decode cX3_run 24 = .ok (.getfield 44, 3) := by decide +kernel
theorem dX3_run_27 : decode cX3_run 27 = .ok (.aload_n 0, 1) := by decide +kernel
theorem dX3_run_28 : decode cX3_run 28 = .ok (.getfield 26, 3) := by decide +kernel
theorem dX3_run_31 : decode cX3_run 31 = .ok (.iload_n 1, 1) := by decide +kernel
theorem dX3_run_32 : decode cX3_run 32 = .ok (.iload_n 2, 1) := by decide +kernel
theorem dX3_run_33 : decode cX3_run 33 = .ok (.invokevirtual 68, 3) := by decide +kernel
theorem dX3_run_36 : decode cX3_run 36 = .ok (.ireturn, 1) := by decide +kernel
set_option maxRecDepth 20000 in
theorem ggX3_bottom_X3_isPing : GoodIn wsX3_bottom wsX3_isPing := goodIn_r _ [7] (by decide +kernel) (by decide +kernel)
set_option maxRecDepth 20000 in
theorem gX3_bottom_X3_isPing : GoodIn wsX3_bottom (va_wsS RX3 72 yX3_isPing wsX3_isPing) := goodIn_app (goodIn_of _ (by decide +kernel)) ggX3_bottom_X3_isPing
set_option maxRecDepth 20000 in
theorem ggX3_bottom_X2_hasBottom : GoodIn wsX3_bottom wsX2_hasBottom := goodIn_r _ [12, 13, 14, 15, 11, 16, 17, 5, 6, 7, 18, 19, 20, 21, 22, 23, 24, 25, 60, 61, 62, 63, 64, 65, 66, 67] (by decide +kernel) (by decide +kernel)
set_option maxRecDepth 20000 in
theorem gX3_bottom_X2_hasBottom : GoodIn wsX3_bottom (wsV RX3 76 RX2 yX2_hasBottom wsX2_hasBottom) := goodIn_app (goodIn_of _ (by decide +kernel)) ggX3_bottom_X2_hasBottom
set_option maxRecDepth 20000 in
theorem ggX3_bottom_X2_depthAt : GoodIn wsX3_bottom wsX2_depthAt := goodIn_r _ [29, 18, 19, 20, 11, 21, 5, 6, 7, 13, 14, 15, 16, 17, 22, 23, 24, 25, 30, 31, 32, 33, 34, 35, 36, 37, 38, 39, 40, 41, 42, 43, 44, 45, 46, 47, 48, 49, 50, 51, 52, 60, 61, 62, 63, 64, 65, 66, 67, 68, 69, 70, 71, 72, 73, 74] (by decide +kernel) (by decide +kernel)
set_option maxRecDepth 20000 in
theorem gX3_bottom_X2_depthAt : GoodIn wsX3_bottom (wsV RX3 79 RX2 yX2_depthAt wsX2_depthAt) := goodIn_app (goodIn_of _ (by decide +kernel)) ggX3_bottom_X2_depthAt
theorem dX3_bottom_0 : decode cX3_bottom 0 = .ok (.iload_n 1, 1) := by decide +kernel
theorem dX3_bottom_1 : decode cX3_bottom 1 = .ok (.invokestatic 72, 3) := by decide +kernel
theorem dX3_bottom_4 : decode cX3_bottom 4 = .ok (.ifCond .eq 32, 3) := by decide +kernel
theorem dX3_bottom_7 : decode cX3_bottom 7 = .ok (.aload_n 0, 1) := by decide +kernel
theorem dX3_bottom_8 : decode cX3_bottom 8 = .ok (.getfield 44, 3) := by decide +kernel
theorem dX3_bottom_11 : decode cX3_bottom 11 = .ok (.iload_n 1, 1) := by decide +kernel
theorem dX3_bottom_12 : decode cX3_bottom 12 = .ok (.invokevirtual 76, 3) := by decide +kernel
theorem dX3_bottom_15 : decode cX3_bottom 15 = .ok (.ifCond .eq 21, 3) := by decide +kernel
theorem dX3_bottom_18 : decode cX3_bottom 18 = .ok (.aload_n 0, 1) := by decide +kernel
theorem dX3_bottom_19 : decode cX3_bottom 19 = .ok (.getfield 44, 3) := by decide +kernel
theorem dX3_bottom_22 : decode cX3_bottom 22 = .ok (.iload_n 1, 1) := by decide +kernel
theorem dX3_bottom_23 : decode cX3_bottom 23 = .ok (.invokevirtual 79, 3) := by decide +kernel
theorem dX3_bottom_26 : decode cX3_bottom 26 = .ok (.aload_n 0, 1) := by decide +kernel
theorem dX3_bottom_27 : decode cX3_bottom 27 = .ok (.getfield 19, 3) := by decide +kernel
theorem dX3_bottom_30 : decode cX3_bottom 30 = .ok (.iload_n 1, 1) := by decide +kernel
theorem dX3_bottom_31 : decode cX3_bottom 31 = .ok (.daload, 1) := by decide +kernel
theorem dX3_bottom_32 : decode cX3_bottom 32 = .ok (.dadd, 1) := by decide +kernel
theorem dX3_bottom_33 : decode cX3_bottom 33 = .ok (.goto 6, 3) := by decide +kernel
theorem dX3_bottom_36 : decode cX3_bottom 36 = .ok (.ldc2_w 83, 3) := by decide +kernel
theorem dX3_bottom_39 : decode cX3_bottom 39 = .ok (.dreturn, 1) := by decide +kernel
set_option maxRecDepth 20000 in
theorem ggX3_greatest_X2_wasFound : GoodIn wsX3_greatest wsX2_wasFound := goodIn_r _ [6, 7, 15, 16, 17, 18, 19, 20, 21, 22] (by decide +kernel) (by decide +kernel)
set_option maxRecDepth 20000 in
theorem gX3_greatest_X2_wasFound : GoodIn wsX3_greatest (wsV RX3 85 RX2 yX2_wasFound wsX2_wasFound) := goodIn_app (goodIn_of _ (by decide +kernel)) ggX3_greatest_X2_wasFound
theorem dX3_greatest_0 : decode cX3_greatest 0 = .ok (.aload_n 0, 1) := by decide +kernel
theorem dX3_greatest_1 : decode cX3_greatest 1 = .ok (.getfield 44, 3) := by decide +kernel
theorem dX3_greatest_4 : decode cX3_greatest 4 = .ok (.invokevirtual 85, 3) := by decide +kernel
theorem dX3_greatest_7 : decode cX3_greatest 7 = .ok (.ireturn, 1) := by decide +kernel
set_option maxRecDepth 20000 in
theorem ggX3_edit_X2_tellDepth : GoodIn wsX3_edit wsX2_tellDepth := goodIn_r _ [6, 7, 8, 9, 10, 11, 12, 13, 21, 22, 23, 24, 25, 26, 27, 28] (by decide +kernel) (by decide +kernel)
set_option maxRecDepth 20000 in
theorem gX3_edit_X2_tellDepth : GoodIn wsX3_edit (wsV RX3 89 RX2 yX2_tellDepth wsX2_tellDepth) := goodIn_app (goodIn_of _ (by decide +kernel)) ggX3_edit_X2_tellDepth
theorem dX3_edit_0 : decode cX3_edit 0 = .ok (.aload_n 0, 1) := by decide +kernel
theorem dX3_edit_1 : decode cX3_edit 1 = .ok (.getfield 44, 3) := by decide +kernel
theorem dX3_edit_4 : decode cX3_edit 4 = .ok (.iload_n 1, 1) := by decide +kernel
theorem dX3_edit_5 : decode cX3_edit 5 = .ok (.dload_n 2, 1) := by decide +kernel
theorem dX3_edit_6 : decode cX3_edit 6 = .ok (.invokevirtual 89, 3) := by decide +kernel
theorem dX3_edit_9 : decode cX3_edit 9 = .ok (.ireturn, 1) := by decide +kernel
set_option maxRecDepth 20000 in
theorem ggX3_lost_X0_lose : GoodIn wsX3_lost wsX0_lose := goodIn_r _ [6, 7, 8, 9, 10, 18, 19, 20, 21, 22, 23, 24] (by decide +kernel) (by decide +kernel)
set_option maxRecDepth 20000 in
theorem gX3_lost_X0_lose : GoodIn wsX3_lost (wsV RX3 93 RX0 yX0_lose wsX0_lose) := goodIn_app (goodIn_of _ (by decide +kernel)) ggX3_lost_X0_lose
theorem dX3_lost_0 : decode cX3_lost 0 = .ok (.aload_n 0, 1) := by decide +kernel
theorem dX3_lost_1 : decode cX3_lost 1 = .ok (.getfield 35, 3) := by decide +kernel
theorem dX3_lost_4 : decode cX3_lost 4 = .ok (.iload_n 1, 1) := by decide +kernel
theorem dX3_lost_5 : decode cX3_lost 5 = .ok (.invokevirtual 93, 3) := by decide +kernel
theorem dX3_lost_8 : decode cX3_lost 8 = .ok (.ireturn, 1) := by decide +kernel
set_option maxRecDepth 20000 in
theorem ggX3_bridged_X2_isBridge : GoodIn wsX3_bridged wsX2_isBridge := goodIn_r _ [6, 7, 8, 9, 10, 11, 12, 5, 13, 14, 15, 16, 17, 18, 26, 27, 28, 29, 30, 31, 32, 33] (by decide +kernel) (by decide +kernel)
set_option maxRecDepth 20000 in
theorem gX3_bridged_X2_isBridge : GoodIn wsX3_bridged (wsV RX3 96 RX2 yX2_isBridge wsX2_isBridge) := goodIn_app (goodIn_of _ (by decide +kernel)) ggX3_bridged_X2_isBridge
theorem dX3_bridged_0 : decode cX3_bridged 0 = .ok (.iconst 0, 1) := by decide +kernel
theorem dX3_bridged_1 : decode cX3_bridged 1 = .ok (.istore_n 2, 1) := by decide +kernel
theorem dX3_bridged_2 : decode cX3_bridged 2 = .ok (.iconst 0, 1) := by decide +kernel
theorem dX3_bridged_3 : decode cX3_bridged 3 = .ok (.istore_n 3, 1) := by decide +kernel
theorem dX3_bridged_4 : decode cX3_bridged 4 = .ok (.iload_n 3, 1) := by decide +kernel
theorem dX3_bridged_5 : decode cX3_bridged 5 = .ok (.bipush 32, 2) := by decide +kernel
theorem dX3_bridged_7 : decode cX3_bridged 7 = .ok (.if_icmp .ge 30, 3) := by decide +kernel
theorem dX3_bridged_10 : decode cX3_bridged 10 = .ok (.aload_n 0, 1) := by decide +kernel
theorem dX3_bridged_11 : decode cX3_bridged 11 = .ok (.getfield 44, 3) := by decide +kernel
theorem dX3_bridged_14 : decode cX3_bridged 14 = .ok (.iload_n 3, 1) := by decide +kernel
theorem dX3_bridged_15 : decode cX3_bridged 15 = .ok (.invokevirtual 96, 3) := by decide +kernel
theorem dX3_bridged_18 : decode cX3_bridged 18 = .ok (.ifCond .eq 13, 3) := by decide +kernel
theorem dX3_bridged_21 : decode cX3_bridged 21 = .ok (.iload_n 2, 1) := by decide +kernel
theorem dX3_bridged_22 : decode cX3_bridged 22 = .ok (.iload_n 1, 1) := by decide +kernel
theorem dX3_bridged_23 : decode cX3_bridged 23 = .ok (.if_icmp .ne 5, 3) := by decide +kernel
theorem dX3_bridged_26 : decode cX3_bridged 26 = .ok (.iload_n 3, 1) := by decide +kernel
theorem dX3_bridged_27 : decode cX3_bridged 27 = .ok (.ireturn, 1) := by decide +kernel
theorem dX3_bridged_28 : decode cX3_bridged 28 = .ok (.iinc 2 1, 3) := by decide +kernel
theorem dX3_bridged_31 : decode cX3_bridged 31 = .ok (.iinc 3 1, 3) := by decide +kernel
theorem dX3_bridged_34 : decode cX3_bridged 34 = .ok (.goto (-30), 3) := by decide +kernel
theorem dX3_bridged_37 : decode cX3_bridged 37 = .ok (.iconst (-1), 1) := by decide +kernel
theorem dX3_bridged_38 : decode cX3_bridged 38 = .ok (.ireturn, 1) := by decide +kernel
set_option maxRecDepth 20000 in
theorem ggX3_dead_X2_hasBottom : GoodIn wsX3_dead wsX2_hasBottom := goodIn_r _ [11, 12, 13, 14, 10, 15, 16, 17, 18, 19, 20, 21, 22, 23, 24, 25, 26, 27, 69, 70, 71, 72, 73, 74, 75, 76] (by decide +kernel) (by decide +kernel)
set_option maxRecDepth 20000 in
theorem gX3_dead_X2_hasBottom : GoodIn wsX3_dead (wsV RX3 76 RX2 yX2_hasBottom wsX2_hasBottom) := goodIn_app (goodIn_of _ (by decide +kernel)) ggX3_dead_X2_hasBottom
set_option maxRecDepth 20000 in
theorem ggX3_dead_X2_depthAt : GoodIn wsX3_dead wsX2_depthAt := goodIn_r _ [31, 20, 21, 22, 10, 23, 17, 18, 19, 12, 13, 14, 15, 16, 24, 25, 26, 27, 32, 33, 34, 35, 36, 37, 38, 39, 40, 41, 42, 43, 44, 45, 46, 47, 48, 49, 50, 51, 52, 53, 54, 69, 70, 71, 72, 73, 74, 75, 76, 62, 63, 64, 65, 66, 67, 68] (by decide +kernel) (by decide +kernel)
set_option maxRecDepth 20000 in
theorem gX3_dead_X2_depthAt : GoodIn wsX3_dead (wsV RX3 79 RX2 yX2_depthAt wsX2_depthAt) := goodIn_app (goodIn_of _ (by decide +kernel)) ggX3_dead_X2_depthAt
theorem dX3_dead_0 : decode cX3_dead 0 = .ok (.aload_n 0, 1) := by decide +kernel
theorem dX3_dead_1 : decode cX3_dead 1 = .ok (.getfield 44, 3) := by decide +kernel
theorem dX3_dead_4 : decode cX3_dead 4 = .ok (.iload_n 1, 1) := by decide +kernel
theorem dX3_dead_5 : decode cX3_dead 5 = .ok (.invokevirtual 76, 3) := by decide +kernel
theorem dX3_dead_8 : decode cX3_dead 8 = .ok (.ifCond .eq 30, 3) := by decide +kernel
theorem dX3_dead_11 : decode cX3_dead 11 = .ok (.ldc2_w 99, 3) := by decide +kernel
theorem dX3_dead_14 : decode cX3_dead 14 = .ok (.aload_n 0, 1) := by decide +kernel
theorem dX3_dead_15 : decode cX3_dead 15 = .ok (.getfield 35, 3) := by decide +kernel
theorem dX3_dead_18 : decode cX3_dead 18 = .ok (.getfield 101, 3) := by decide +kernel
theorem dX3_dead_21 : decode cX3_dead 21 = .ok (.dmul, 1) := by decide +kernel
theorem dX3_dead_22 : decode cX3_dead 22 = .ok (.ldc2_w 105, 3) := by decide +kernel
theorem dX3_dead_25 : decode cX3_dead 25 = .ok (.aload_n 0, 1) := by decide +kernel
theorem dX3_dead_26 : decode cX3_dead 26 = .ok (.getfield 44, 3) := by decide +kernel
theorem dX3_dead_29 : decode cX3_dead 29 = .ok (.iload_n 1, 1) := by decide +kernel
theorem dX3_dead_30 : decode cX3_dead 30 = .ok (.invokevirtual 79, 3) := by decide +kernel
theorem dX3_dead_33 : decode cX3_dead 33 = .ok (.dmul, 1) := by decide +kernel
theorem dX3_dead_34 : decode cX3_dead 34 = .ok (.dadd, 1) := by decide +kernel
theorem dX3_dead_35 : decode cX3_dead 35 = .ok (.goto 6, 3) := by decide +kernel
theorem dX3_dead_38 : decode cX3_dead 38 = .ok (.ldc2_w 83, 3) := by decide +kernel
theorem dX3_dead_41 : decode cX3_dead 41 = .ok (.dreturn, 1) := by decide +kernel
set_option maxRecDepth 20000 in
theorem ggX3_surface_X3_isPing : GoodIn wsX3_surface wsX3_isPing := goodIn_r _ [10] (by decide +kernel) (by decide +kernel)
set_option maxRecDepth 20000 in
theorem gX3_surface_X3_isPing : GoodIn wsX3_surface (va_wsS RX3 72 yX3_isPing wsX3_isPing) := goodIn_app (goodIn_of _ (by decide +kernel)) ggX3_surface_X3_isPing
set_option maxRecDepth 20000 in
theorem ggX3_surface_X0_strength : GoodIn wsX3_surface wsX0_strength := goodIn_r _ [15, 16, 17, 18, 19, 20, 21, 22, 23, 24, 25, 26, 27, 14, 28, 29, 30, 9, 31, 8, 10, 32, 33, 34, 35, 36, 37, 38, 39, 40, 41, 42, 43, 44, 45, 53, 54, 55, 56, 57, 58, 59] (by decide +kernel) (by decide +kernel)
set_option maxRecDepth 20000 in
theorem gX3_surface_X0_strength : GoodIn wsX3_surface (wsV RX3 110 RX0 yX0_strength wsX0_strength) := goodIn_app (goodIn_of _ (by decide +kernel)) ggX3_surface_X0_strength
theorem dX3_surface_0 : decode cX3_surface 0 = .ok (.iload_n 1, 1) := by decide +kernel
theorem dX3_surface_1 : decode cX3_surface 1 = .ok (.invokestatic 72, 3) := by decide +kernel
theorem dX3_surface_4 : decode cX3_surface 4 = .ok (.ifCond .ne 7, 3) := by decide +kernel
theorem dX3_surface_7 : decode cX3_surface 7 = .ok (.ldc2_w 83, 3) := by decide +kernel
theorem dX3_surface_10 : decode cX3_surface 10 = .ok (.dreturn, 1) := by decide +kernel
theorem dX3_surface_11 : decode cX3_surface 11 = .ok (.iconst 0, 1) := by decide +kernel
theorem dX3_surface_12 : decode cX3_surface 12 = .ok (.istore_n 2, 1) := by decide +kernel
theorem dX3_surface_13 : decode cX3_surface 13 = .ok (.iload_n 2, 1) := by decide +kernel
theorem dX3_surface_14 : decode cX3_surface 14 = .ok (.aload_n 0, 1) := by decide +kernel
theorem dX3_surface_15 : decode cX3_surface 15 = .ok (.getfield 35, 3) := by decide +kernel
theorem dX3_surface_18 : decode cX3_surface 18 = .ok (.getfield 107, 3) := by decide +kernel
theorem dX3_surface_21 : decode cX3_surface 21 = .ok (.if_icmp .ge 29, 3) := by decide +kernel
theorem dX3_surface_24 : decode cX3_surface 24 = .ok (.aload_n 0, 1) := by decide +kernel
theorem dX3_surface_25 : decode cX3_surface 25 = .ok (.getfield 35, 3) := by decide +kernel
theorem dX3_surface_28 : decode cX3_surface 28 = .ok (.aload_n 0, 1) := by decide +kernel
theorem dX3_surface_29 : decode cX3_surface 29 = .ok (.getfield 26, 3) := by decide +kernel
theorem dX3_surface_32 : decode cX3_surface 32 = .ok (.iload_n 1, 1) := by decide +kernel
theorem dX3_surface_33 : decode cX3_surface 33 = .ok (.iload_n 2, 1) := by decide +kernel
theorem dX3_surface_34 : decode cX3_surface 34 = .ok (.invokevirtual 110, 3) := by decide +kernel
theorem dX3_surface_37 : decode cX3_surface 37 = .ok (.ldc2_w 114, 3) := by decide +kernel
theorem dX3_surface_40 : decode cX3_surface 40 = .ok (.lcmp, 1) := by decide +kernel
theorem dX3_surface_41 : decode cX3_surface 41 = .ok (.ifCond .lt 9, 3) := by decide +kernel
theorem dX3_surface_44 : decode cX3_surface 44 = .ok (.iinc 2 1, 3) := by decide +kernel
theorem dX3_surface_47 : decode cX3_surface 47 = .ok (.goto (-34), 3) := by decide +kernel
theorem dX3_surface_50 : decode cX3_surface 50 = .ok (.iload_n 2, 1) := by decide +kernel
theorem dX3_surface_51 : decode cX3_surface 51 = .ok (.i2d, 1) := by decide +kernel
theorem dX3_surface_52 : decode cX3_surface 52 = .ok (.aload_n 0, 1) := by decide +kernel
theorem dX3_surface_53 : decode cX3_surface 53 = .ok (.getfield 35, 3) := by decide +kernel
theorem dX3_surface_56 : decode cX3_surface 56 = .ok (.getfield 101, 3) := by decide +kernel
theorem dX3_surface_59 : decode cX3_surface 59 = .ok (.dmul, 1) := by decide +kernel
theorem dX3_surface_60 : decode cX3_surface 60 = .ok (.dreturn, 1) := by decide +kernel
set_option maxRecDepth 20000 in
theorem ggX3_kind_X2_isWalked : GoodIn wsX3_kind wsX2_isWalked := goodIn_r _ [8, 9, 10, 11, 12, 84, 85, 86, 87, 88, 89, 90, 91] (by decide +kernel) (by decide +kernel)
set_option maxRecDepth 20000 in
theorem gX3_kind_X2_isWalked : GoodIn wsX3_kind (wsV RX3 116 RX2 yX2_isWalked wsX2_isWalked) := goodIn_app (goodIn_of _ (by decide +kernel)) ggX3_kind_X2_isWalked
set_option maxRecDepth 20000 in
theorem ggX3_kind_X3_tail : GoodIn wsX3_kind wsX3_tail := goodIn_r _ [16, 1, 17, 4, 5, 6, 7, 8, 9, 10, 11, 12, 18, 19, 20, 21, 22, 23, 24, 25, 26, 27, 28, 29, 30, 31, 32, 33, 34, 35, 36, 37, 38, 39, 40, 41, 42, 43, 44, 45, 46, 47, 48, 49, 50, 51, 52, 53, 54, 55, 56, 57, 58, 59, 60, 61, 62, 63, 64, 65, 66, 67, 68, 69, 70, 71, 72, 73, 74, 75, 76, 77, 78, 79, 80, 81, 82, 83, 84, 85, 86, 87, 88, 89, 90, 91, 92, 93, 94, 95, 96, 97, 98] (by decide +kernel) (by decide +kernel)
set_option maxRecDepth 20000 in
theorem gX3_kind_X3_tail : GoodIn wsX3_kind (wsV RX3 119 RX3 yX3_tail wsX3_tail) := goodIn_app (goodIn_of _ (by decide +kernel)) ggX3_kind_X3_tail
theorem dX3_kind_0 : decode cX3_kind 0 = .ok (.aload_n 0, 1) := by decide +kernel
theorem dX3_kind_1 : decode cX3_kind 1 = .ok (.getfield 44, 3) := by decide +kernel
theorem dX3_kind_4 : decode cX3_kind 4 = .ok (.iload_n 1, 1) := by decide +kernel
theorem dX3_kind_5 : decode cX3_kind 5 = .ok (.invokevirtual 116, 3) := by decide +kernel
theorem dX3_kind_8 : decode cX3_kind 8 = .ok (.ifCond .ne 5, 3) := by decide +kernel
theorem dX3_kind_11 : decode cX3_kind 11 = .ok (.iconst (-1), 1) := by decide +kernel
theorem dX3_kind_12 : decode cX3_kind 12 = .ok (.ireturn, 1) := by decide +kernel
theorem dX3_kind_13 : decode cX3_kind 13 = .ok (.aload_n 0, 1) := by decide +kernel
theorem dX3_kind_14 : decode cX3_kind 14 = .ok (.iload_n 1, 1) := by decide +kernel
theorem dX3_kind_15 : decode cX3_kind 15 = .ok (.invokevirtual 119, 3) := by decide +kernel
theorem dX3_kind_18 : decode cX3_kind 18 = .ok (.dstore_n 2, 1) := by decide +kernel
theorem dX3_kind_19 : decode cX3_kind 19 = .ok (.dload_n 2, 1) := by decide +kernel
theorem dX3_kind_20 : decode cX3_kind 20 = .ok (.ldc2_w 122, 3) := by decide +kernel
theorem dX3_kind_23 : decode cX3_kind 23 = .ok (.dcmp .g, 1) := by decide +kernel
theorem dX3_kind_24 : decode cX3_kind 24 = .ok (.ifCond .ge 5, 3) := by decide +kernel
theorem dX3_kind_27 : decode cX3_kind 27 = .ok (.iconst 0, 1) := by decide +kernel
theorem dX3_kind_28 : decode cX3_kind 28 = .ok (.ireturn, 1) := by decide +kernel
theorem dX3_kind_29 : decode cX3_kind 29 = .ok (.dload_n 2, 1) := by decide +kernel
theorem dX3_kind_30 : decode cX3_kind 30 = .ok (.ldc2_w 124, 3) := by decide +kernel
theorem dX3_kind_33 : decode cX3_kind 33 = .ok (.dcmp .g, 1) := by decide +kernel
theorem dX3_kind_34 : decode cX3_kind 34 = .ok (.ifCond .ge 7, 3) := by decide +kernel
theorem dX3_kind_37 : decode cX3_kind 37 = .ok (.iconst 1, 1) := by decide +kernel
theorem dX3_kind_38 : decode cX3_kind 38 = .ok (.goto 4, 3) := by decide +kernel
theorem dX3_kind_41 : decode cX3_kind 41 = .ok (.iconst 2, 1) := by decide +kernel
theorem dX3_kind_42 : decode cX3_kind 42 = .ok (.ireturn, 1) := by decide +kernel
set_option maxRecDepth 20000 in
theorem ggX3_speed_X3_within : GoodIn wsX3_speed wsX3_within := goodIn_r _ [8] (by decide +kernel) (by decide +kernel)
set_option maxRecDepth 20000 in
theorem gX3_speed_X3_within : GoodIn wsX3_speed (va_wsS RX3 54 yX3_within wsX3_within) := goodIn_app (goodIn_of _ (by decide +kernel)) ggX3_speed_X3_within
set_option maxRecDepth 20000 in
theorem ggX3_speed_X1_put : GoodIn wsX3_speed wsX1_put := goodIn_r _ [13, 14, 15, 16, 17, 18, 19, 12, 20, 28, 29, 30] (by decide +kernel) (by decide +kernel)
set_option maxRecDepth 20000 in
theorem gX3_speed_X1_put : GoodIn wsX3_speed (wsV RX3 132 RX1 yX1_put wsX1_put) := goodIn_app (goodIn_of _ (by decide +kernel)) ggX3_speed_X1_put
theorem dX3_speed_0 : decode cX3_speed 0 = .ok (.dload_n 1, 1) := by decide +kernel
theorem dX3_speed_1 : decode cX3_speed 1 = .ok (.dconst 0, 1) := by decide +kernel
theorem dX3_speed_2 : decode cX3_speed 2 = .ok (.ldc2_w 126, 3) := by decide +kernel
theorem dX3_speed_5 : decode cX3_speed 5 = .ok (.invokestatic 54, 3) := by decide +kernel
theorem dX3_speed_8 : decode cX3_speed 8 = .ok (.ifCond .eq 32, 3) := by decide +kernel
theorem dX3_speed_11 : decode cX3_speed 11 = .ok (.dload_n 3, 1) := by decide +kernel
theorem dX3_speed_12 : decode cX3_speed 12 = .ok (.ldc2_w 128, 3) := by decide +kernel
theorem dX3_speed_15 : decode cX3_speed 15 = .ok (.ldc2_w 130, 3) := by decide +kernel
theorem dX3_speed_18 : decode cX3_speed 18 = .ok (.invokestatic 54, 3) := by decide +kernel
theorem dX3_speed_21 : decode cX3_speed 21 = .ok (.ifCond .eq 19, 3) := by decide +kernel
theorem dX3_speed_24 : decode cX3_speed 24 = .ok (.aload_n 0, 1) := by decide +kernel
theorem dX3_speed_25 : decode cX3_speed 25 = .ok (.getfield 10, 3) := by decide +kernel
theorem dX3_speed_28 : decode cX3_speed 28 = .ok (.dload_n 1, 1) := by decide +kernel
theorem dX3_speed_29 : decode cX3_speed 29 = .ok (.dload_n 3, 1) := by decide +kernel
theorem dX3_speed_30 : decode cX3_speed 30 = .ok (.invokevirtual 132, 3) := by decide +kernel
theorem dX3_speed_33 : decode cX3_speed 33 = .ok (.ifCond .eq 7, 3) := by decide +kernel
theorem dX3_speed_36 : decode cX3_speed 36 = .ok (.iconst 1, 1) := by decide +kernel
theorem dX3_speed_37 : decode cX3_speed 37 = .ok (.goto 4, 3) := by decide +kernel
theorem dX3_speed_40 : decode cX3_speed 40 = .ok (.iconst 0, 1) := by decide +kernel
theorem dX3_speed_41 : decode cX3_speed 41 = .ok (.ireturn, 1) := by decide +kernel
set_option maxRecDepth 20000 in
theorem ggX3_bent_X3_isPing : GoodIn wsX3_bent wsX3_isPing := goodIn_r _ [13] (by decide +kernel) (by decide +kernel)
set_option maxRecDepth 20000 in
theorem gX3_bent_X3_isPing : GoodIn wsX3_bent (va_wsS RX3 72 yX3_isPing wsX3_isPing) := goodIn_app (goodIn_of _ (by decide +kernel)) ggX3_bent_X3_isPing
set_option maxRecDepth 20000 in
theorem ggX3_bent_X0_isSample : GoodIn wsX3_bent wsX0_isSample := goodIn_r _ [18, 19, 43, 44, 45, 46, 47, 48, 49] (by decide +kernel) (by decide +kernel)
set_option maxRecDepth 20000 in
theorem gX3_bent_X0_isSample : GoodIn wsX3_bent (wsV RX3 136 RX0 yX0_isSample wsX0_isSample) := goodIn_app (goodIn_of _ (by decide +kernel)) ggX3_bent_X0_isSample
set_option maxRecDepth 20000 in
theorem ggX3_bent_X1_stepAt : GoodIn wsX3_bent wsX1_stepAt := goodIn_r _ [24, 25, 26, 27, 28, 29, 30, 31, 32, 33, 23, 34, 35, 50, 51, 52] (by decide +kernel) (by decide +kernel)
set_option maxRecDepth 20000 in
theorem gX3_bent_X1_stepAt : GoodIn wsX3_bent (wsV RX3 141 RX1 yX1_stepAt wsX1_stepAt) := goodIn_app (goodIn_of _ (by decide +kernel)) ggX3_bent_X1_stepAt
theorem dX3_bent_0 : decode cX3_bent 0 = .ok (.iload_n 1, 1) := by decide +kernel
theorem dX3_bent_1 : decode cX3_bent 1 = .ok (.invokestatic 72, 3) := by decide +kernel
theorem dX3_bent_4 : decode cX3_bent 4 = .ok (.ifCond .eq 14, 3) := by decide +kernel
theorem dX3_bent_7 : decode cX3_bent 7 = .ok (.aload_n 0, 1) := by decide +kernel
theorem dX3_bent_8 : decode cX3_bent 8 = .ok (.getfield 35, 3) := by decide +kernel
theorem dX3_bent_11 : decode cX3_bent 11 = .ok (.iload_n 2, 1) := by decide +kernel
theorem dX3_bent_12 : decode cX3_bent 12 = .ok (.invokevirtual 136, 3) := by decide +kernel
theorem dX3_bent_15 : decode cX3_bent 15 = .ok (.ifCond .ne 7, 3) := by decide +kernel
theorem dX3_bent_18 : decode cX3_bent 18 = .ok (.ldc2_w 83, 3) := by decide +kernel
theorem dX3_bent_21 : decode cX3_bent 21 = .ok (.dreturn, 1) := by decide +kernel
theorem dX3_bent_22 : decode cX3_bent 22 = .ok (.dconst 0, 1) := by decide +kernel
theorem dX3_bent_23 : decode cX3_bent 23 = .ok (.dstore_n 3, 1) := by decide +kernel
theorem dX3_bent_24 : decode cX3_bent 24 = .ok (.iconst 0, 1) := by decide +kernel
theorem dX3_bent_25 : decode cX3_bent 25 = .ok (.istore 5, 2) := by decide +kernel
theorem dX3_bent_27 : decode cX3_bent 27 = .ok (.iload 5, 2) := by decide +kernel
theorem dX3_bent_29 : decode cX3_bent 29 = .ok (.iload_n 2, 1) := by decide +kernel
theorem dX3_bent_30 : decode cX3_bent 30 = .ok (.if_icmp .gt 45, 3) := by decide +kernel
theorem dX3_bent_33 : decode cX3_bent 33 = .ok (.dload_n 3, 1) := by decide +kernel
theorem dX3_bent_34 : decode cX3_bent 34 = .ok (.aload_n 0, 1) := by decide +kernel
theorem dX3_bent_35 : decode cX3_bent 35 = .ok (.getfield 35, 3) := by decide +kernel
theorem dX3_bent_38 : decode cX3_bent 38 = .ok (.getfield 101, 3) := by decide +kernel
theorem dX3_bent_41 : decode cX3_bent 41 = .ok (.aload_n 0, 1) := by decide +kernel
theorem dX3_bent_42 : decode cX3_bent 42 = .ok (.getfield 10, 3) := by decide +kernel
theorem dX3_bent_45 : decode cX3_bent 45 = .ok (.iload 5, 2) := by decide +kernel
theorem dX3_bent_47 : decode cX3_bent 47 = .ok (.i2d, 1) := by decide +kernel
theorem dX3_bent_48 : decode cX3_bent 48 = .ok (.aload_n 0, 1) := by decide +kernel
theorem dX3_bent_49 : decode cX3_bent 49 = .ok (.getfield 35, 3) := by decide +kernel
theorem dX3_bent_52 : decode cX3_bent 52 = .ok (.getfield 101, 3) := by decide +kernel
theorem dX3_bent_55 : decode cX3_bent 55 = .ok (.dmul, 1) := by decide +kernel
theorem dX3_bent_56 : decode cX3_bent 56 = .ok (.ldc2_w 139, 3) := by decide +kernel
theorem dX3_bent_59 : decode cX3_bent 59 = .ok (.invokevirtual 141, 3) := by decide +kernel
theorem dX3_bent_62 : decode cX3_bent 62 = .ok (.dmul, 1) := by decide +kernel
theorem dX3_bent_63 : decode cX3_bent 63 = .ok (.ldc2_w 139, 3) := by decide +kernel
theorem dX3_bent_66 : decode cX3_bent 66 = .ok (.ddiv, 1) := by decide +kernel
theorem dX3_bent_67 : decode cX3_bent 67 = .ok (.dadd, 1) := by decide +kernel
theorem dX3_bent_68 : decode cX3_bent 68 = .ok (.dstore_n 3, 1) := by decide +kernel
theorem dX3_bent_69 : decode cX3_bent 69 = .ok (.iinc 5 1, 3) := by decide +kernel
theorem dX3_bent_72 : decode cX3_bent 72 = .ok (.goto (-45), 3) := by decide +kernel
theorem dX3_bent_75 : decode cX3_bent 75 = .ok (.ldc2_w 145, 3) := by decide +kernel
theorem dX3_bent_78 : decode cX3_bent 78 = .ok (.aload_n 0, 1) := by decide +kernel
theorem dX3_bent_79 : decode cX3_bent 79 = .ok (.getfield 23, 3) := by decide +kernel
theorem dX3_bent_82 : decode cX3_bent 82 = .ok (.iload_n 1, 1) := by decide +kernel
theorem dX3_bent_83 : decode cX3_bent 83 = .ok (.daload, 1) := by decide +kernel
theorem dX3_bent_84 : decode cX3_bent 84 = .ok (.dmul, 1) := by decide +kernel
theorem dX3_bent_85 : decode cX3_bent 85 = .ok (.dstore 5, 2) := by decide +kernel
theorem dX3_bent_87 : decode cX3_bent 87 = .ok (.dload_n 3, 1) := by decide +kernel
theorem dX3_bent_88 : decode cX3_bent 88 = .ok (.dconst 1, 1) := by decide +kernel
theorem dX3_bent_89 : decode cX3_bent 89 = .ok (.dload 5, 2) := by decide +kernel
theorem dX3_bent_91 : decode cX3_bent 91 = .ok (.dload 5, 2) := by decide +kernel
theorem dX3_bent_93 : decode cX3_bent 93 = .ok (.dmul, 1) := by decide +kernel
theorem dX3_bent_94 : decode cX3_bent 94 = .ok (.ldc2_w 99, 3) := by decide +kernel
theorem dX3_bent_97 : decode cX3_bent 97 = .ok (.dmul, 1) := by decide +kernel
theorem dX3_bent_98 : decode cX3_bent 98 = .ok (.dsub, 1) := by decide +kernel
theorem dX3_bent_99 : decode cX3_bent 99 = .ok (.dmul, 1) := by decide +kernel
theorem dX3_bent_100 : decode cX3_bent 100 = .ok (.aload_n 0, 1) := by decide +kernel
theorem dX3_bent_101 : decode cX3_bent 101 = .ok (.getfield 19, 3) := by decide +kernel
theorem dX3_bent_104 : decode cX3_bent 104 = .ok (.iload_n 1, 1) := by decide +kernel
theorem dX3_bent_105 : decode cX3_bent 105 = .ok (.daload, 1) := by decide +kernel
theorem dX3_bent_106 : decode cX3_bent 106 = .ok (.dadd, 1) := by decide +kernel
theorem dX3_bent_107 : decode cX3_bent 107 = .ok (.dreturn, 1) := by decide +kernel
set_option maxRecDepth 20000 in
theorem ggX3_frequency_X3_isFrequency : GoodIn wsX3_frequency wsX3_isFrequency := goodIn_r _ [5] (by decide +kernel) (by decide +kernel)
set_option maxRecDepth 20000 in
theorem gX3_frequency_X3_isFrequency : GoodIn wsX3_frequency (va_wsS RX3 147 yX3_isFrequency wsX3_isFrequency) := goodIn_app (goodIn_of _ (by decide +kernel)) ggX3_frequency_X3_isFrequency
theorem dX3_frequency_0 : decode cX3_frequency 0 = .ok (.iload_n 1, 1) := by decide +kernel
theorem dX3_frequency_1 : decode cX3_frequency 1 = .ok (.invokestatic 147, 3) := by decide +kernel
theorem dX3_frequency_4 : decode cX3_frequency 4 = .ok (.ifCond .ne 5, 3) := by decide +kernel
theorem dX3_frequency_7 : decode cX3_frequency 7 = .ok (.iconst 0, 1) := by decide +kernel
theorem dX3_frequency_8 : decode cX3_frequency 8 = .ok (.ireturn, 1) := by decide +kernel
theorem dX3_frequency_9 : decode cX3_frequency 9 = .ok (.aload_n 0, 1) := by decide +kernel
theorem dX3_frequency_10 : decode cX3_frequency 10 = .ok (.iload_n 1, 1) := by decide +kernel
theorem dX3_frequency_11 : decode cX3_frequency 11 = .ok (.putfield 26, 3) := by decide +kernel
theorem dX3_frequency_14 : decode cX3_frequency 14 = .ok (.iconst 1, 1) := by decide +kernel
theorem dX3_frequency_15 : decode cX3_frequency 15 = .ok (.ireturn, 1) := by decide +kernel
set_option maxRecDepth 20000 in
theorem ggX3_joined_X3_isFrequency : GoodIn wsX3_joined wsX3_isFrequency := goodIn_r _ [6] (by decide +kernel) (by decide +kernel)
set_option maxRecDepth 20000 in
theorem gX3_joined_X3_isFrequency : GoodIn wsX3_joined (va_wsS RX3 147 yX3_isFrequency wsX3_isFrequency) := goodIn_app (goodIn_of _ (by decide +kernel)) ggX3_joined_X3_isFrequency
set_option maxRecDepth 20000 in
theorem ggX3_joined_X3_isPing : GoodIn wsX3_joined wsX3_isPing := goodIn_r _ [9] (by decide +kernel) (by decide +kernel)
set_option maxRecDepth 20000 in
theorem gX3_joined_X3_isPing : GoodIn wsX3_joined (va_wsS RX3 72 yX3_isPing wsX3_isPing) := goodIn_app (goodIn_of _ (by decide +kernel)) ggX3_joined_X3_isPing
set_option maxRecDepth 20000 in
theorem ggX3_joined_X0_isSample : GoodIn wsX3_joined wsX0_isSample := goodIn_r _ [14, 15, 55, 56, 57, 58, 59, 60, 61] (by decide +kernel) (by decide +kernel)
set_option maxRecDepth 20000 in
theorem gX3_joined_X0_isSample : GoodIn wsX3_joined (wsV RX3 136 RX0 yX0_isSample wsX0_isSample) := goodIn_app (goodIn_of _ (by decide +kernel)) ggX3_joined_X0_isSample
set_option maxRecDepth 20000 in
theorem ggX3_joined_X0_strength : GoodIn wsX3_joined wsX0_strength := goodIn_r _ [19, 20, 21, 22, 23, 24, 25, 26, 27, 28, 29, 30, 31, 13, 32, 15, 4, 5, 6, 8, 9, 33, 11, 12, 14, 34, 35, 36, 37, 38, 39, 40, 41, 42, 43, 55, 56, 57, 58, 59, 60, 61] (by decide +kernel) (by decide +kernel)
set_option maxRecDepth 20000 in
theorem gX3_joined_X0_strength : GoodIn wsX3_joined (wsV RX3 110 RX0 yX0_strength wsX0_strength) := goodIn_app (goodIn_of _ (by decide +kernel)) ggX3_joined_X0_strength
set_option maxRecDepth 20000 in
theorem ggX3_joined_X0_range : GoodIn wsX3_joined wsX0_range := goodIn_r _ [42, 43, 55, 56, 57, 58, 59, 60, 61] (by decide +kernel) (by decide +kernel)
set_option maxRecDepth 20000 in
theorem gX3_joined_X0_range : GoodIn wsX3_joined (wsV RX3 150 RX0 yX0_range wsX0_range) := goodIn_app (goodIn_of _ (by decide +kernel)) ggX3_joined_X0_range
set_option maxRecDepth 20000 in
theorem ggX3_joined_X3_over : GoodIn wsX3_joined wsX3_over := goodIn_r _ [47] (by decide +kernel) (by decide +kernel)
set_option maxRecDepth 20000 in
theorem gX3_joined_X3_over : GoodIn wsX3_joined (va_wsS RX3 153 yX3_over wsX3_over) := goodIn_app (goodIn_of _ (by decide +kernel)) ggX3_joined_X3_over
theorem dX3_joined_0 : decode cX3_joined 0 = .ok (.iload_n 1, 1) := by decide +kernel
theorem dX3_joined_1 : decode cX3_joined 1 = .ok (.invokestatic 147, 3) := by decide +kernel
theorem dX3_joined_4 : decode cX3_joined 4 = .ok (.ifCond .eq 21, 3) := by decide +kernel
theorem dX3_joined_7 : decode cX3_joined 7 = .ok (.iload_n 2, 1) := by decide +kernel
theorem dX3_joined_8 : decode cX3_joined 8 = .ok (.invokestatic 72, 3) := by decide +kernel
theorem dX3_joined_11 : decode cX3_joined 11 = .ok (.ifCond .eq 14, 3) := by decide +kernel
theorem dX3_joined_14 : decode cX3_joined 14 = .ok (.aload_n 0, 1) := by decide +kernel
theorem dX3_joined_15 : decode cX3_joined 15 = .ok (.getfield 35, 3) := by decide +kernel
theorem dX3_joined_18 : decode cX3_joined 18 = .ok (.iload_n 3, 1) := by decide +kernel
theorem dX3_joined_19 : decode cX3_joined 19 = .ok (.invokevirtual 136, 3) := by decide +kernel
theorem dX3_joined_22 : decode cX3_joined 22 = .ok (.ifCond .ne 7, 3) := by decide +kernel
theorem dX3_joined_25 : decode cX3_joined 25 = .ok (.ldc2_w 83, 3) := by decide +kernel
theorem dX3_joined_28 : decode cX3_joined 28 = .ok (.dreturn, 1) := by decide +kernel
theorem dX3_joined_29 : decode cX3_joined 29 = .ok (.aload_n 0, 1) := by decide +kernel
theorem dX3_joined_30 : decode cX3_joined 30 = .ok (.getfield 35, 3) := by decide +kernel
theorem dX3_joined_33 : decode cX3_joined 33 = .ok (.iload_n 1, 1) := by decide +kernel
theorem dX3_joined_34 : decode cX3_joined 34 = .ok (.iload_n 2, 1) := by decide +kernel
theorem dX3_joined_35 : decode cX3_joined 35 = .ok (.iload_n 3, 1) := by decide +kernel
theorem dX3_joined_36 : decode cX3_joined 36 = .ok (.invokevirtual 110, 3) := by decide +kernel
theorem dX3_joined_39 : decode cX3_joined 39 = .ok (.l2d, 1) := by decide +kernel
theorem dX3_joined_40 : decode cX3_joined 40 = .ok (.dstore 4, 2) := by decide +kernel
theorem dX3_joined_42 : decode cX3_joined 42 = .ok (.aload_n 0, 1) := by decide +kernel
theorem dX3_joined_43 : decode cX3_joined 43 = .ok (.getfield 35, 3) := by decide +kernel
theorem dX3_joined_46 : decode cX3_joined 46 = .ok (.iload_n 3, 1) := by decide +kernel
theorem dX3_joined_47 : decode cX3_joined 47 = .ok (.iconst 1, 1) := by decide +kernel
theorem dX3_joined_48 : decode cX3_joined 48 = .ok (.iadd, 1) := by decide +kernel
theorem dX3_joined_49 : decode cX3_joined 49 = .ok (.invokevirtual 136, 3) := by decide +kernel
theorem dX3_joined_52 : decode cX3_joined 52 = .ok (.ifCond .ne 6, 3) := by decide +kernel
theorem dX3_joined_55 : decode cX3_joined 55 = .ok (.dload 4, 2) := by decide +kernel
theorem dX3_joined_57 : decode cX3_joined 57 = .ok (.dreturn, 1) := by decide +kernel
theorem dX3_joined_58 : decode cX3_joined 58 = .ok (.aload_n 0, 1) := by decide +kernel
theorem dX3_joined_59 : decode cX3_joined 59 = .ok (.getfield 35, 3) := by decide +kernel
theorem dX3_joined_62 : decode cX3_joined 62 = .ok (.iload_n 1, 1) := by decide +kernel
theorem dX3_joined_63 : decode cX3_joined 63 = .ok (.iload_n 2, 1) := by decide +kernel
theorem dX3_joined_64 : decode cX3_joined 64 = .ok (.iload_n 3, 1) := by decide +kernel
theorem dX3_joined_65 : decode cX3_joined 65 = .ok (.iconst 1, 1) := by decide +kernel
theorem dX3_joined_66 : decode cX3_joined 66 = .ok (.iadd, 1) := by decide +kernel
theorem dX3_joined_67 : decode cX3_joined 67 = .ok (.invokevirtual 110, 3) := by decide +kernel
theorem dX3_joined_70 : decode cX3_joined 70 = .ok (.l2d, 1) := by decide +kernel
theorem dX3_joined_71 : decode cX3_joined 71 = .ok (.dstore 6, 2) := by decide +kernel
theorem dX3_joined_73 : decode cX3_joined 73 = .ok (.aload_n 0, 1) := by decide +kernel
theorem dX3_joined_74 : decode cX3_joined 74 = .ok (.getfield 35, 3) := by decide +kernel
theorem dX3_joined_77 : decode cX3_joined 77 = .ok (.iload_n 3, 1) := by decide +kernel
theorem dX3_joined_78 : decode cX3_joined 78 = .ok (.invokevirtual 150, 3) := by decide +kernel
theorem dX3_joined_81 : decode cX3_joined 81 = .ok (.aload_n 0, 1) := by decide +kernel
theorem dX3_joined_82 : decode cX3_joined 82 = .ok (.getfield 35, 3) := by decide +kernel
theorem dX3_joined_85 : decode cX3_joined 85 = .ok (.iload_n 3, 1) := by decide +kernel
theorem dX3_joined_86 : decode cX3_joined 86 = .ok (.invokevirtual 150, 3) := by decide +kernel
theorem dX3_joined_89 : decode cX3_joined 89 = .ok (.dmul, 1) := by decide +kernel
theorem dX3_joined_90 : decode cX3_joined 90 = .ok (.dstore 8, 2) := by decide +kernel
theorem dX3_joined_92 : decode cX3_joined 92 = .ok (.aload_n 0, 1) := by decide +kernel
theorem dX3_joined_93 : decode cX3_joined 93 = .ok (.getfield 35, 3) := by decide +kernel
theorem dX3_joined_96 : decode cX3_joined 96 = .ok (.iload_n 3, 1) := by decide +kernel
theorem dX3_joined_97 : decode cX3_joined 97 = .ok (.iconst 1, 1) := by decide +kernel
theorem dX3_joined_98 : decode cX3_joined 98 = .ok (.iadd, 1) := by decide +kernel
theorem dX3_joined_99 : decode cX3_joined 99 = .ok (.invokevirtual 150, 3) := by decide +kernel
theorem dX3_joined_102 : decode cX3_joined 102 = .ok (.aload_n 0, 1) := by decide +kernel
theorem dX3_joined_103 : decode cX3_joined 103 = .ok (.getfield 35, 3) := by decide +kernel
theorem dX3_joined_106 : decode cX3_joined 106 = .ok (.iload_n 3, 1) := by decide +kernel
theorem dX3_joined_107 : decode cX3_joined 107 = .ok (.iconst 1, 1) := by decide +kernel
theorem dX3_joined_108 : decode cX3_joined 108 = .ok (.iadd, 1) := by decide +kernel
theorem dX3_joined_109 : decode cX3_joined 109 = .ok (.invokevirtual 150, 3) := by decide +kernel
theorem dX3_joined_112 : decode cX3_joined 112 = .ok (.dmul, 1) := by decide +kernel
theorem dX3_joined_113 : decode cX3_joined 113 = .ok (.dstore 10, 2) := by decide +kernel
theorem dX3_joined_115 : decode cX3_joined 115 = .ok (.dload 4, 2) := by decide +kernel
theorem dX3_joined_117 : decode cX3_joined 117 = .ok (.dload 8, 2) := by decide +kernel
theorem dX3_joined_119 : decode cX3_joined 119 = .ok (.dmul, 1) := by decide +kernel
theorem dX3_joined_120 : decode cX3_joined 120 = .ok (.dload 6, 2) := by decide +kernel
theorem dX3_joined_122 : decode cX3_joined 122 = .ok (.dload 10, 2) := by decide +kernel
theorem dX3_joined_124 : decode cX3_joined 124 = .ok (.dmul, 1) := by decide +kernel
theorem dX3_joined_125 : decode cX3_joined 125 = .ok (.dadd, 1) := by decide +kernel
theorem dX3_joined_126 : decode cX3_joined 126 = .ok (.dload 8, 2) := by decide +kernel
theorem dX3_joined_128 : decode cX3_joined 128 = .ok (.dload 10, 2) := by decide +kernel
theorem dX3_joined_130 : decode cX3_joined 130 = .ok (.dadd, 1) := by decide +kernel
theorem dX3_joined_131 : decode cX3_joined 131 = .ok (.invokestatic 153, 3) := by decide +kernel
theorem dX3_joined_134 : decode cX3_joined 134 = .ok (.dreturn, 1) := by decide +kernel
set_option maxRecDepth 20000 in
theorem ggX3_ball_X3_within : GoodIn wsX3_ball wsX3_within := goodIn_r _ [8] (by decide +kernel) (by decide +kernel)
set_option maxRecDepth 20000 in
theorem gX3_ball_X3_within : GoodIn wsX3_ball (va_wsS RX3 54 yX3_within wsX3_within) := goodIn_app (goodIn_of _ (by decide +kernel)) ggX3_ball_X3_within
set_option maxRecDepth 20000 in
theorem ggX3_ball_X1_put : GoodIn wsX3_ball wsX1_put := goodIn_r _ [13, 14, 15, 16, 17, 18, 19, 12, 20, 28, 29, 30] (by decide +kernel) (by decide +kernel)
set_option maxRecDepth 20000 in
theorem gX3_ball_X1_put : GoodIn wsX3_ball (wsV RX3 132 RX1 yX1_put wsX1_put) := goodIn_app (goodIn_of _ (by decide +kernel)) ggX3_ball_X1_put
theorem dX3_ball_0 : decode cX3_ball 0 = .ok (.dload_n 1, 1) := by decide +kernel
theorem dX3_ball_1 : decode cX3_ball 1 = .ok (.dconst 0, 1) := by decide +kernel
theorem dX3_ball_2 : decode cX3_ball 2 = .ok (.ldc2_w 156, 3) := by decide +kernel
theorem dX3_ball_5 : decode cX3_ball 5 = .ok (.invokestatic 54, 3) := by decide +kernel
theorem dX3_ball_8 : decode cX3_ball 8 = .ok (.ifCond .eq 32, 3) := by decide +kernel
theorem dX3_ball_11 : decode cX3_ball 11 = .ok (.dload_n 3, 1) := by decide +kernel
theorem dX3_ball_12 : decode cX3_ball 12 = .ok (.ldc2_w 158, 3) := by decide +kernel
theorem dX3_ball_15 : decode cX3_ball 15 = .ok (.ldc2_w 52, 3) := by decide +kernel
theorem dX3_ball_18 : decode cX3_ball 18 = .ok (.invokestatic 54, 3) := by decide +kernel
theorem dX3_ball_21 : decode cX3_ball 21 = .ok (.ifCond .eq 19, 3) := by decide +kernel
theorem dX3_ball_24 : decode cX3_ball 24 = .ok (.aload_n 0, 1) := by decide +kernel
theorem dX3_ball_25 : decode cX3_ball 25 = .ok (.getfield 16, 3) := by decide +kernel
theorem dX3_ball_28 : decode cX3_ball 28 = .ok (.dload_n 1, 1) := by decide +kernel
theorem dX3_ball_29 : decode cX3_ball 29 = .ok (.dload_n 3, 1) := by decide +kernel
theorem dX3_ball_30 : decode cX3_ball 30 = .ok (.invokevirtual 132, 3) := by decide +kernel
theorem dX3_ball_33 : decode cX3_ball 33 = .ok (.ifCond .eq 7, 3) := by decide +kernel
theorem dX3_ball_36 : decode cX3_ball 36 = .ok (.iconst 1, 1) := by decide +kernel
theorem dX3_ball_37 : decode cX3_ball 37 = .ok (.goto 4, 3) := by decide +kernel
theorem dX3_ball_40 : decode cX3_ball 40 = .ok (.iconst 0, 1) := by decide +kernel
theorem dX3_ball_41 : decode cX3_ball 41 = .ok (.ireturn, 1) := by decide +kernel
set_option maxRecDepth 20000 in
theorem ggX3_factor_X3_within : GoodIn wsX3_factor wsX3_within := goodIn_r _ [6] (by decide +kernel) (by decide +kernel)
set_option maxRecDepth 20000 in
theorem gX3_factor_X3_within : GoodIn wsX3_factor (va_wsS RX3 54 yX3_within wsX3_within) := goodIn_app (goodIn_of _ (by decide +kernel)) ggX3_factor_X3_within
set_option maxRecDepth 20000 in
theorem ggX3_factor_X1_slopeAt : GoodIn wsX3_factor wsX1_slopeAt := goodIn_r _ [11, 12, 13, 14, 15, 16, 17, 10, 18, 19, 20, 21, 22, 23, 24, 25, 26, 27, 5, 28, 36, 37, 38] (by decide +kernel) (by decide +kernel)
set_option maxRecDepth 20000 in
theorem gX3_factor_X1_slopeAt : GoodIn wsX3_factor (wsV RX3 160 RX1 yX1_slopeAt wsX1_slopeAt) := goodIn_app (goodIn_of _ (by decide +kernel)) ggX3_factor_X1_slopeAt
theorem dX3_factor_0 : decode cX3_factor 0 = .ok (.dload_n 1, 1) := by decide +kernel
theorem dX3_factor_1 : decode cX3_factor 1 = .ok (.dconst 0, 1) := by decide +kernel
theorem dX3_factor_2 : decode cX3_factor 2 = .ok (.ldc2_w 156, 3) := by decide +kernel
theorem dX3_factor_5 : decode cX3_factor 5 = .ok (.invokestatic 54, 3) := by decide +kernel
theorem dX3_factor_8 : decode cX3_factor 8 = .ok (.ifCond .eq 15, 3) := by decide +kernel
theorem dX3_factor_11 : decode cX3_factor 11 = .ok (.aload_n 0, 1) := by decide +kernel
theorem dX3_factor_12 : decode cX3_factor 12 = .ok (.getfield 16, 3) := by decide +kernel
theorem dX3_factor_15 : decode cX3_factor 15 = .ok (.dload_n 1, 1) := by decide +kernel
theorem dX3_factor_16 : decode cX3_factor 16 = .ok (.dconst 1, 1) := by decide +kernel
theorem dX3_factor_17 : decode cX3_factor 17 = .ok (.invokevirtual 160, 3) := by decide +kernel
theorem dX3_factor_20 : decode cX3_factor 20 = .ok (.goto 4, 3) := by decide +kernel
theorem dX3_factor_23 : decode cX3_factor 23 = .ok (.dconst 1, 1) := by decide +kernel
theorem dX3_factor_24 : decode cX3_factor 24 = .ok (.dreturn, 1) := by decide +kernel
set_option maxRecDepth 20000 in
theorem ggX3_tide_X3_isPing : GoodIn wsX3_tide wsX3_isPing := goodIn_r _ [7] (by decide +kernel) (by decide +kernel)
set_option maxRecDepth 20000 in
theorem gX3_tide_X3_isPing : GoodIn wsX3_tide (va_wsS RX3 72 yX3_isPing wsX3_isPing) := goodIn_app (goodIn_of _ (by decide +kernel)) ggX3_tide_X3_isPing
set_option maxRecDepth 20000 in
theorem ggX3_tide_X3_within : GoodIn wsX3_tide wsX3_within := goodIn_r _ [10] (by decide +kernel) (by decide +kernel)
set_option maxRecDepth 20000 in
theorem gX3_tide_X3_within : GoodIn wsX3_tide (va_wsS RX3 54 yX3_within wsX3_within) := goodIn_app (goodIn_of _ (by decide +kernel)) ggX3_tide_X3_within
theorem dX3_tide_0 : decode cX3_tide 0 = .ok (.iload_n 1, 1) := by decide +kernel
theorem dX3_tide_1 : decode cX3_tide 1 = .ok (.invokestatic 72, 3) := by decide +kernel
theorem dX3_tide_4 : decode cX3_tide 4 = .ok (.ifCond .eq 16, 3) := by decide +kernel
theorem dX3_tide_7 : decode cX3_tide 7 = .ok (.dload_n 2, 1) := by decide +kernel
theorem dX3_tide_8 : decode cX3_tide 8 = .ok (.ldc2_w 163, 3) := by decide +kernel
theorem dX3_tide_11 : decode cX3_tide 11 = .ok (.ldc2_w 165, 3) := by decide +kernel
theorem dX3_tide_14 : decode cX3_tide 14 = .ok (.invokestatic 54, 3) := by decide +kernel
theorem dX3_tide_17 : decode cX3_tide 17 = .ok (.ifCond .ne 5, 3) := by decide +kernel
theorem dX3_tide_20 : decode cX3_tide 20 = .ok (.iconst 0, 1) := by decide +kernel
theorem dX3_tide_21 : decode cX3_tide 21 = .ok (.ireturn, 1) := by decide +kernel
theorem dX3_tide_22 : decode cX3_tide 22 = .ok (.aload_n 0, 1) := by decide +kernel
theorem dX3_tide_23 : decode cX3_tide 23 = .ok (.getfield 19, 3) := by decide +kernel
theorem dX3_tide_26 : decode cX3_tide 26 = .ok (.iload_n 1, 1) := by decide +kernel
theorem dX3_tide_27 : decode cX3_tide 27 = .ok (.dload_n 2, 1) := by decide +kernel
theorem dX3_tide_28 : decode cX3_tide 28 = .ok (.dastore, 1) := by decide +kernel
theorem dX3_tide_29 : decode cX3_tide 29 = .ok (.iconst 1, 1) := by decide +kernel
theorem dX3_tide_30 : decode cX3_tide 30 = .ok (.ireturn, 1) := by decide +kernel
set_option maxRecDepth 20000 in
theorem ggX3_tail_X2_isWalked : GoodIn wsX3_tail wsX2_isWalked := goodIn_r _ [7, 8, 9, 10, 11, 78, 79, 80, 81, 82, 83, 84, 85] (by decide +kernel) (by decide +kernel)
set_option maxRecDepth 20000 in
theorem gX3_tail_X2_isWalked : GoodIn wsX3_tail (wsV RX3 116 RX2 yX2_isWalked wsX2_isWalked) := goodIn_app (goodIn_of _ (by decide +kernel)) ggX3_tail_X2_isWalked
set_option maxRecDepth 20000 in
theorem ggX3_tail_X2_strengthsBehind : GoodIn wsX3_tail wsX2_strengthsBehind := goodIn_r _ [15, 16, 17, 18, 19, 20, 6, 21, 22, 9, 10, 11, 23, 24, 25, 26, 27, 28, 29, 30, 31, 32, 33, 34, 35, 36, 37, 38, 39, 40, 41, 42, 43, 44, 45, 46, 47, 48, 49, 50, 51, 52, 53, 54, 55, 56, 57, 58, 59, 60, 61, 62, 63, 64, 65, 66, 67, 68, 69, 70, 78, 79, 80, 81, 82, 83, 84, 85, 86, 87, 88, 89, 90, 91, 92] (by decide +kernel) (by decide +kernel)
set_option maxRecDepth 20000 in
theorem gX3_tail_X2_strengthsBehind : GoodIn wsX3_tail (wsV RX3 167 RX2 yX2_strengthsBehind wsX2_strengthsBehind) := goodIn_app (goodIn_of _ (by decide +kernel)) ggX3_tail_X2_strengthsBehind
theorem dX3_tail_0 : decode cX3_tail 0 = .ok (.aload_n 0, 1) := by decide +kernel
theorem dX3_tail_1 : decode cX3_tail 1 = .ok (.getfield 44, 3) := by decide +kernel
theorem dX3_tail_4 : decode cX3_tail 4 = .ok (.iload_n 1, 1) := by decide +kernel
theorem dX3_tail_5 : decode cX3_tail 5 = .ok (.invokevirtual 116, 3) := by decide +kernel
theorem dX3_tail_8 : decode cX3_tail 8 = .ok (.ifCond .eq 14, 3) := by decide +kernel
theorem dX3_tail_11 : decode cX3_tail 11 = .ok (.aload_n 0, 1) := by decide +kernel
theorem dX3_tail_12 : decode cX3_tail 12 = .ok (.getfield 44, 3) := by decide +kernel
theorem dX3_tail_15 : decode cX3_tail 15 = .ok (.iload_n 1, 1) := by decide +kernel
theorem dX3_tail_16 : decode cX3_tail 16 = .ok (.invokevirtual 167, 3) := by decide +kernel
theorem dX3_tail_19 : decode cX3_tail 19 = .ok (.goto 6, 3) := by decide +kernel
theorem dX3_tail_22 : decode cX3_tail 22 = .ok (.ldc2_w 83, 3) := by decide +kernel
theorem dX3_tail_25 : decode cX3_tail 25 = .ok (.dreturn, 1) := by decide +kernel
set_option maxRecDepth 20000 in
theorem ggX3_map_X3_within : GoodIn wsX3_map wsX3_within := goodIn_r _ [8] (by decide +kernel) (by decide +kernel)
set_option maxRecDepth 20000 in
theorem gX3_map_X3_within : GoodIn wsX3_map (va_wsS RX3 54 yX3_within wsX3_within) := goodIn_app (goodIn_of _ (by decide +kernel)) ggX3_map_X3_within
set_option maxRecDepth 20000 in
theorem ggX3_map_X2_hasBottom : GoodIn wsX3_map wsX2_hasBottom := goodIn_r _ [13, 14, 15, 16, 12, 17, 18, 19, 7, 20, 21, 22, 23, 24, 25, 26, 27, 28, 70, 71, 72, 73, 74, 75, 76, 77] (by decide +kernel) (by decide +kernel)
set_option maxRecDepth 20000 in
theorem gX3_map_X2_hasBottom : GoodIn wsX3_map (wsV RX3 76 RX2 yX2_hasBottom wsX2_hasBottom) := goodIn_app (goodIn_of _ (by decide +kernel)) ggX3_map_X2_hasBottom
set_option maxRecDepth 20000 in
theorem ggX3_map_X3_over : GoodIn wsX3_map wsX3_over := goodIn_r _ [31] (by decide +kernel) (by decide +kernel)
set_option maxRecDepth 20000 in
theorem gX3_map_X3_over : GoodIn wsX3_map (va_wsS RX3 153 yX3_over wsX3_over) := goodIn_app (goodIn_of _ (by decide +kernel)) ggX3_map_X3_over
set_option maxRecDepth 20000 in
theorem ggX3_map_X3_bottom : GoodIn wsX3_map wsX3_bottom := goodIn_r _ [35, 4, 36, 3, 37, 19, 7, 20, 9, 10, 11, 12, 13, 14, 15, 16, 17, 18, 21, 22, 23, 24, 25, 26, 27, 28, 38, 39, 40, 41, 42, 43, 44, 45, 46, 47, 48, 49, 50, 51, 52, 53, 54, 55, 56, 57, 58, 59, 60, 61, 62, 30, 31, 63, 64, 65, 66, 67, 68, 69, 70, 71, 72, 73, 74, 75, 76, 77, 78, 79, 80, 81, 82, 83, 84] (by decide +kernel) (by decide +kernel)
set_option maxRecDepth 20000 in
theorem gX3_map_X3_bottom : GoodIn wsX3_map (wsV RX3 174 RX3 yX3_bottom wsX3_bottom) := goodIn_app (goodIn_of _ (by decide +kernel)) ggX3_map_X3_bottom
theorem dX3_map_0 : decode cX3_map 0 = .ok (.dload_n 1, 1) := by decide +kernel
theorem dX3_map_1 : decode cX3_map 1 = .ok (.ldc2_w 170, 3) := by decide +kernel
theorem dX3_map_4 : decode cX3_map 4 = .ok (.ldc2_w 172, 3) := by decide +kernel
theorem dX3_map_7 : decode cX3_map 7 = .ok (.invokestatic 54, 3) := by decide +kernel
theorem dX3_map_10 : decode cX3_map 10 = .ok (.ifCond .eq 16, 3) := by decide +kernel
theorem dX3_map_13 : decode cX3_map 13 = .ok (.dload_n 3, 1) := by decide +kernel
theorem dX3_map_14 : decode cX3_map 14 = .ok (.ldc2_w 170, 3) := by decide +kernel
theorem dX3_map_17 : decode cX3_map 17 = .ok (.ldc2_w 172, 3) := by decide +kernel
theorem dX3_map_20 : decode cX3_map 20 = .ok (.invokestatic 54, 3) := by decide +kernel
theorem dX3_map_23 : decode cX3_map 23 = .ok (.ifCond .ne 7, 3) := by decide +kernel
theorem dX3_map_26 : decode cX3_map 26 = .ok (.ldc2_w 83, 3) := by decide +kernel
theorem dX3_map_29 : decode cX3_map 29 = .ok (.dreturn, 1) := by decide +kernel
theorem dX3_map_30 : decode cX3_map 30 = .ok (.dconst 0, 1) := by decide +kernel
theorem dX3_map_31 : decode cX3_map 31 = .ok (.dstore 5, 2) := by decide +kernel
theorem dX3_map_33 : decode cX3_map 33 = .ok (.dconst 0, 1) := by decide +kernel
theorem dX3_map_34 : decode cX3_map 34 = .ok (.dstore 7, 2) := by decide +kernel
theorem dX3_map_36 : decode cX3_map 36 = .ok (.iconst 0, 1) := by decide +kernel
theorem dX3_map_37 : decode cX3_map 37 = .ok (.istore 9, 2) := by decide +kernel
theorem dX3_map_39 : decode cX3_map 39 = .ok (.iload 9, 2) := by decide +kernel
theorem dX3_map_41 : decode cX3_map 41 = .ok (.bipush 32, 2) := by decide +kernel
theorem dX3_map_43 : decode cX3_map 43 = .ok (.if_icmp .ge 65, 3) := by decide +kernel
theorem dX3_map_46 : decode cX3_map 46 = .ok (.aload_n 0, 1) := by decide +kernel
theorem dX3_map_47 : decode cX3_map 47 = .ok (.getfield 44, 3) := by decide +kernel
theorem dX3_map_50 : decode cX3_map 50 = .ok (.iload 9, 2) := by decide +kernel
theorem dX3_map_52 : decode cX3_map 52 = .ok (.invokevirtual 76, 3) := by decide +kernel
theorem dX3_map_55 : decode cX3_map 55 = .ok (.ifCond .eq 47, 3) := by decide +kernel
theorem dX3_map_58 : decode cX3_map 58 = .ok (.dconst 1, 1) := by decide +kernel
theorem dX3_map_59 : decode cX3_map 59 = .ok (.dconst 1, 1) := by decide +kernel
theorem dX3_map_60 : decode cX3_map 60 = .ok (.dload_n 1, 1) := by decide +kernel
theorem dX3_map_61 : decode cX3_map 61 = .ok (.iload 9, 2) := by decide +kernel
theorem dX3_map_63 : decode cX3_map 63 = .ok (.i2d, 1) := by decide +kernel
theorem dX3_map_64 : decode cX3_map 64 = .ok (.dsub, 1) := by decide +kernel
theorem dX3_map_65 : decode cX3_map 65 = .ok (.dload_n 1, 1) := by decide +kernel
theorem dX3_map_66 : decode cX3_map 66 = .ok (.iload 9, 2) := by decide +kernel
theorem dX3_map_68 : decode cX3_map 68 = .ok (.i2d, 1) := by decide +kernel
theorem dX3_map_69 : decode cX3_map 69 = .ok (.dsub, 1) := by decide +kernel
theorem dX3_map_70 : decode cX3_map 70 = .ok (.dmul, 1) := by decide +kernel
theorem dX3_map_71 : decode cX3_map 71 = .ok (.dadd, 1) := by decide +kernel
theorem dX3_map_72 : decode cX3_map 72 = .ok (.dload_n 3, 1) := by decide +kernel
theorem dX3_map_73 : decode cX3_map 73 = .ok (.dload_n 3, 1) := by decide +kernel
theorem dX3_map_74 : decode cX3_map 74 = .ok (.dmul, 1) := by decide +kernel
theorem dX3_map_75 : decode cX3_map 75 = .ok (.dadd, 1) := by decide +kernel
theorem dX3_map_76 : decode cX3_map 76 = .ok (.invokestatic 153, 3) := by decide +kernel
theorem dX3_map_79 : decode cX3_map 79 = .ok (.dstore 10, 2) := by decide +kernel
theorem dX3_map_81 : decode cX3_map 81 = .ok (.dload 5, 2) := by decide +kernel
theorem dX3_map_83 : decode cX3_map 83 = .ok (.dload 10, 2) := by decide +kernel
theorem dX3_map_85 : decode cX3_map 85 = .ok (.aload_n 0, 1) := by decide +kernel
theorem dX3_map_86 : decode cX3_map 86 = .ok (.iload 9, 2) := by decide +kernel
theorem dX3_map_88 : decode cX3_map 88 = .ok (.invokevirtual 174, 3) := by decide +kernel
theorem dX3_map_91 : decode cX3_map 91 = .ok (.dmul, 1) := by decide +kernel
theorem dX3_map_92 : decode cX3_map 92 = .ok (.dadd, 1) := by decide +kernel
theorem dX3_map_93 : decode cX3_map 93 = .ok (.dstore 5, 2) := by decide +kernel
theorem dX3_map_95 : decode cX3_map 95 = .ok (.dload 7, 2) := by decide +kernel
theorem dX3_map_97 : decode cX3_map 97 = .ok (.dload 10, 2) := by decide +kernel
theorem dX3_map_99 : decode cX3_map 99 = .ok (.dadd, 1) := by decide +kernel
theorem dX3_map_100 : decode cX3_map 100 = .ok (.dstore 7, 2) := by decide +kernel
theorem dX3_map_102 : decode cX3_map 102 = .ok (.iinc 9 1, 3) := by decide +kernel
theorem dX3_map_105 : decode cX3_map 105 = .ok (.goto (-66), 3) := by decide +kernel
theorem dX3_map_108 : decode cX3_map 108 = .ok (.dload 7, 2) := by decide +kernel
theorem dX3_map_110 : decode cX3_map 110 = .ok (.dconst 0, 1) := by decide +kernel
theorem dX3_map_111 : decode cX3_map 111 = .ok (.dcmp .l, 1) := by decide +kernel
theorem dX3_map_112 : decode cX3_map 112 = .ok (.ifCond .le 13, 3) := by decide +kernel
theorem dX3_map_115 : decode cX3_map 115 = .ok (.dload 5, 2) := by decide +kernel
theorem dX3_map_117 : decode cX3_map 117 = .ok (.dload 7, 2) := by decide +kernel
theorem dX3_map_119 : decode cX3_map 119 = .ok (.invokestatic 153, 3) := by decide +kernel
theorem dX3_map_122 : decode cX3_map 122 = .ok (.goto 6, 3) := by decide +kernel
theorem dX3_map_125 : decode cX3_map 125 = .ok (.ldc2_w 83, 3) := by decide +kernel
theorem dX3_map_128 : decode cX3_map 128 = .ok (.dreturn, 1) := by decide +kernel
set_option maxRecDepth 20000 in
theorem ggX3_turned_X3_isPing : GoodIn wsX3_turned wsX3_isPing := goodIn_r _ [7] (by decide +kernel) (by decide +kernel)
set_option maxRecDepth 20000 in
theorem gX3_turned_X3_isPing : GoodIn wsX3_turned (va_wsS RX3 72 yX3_isPing wsX3_isPing) := goodIn_app (goodIn_of _ (by decide +kernel)) ggX3_turned_X3_isPing
set_option maxRecDepth 20000 in
theorem ggX3_turned_X3_within : GoodIn wsX3_turned wsX3_within := goodIn_r _ [10] (by decide +kernel) (by decide +kernel)
set_option maxRecDepth 20000 in
theorem gX3_turned_X3_within : GoodIn wsX3_turned (va_wsS RX3 54 yX3_within wsX3_within) := goodIn_app (goodIn_of _ (by decide +kernel)) ggX3_turned_X3_within
theorem dX3_turned_0 : decode cX3_turned 0 = .ok (.iload_n 1, 1) := by decide +kernel
theorem dX3_turned_1 : decode cX3_turned 1 = .ok (.invokestatic 72, 3) := by decide +kernel
theorem dX3_turned_4 : decode cX3_turned 4 = .ok (.ifCond .eq 16, 3) := by decide +kernel
theorem dX3_turned_7 : decode cX3_turned 7 = .ok (.dload_n 2, 1) := by decide +kernel
theorem dX3_turned_8 : decode cX3_turned 8 = .ok (.ldc2_w 177, 3) := by decide +kernel
theorem dX3_turned_11 : decode cX3_turned 11 = .ok (.ldc2_w 179, 3) := by decide +kernel
theorem dX3_turned_14 : decode cX3_turned 14 = .ok (.invokestatic 54, 3) := by decide +kernel
theorem dX3_turned_17 : decode cX3_turned 17 = .ok (.ifCond .ne 5, 3) := by decide +kernel
theorem dX3_turned_20 : decode cX3_turned 20 = .ok (.iconst 0, 1) := by decide +kernel
theorem dX3_turned_21 : decode cX3_turned 21 = .ok (.ireturn, 1) := by decide +kernel
theorem dX3_turned_22 : decode cX3_turned 22 = .ok (.aload_n 0, 1) := by decide +kernel
theorem dX3_turned_23 : decode cX3_turned 23 = .ok (.getfield 23, 3) := by decide +kernel
theorem dX3_turned_26 : decode cX3_turned 26 = .ok (.iload_n 1, 1) := by decide +kernel
theorem dX3_turned_27 : decode cX3_turned 27 = .ok (.dload_n 2, 1) := by decide +kernel
theorem dX3_turned_28 : decode cX3_turned 28 = .ok (.dastore, 1) := by decide +kernel
theorem dX3_turned_29 : decode cX3_turned 29 = .ok (.iconst 1, 1) := by decide +kernel
theorem dX3_turned_30 : decode cX3_turned 30 = .ok (.ireturn, 1) := by decide +kernel
set_option maxRecDepth 20000 in
theorem ggX3_empty_X0_isSilent : GoodIn wsX3_empty wsX0_isSilent := goodIn_r _ [7, 8, 9, 10, 11, 12, 6, 13, 14, 15, 16, 17, 18, 19, 20, 21, 22, 30, 31, 32, 33, 34, 35, 36] (by decide +kernel) (by decide +kernel)
set_option maxRecDepth 20000 in
theorem gX3_empty_X0_isSilent : GoodIn wsX3_empty (wsV RX3 181 RX0 yX0_isSilent wsX0_isSilent) := goodIn_app (goodIn_of _ (by decide +kernel)) ggX3_empty_X0_isSilent
theorem dX3_empty_0 : decode cX3_empty 0 = .ok (.aload_n 0, 1) := by decide +kernel
theorem dX3_empty_1 : decode cX3_empty 1 = .ok (.getfield 35, 3) := by decide +kernel
theorem dX3_empty_4 : decode cX3_empty 4 = .ok (.aload_n 0, 1) := by decide +kernel
theorem dX3_empty_5 : decode cX3_empty 5 = .ok (.getfield 26, 3) := by decide +kernel
theorem dX3_empty_8 : decode cX3_empty 8 = .ok (.iload_n 1, 1) := by decide +kernel
theorem dX3_empty_9 : decode cX3_empty 9 = .ok (.invokevirtual 181, 3) := by decide +kernel
theorem dX3_empty_12 : decode cX3_empty 12 = .ok (.ireturn, 1) := by decide +kernel
theorem dX3_isPing_0 : decode cX3_isPing 0 = .ok (.iload_n 0, 1) := by decide +kernel
theorem dX3_isPing_1 : decode cX3_isPing 1 = .ok (.ifCond .lt 13, 3) := by decide +kernel
theorem dX3_isPing_4 : decode cX3_isPing 4 = .ok (.iload_n 0, 1) := by decide +kernel
theorem dX3_isPing_5 : decode cX3_isPing 5 = .ok (.bipush 32, 2) := by decide +kernel
theorem dX3_isPing_7 : decode cX3_isPing 7 = .ok (.if_icmp .ge 7, 3) := by decide +kernel
theorem dX3_isPing_10 : decode cX3_isPing 10 = .ok (.iconst 1, 1) := by decide +kernel
theorem dX3_isPing_11 : decode cX3_isPing 11 = .ok (.goto 4, 3) := by decide +kernel
theorem dX3_isPing_14 : decode cX3_isPing 14 = .ok (.iconst 0, 1) := by decide +kernel
theorem dX3_isPing_15 : decode cX3_isPing 15 = .ok (.ireturn, 1) := by decide +kernel
theorem dX3_isFrequency_0 : decode cX3_isFrequency 0 = .ok (.iload_n 0, 1) := by decide +kernel
theorem dX3_isFrequency_1 : decode cX3_isFrequency 1 = .ok (.ifCond .lt 12, 3) := by decide +kernel
theorem dX3_isFrequency_4 : decode cX3_isFrequency 4 = .ok (.iload_n 0, 1) := by decide +kernel
theorem dX3_isFrequency_5 : decode cX3_isFrequency 5 = .ok (.iconst 4, 1) := by decide +kernel
theorem dX3_isFrequency_6 : decode cX3_isFrequency 6 = .ok (.if_icmp .ge 7, 3) := by decide +kernel
theorem dX3_isFrequency_9 : decode cX3_isFrequency 9 = .ok (.iconst 1, 1) := by decide +kernel
theorem dX3_isFrequency_10 : decode cX3_isFrequency 10 = .ok (.goto 4, 3) := by decide +kernel
theorem dX3_isFrequency_13 : decode cX3_isFrequency 13 = .ok (.iconst 0, 1) := by decide +kernel
theorem dX3_isFrequency_14 : decode cX3_isFrequency 14 = .ok (.ireturn, 1) := by decide +kernel
theorem dX3_within_0 : decode cX3_within 0 = .ok (.dload_n 0, 1) := by decide +kernel
theorem dX3_within_1 : decode cX3_within 1 = .ok (.dload_n 2, 1) := by decide +kernel
theorem dX3_within_2 : decode cX3_within 2 = .ok (.dcmp .l, 1) := by decide +kernel
theorem dX3_within_3 : decode cX3_within 3 = .ok (.ifCond .lt 14, 3) := by decide +kernel
theorem dX3_within_6 : decode cX3_within 6 = .ok (.dload_n 0, 1) := by decide +kernel
theorem dX3_within_7 : decode cX3_within 7 = .ok (.dload 4, 2) := by decide +kernel
theorem dX3_within_9 : decode cX3_within 9 = .ok (.dcmp .g, 1) := by decide +kernel
theorem dX3_within_10 : decode cX3_within 10 = .ok (.ifCond .gt 7, 3) := by decide +kernel
theorem dX3_within_13 : decode cX3_within 13 = .ok (.iconst 1, 1) := by decide +kernel
theorem dX3_within_14 : decode cX3_within 14 = .ok (.goto 4, 3) := by decide +kernel
theorem dX3_within_17 : decode cX3_within 17 = .ok (.iconst 0, 1) := by decide +kernel
theorem dX3_within_18 : decode cX3_within 18 = .ok (.ireturn, 1) := by decide +kernel
theorem dX3_over_0 : decode cX3_over 0 = .ok (.dload_n 2, 1) := by decide +kernel
theorem dX3_over_1 : decode cX3_over 1 = .ok (.dconst 0, 1) := by decide +kernel
theorem dX3_over_2 : decode cX3_over 2 = .ok (.dcmp .l, 1) := by decide +kernel
theorem dX3_over_3 : decode cX3_over 3 = .ok (.ifCond .le 9, 3) := by decide +kernel
theorem dX3_over_6 : decode cX3_over 6 = .ok (.dload_n 0, 1) := by decide +kernel
theorem dX3_over_7 : decode cX3_over 7 = .ok (.dload_n 2, 1) := by decide +kernel
theorem dX3_over_8 : decode cX3_over 8 = .ok (.ddiv, 1) := by decide +kernel
theorem dX3_over_9 : decode cX3_over 9 = .ok (.goto 4, 3) := by decide +kernel
theorem dX3_over_12 : decode cX3_over 12 = .ok (.dconst 0, 1) := by decide +kernel
theorem dX3_over_13 : decode cX3_over 13 = .ok (.dreturn, 1) := by decide +kernel

theorem dX9_leftAt_10 : decode cX9_leftAt 10 = .ok (.istore_n 2, 1) := by decide +kernel
theorem dX9_leftAt_11 : decode cX9_leftAt 11 = .ok (.aload_n 0, 1) := by decide +kernel
theorem dX9_leftAt_12 : decode cX9_leftAt 12 = .ok (.getfield 25, 3) := by decide +kernel
theorem dX9_leftAt_15 : decode cX9_leftAt 15 = .ok (.iload_n 1, 1) := by decide +kernel
theorem dX9_leftAt_16 : decode cX9_leftAt 16 = .ok (.invokestatic 178, 3) := by decide +kernel
theorem dX9_leftAt_19 : decode cX9_leftAt 19 = .ok (.invokestatic 181, 3) := by decide +kernel
theorem dX9_leftAt_22 : decode cX9_leftAt 22 = .ok (.ireturn, 1) := by decide +kernel
theorem dX9_keep_0 : decode cX9_keep 0 = .ok (.aload_n 0, 1) := by decide +kernel
theorem dX9_keep_1 : decode cX9_keep 1 = .ok (.getfield 146, 3) := by decide +kernel
theorem dX9_keep_4 : decode cX9_keep 4 = .ok (.bipush 24, 2) := by decide +kernel
theorem dX9_keep_6 : decode cX9_keep 6 = .ok (.if_icmp .ne 43, 3) := by decide +kernel
theorem dX9_keep_9 : decode cX9_keep 9 = .ok (.iconst 0, 1) := by decide +kernel
theorem dX9_keep_10 : decode cX9_keep 10 = .ok (.istore_n 1, 1) := by decide +kernel
theorem dX9_keep_11 : decode cX9_keep 11 = .ok (.iload_n 1, 1) := by decide +kernel
theorem dX9_keep_12 : decode cX9_keep 12 = .ok (.sipush 897, 3) := by decide +kernel
theorem dX9_keep_15 : decode cX9_keep 15 = .ok (.if_icmp .ge 24, 3) := by decide +kernel
theorem dX9_keep_18 : decode cX9_keep 18 = .ok (.aload_n 0, 1) := by decide +kernel
theorem dX9_keep_19 : decode cX9_keep 19 = .ok (.getfield 28, 3) := by decide +kernel
theorem dX9_keep_22 : decode cX9_keep 22 = .ok (.iload_n 1, 1) := by decide +kernel
theorem dX9_keep_23 : decode cX9_keep 23 = .ok (.aload_n 0, 1) := by decide +kernel
theorem dX9_keep_24 : decode cX9_keep 24 = .ok (.getfield 28, 3) := by decide +kernel
theorem dX9_keep_27 : decode cX9_keep 27 = .ok (.iload_n 1, 1) := by decide +kernel
theorem dX9_keep_28 : decode cX9_keep 28 = .ok (.bipush 39, 2) := by decide +kernel
theorem dX9_keep_30 : decode cX9_keep 30 = .ok (.iadd, 1) := by decide +kernel
theorem dX9_keep_31 : decode cX9_keep 31 = .ok (.iaload, 1) := by decide +kernel
theorem dX9_keep_32 : decode cX9_keep 32 = .ok (.iastore, 1) := by decide +kernel
theorem dX9_keep_33 : decode cX9_keep 33 = .ok (.iinc 1 1, 3) := by decide +kernel
theorem dX9_keep_36 : decode cX9_keep 36 = .ok (.goto (-25), 3) := by decide +kernel
theorem dX9_keep_39 : decode cX9_keep 39 = .ok (.aload_n 0, 1) := by decide +kernel
theorem dX9_keep_40 : decode cX9_keep 40 = .ok (.dup, 1) := by decide +kernel
theorem dX9_keep_41 : decode cX9_keep 41 = .ok (.getfield 146, 3) := by decide +kernel
theorem dX9_keep_44 : decode cX9_keep 44 = .ok (.iconst 1, 1) := by decide +kernel
theorem dX9_keep_45 : decode cX9_keep 45 = .ok (.isub, 1) := by decide +kernel
theorem dX9_keep_46 : decode cX9_keep 46 = .ok (.putfield 146, 3) := by decide +kernel
theorem dX9_keep_49 : decode cX9_keep 49 = .ok (.iconst 0, 1) := by decide +kernel
theorem dX9_keep_50 : decode cX9_keep 50 = .ok (.istore_n 1, 1) := by decide +kernel
theorem dX9_keep_51 : decode cX9_keep 51 = .ok (.iload_n 1, 1) := by decide +kernel
theorem dX9_keep_52 : decode cX9_keep 52 = .ok (.bipush 39, 2) := by decide +kernel
theorem dX9_keep_54 : decode cX9_keep 54 = .ok (.if_icmp .ge 29, 3) := by decide +kernel
theorem dX9_keep_57 : decode cX9_keep 57 = .ok (.aload_n 0, 1) := by decide +kernel
theorem dX9_keep_58 : decode cX9_keep 58 = .ok (.getfield 28, 3) := by decide +kernel
theorem dX9_keep_61 : decode cX9_keep 61 = .ok (.bipush 39, 2) := by decide +kernel
theorem dX9_keep_63 : decode cX9_keep 63 = .ok (.aload_n 0, 1) := by decide +kernel
theorem dX9_keep_64 : decode cX9_keep 64 = .ok (.getfield 146, 3) := by decide +kernel
theorem dX9_keep_67 : decode cX9_keep 67 = .ok (.imul, 1) := by decide +kernel
theorem dX9_keep_68 : decode cX9_keep 68 = .ok (.iload_n 1, 1) := by decide +kernel
theorem dX9_keep_69 : decode cX9_keep 69 = .ok (.iadd, 1) := by decide +kernel
theorem dX9_keep_70 : decode cX9_keep 70 = .ok (.aload_n 0, 1) := by decide +kernel
theorem dX9_keep_71 : decode cX9_keep 71 = .ok (.getfield 19, 3) := by decide +kernel
theorem dX9_keep_74 : decode cX9_keep 74 = .ok (.iload_n 1, 1) := by decide +kernel
theorem dX9_keep_75 : decode cX9_keep 75 = .ok (.iaload, 1) := by decide +kernel
theorem dX9_keep_76 : decode cX9_keep 76 = .ok (.iastore, 1) := by decide +kernel
theorem dX9_keep_77 : decode cX9_keep 77 = .ok (.iinc 1 1, 3) := by decide +kernel
theorem dX9_keep_80 : decode cX9_keep 80 = .ok (.goto (-29), 3) := by decide +kernel
theorem dX9_keep_83 : decode cX9_keep 83 = .ok (.aload_n 0, 1) := by decide +kernel
theorem dX9_keep_84 : decode cX9_keep 84 = .ok (.dup, 1) := by decide +kernel
theorem dX9_keep_85 : decode cX9_keep 85 = .ok (.getfield 146, 3) := by decide +kernel
theorem dX9_keep_88 : decode cX9_keep 88 = .ok (.iconst 1, 1) := by decide +kernel
theorem dX9_keep_89 : decode cX9_keep 89 = .ok (.iadd, 1) := by decide +kernel
theorem dX9_keep_90 : decode cX9_keep 90 = .ok (.putfield 146, 3) := by decide +kernel
theorem dX9_keep_93 : decode cX9_keep 93 = .ok (.return_, 1) := by decide +kernel
set_option maxRecDepth 20000 in
theorem ggX9_steps_X9_isThere : GoodIn wsX9_steps wsX9_isThere := goodIn_r _ [11, 5, 45, 46, 47, 48, 49, 50, 51, 52, 53, 54, 55, 56, 57, 58, 59, 60, 61, 62, 63, 64, 65, 66, 67, 68] (by decide +kernel) (by decide +kernel)
set_option maxRecDepth 20000 in
theorem gX9_steps_X9_isThere : GoodIn wsX9_steps (wsV RX9 184 RX9 yX9_isThere wsX9_isThere) := goodIn_app (goodIn_of _ (by decide +kernel)) ggX9_steps_X9_isThere
set_option maxRecDepth 20000 in
theorem ggX9_steps_X9_in : GoodIn wsX9_steps wsX9_in := goodIn_r _ [14] (by decide +kernel) (by decide +kernel)
set_option maxRecDepth 20000 in
theorem gX9_steps_X9_in : GoodIn wsX9_steps (va_wsS RX9 57 yX9_in wsX9_in) := goodIn_app (goodIn_of _ (by decide +kernel)) ggX9_steps_X9_in
set_option maxRecDepth 20000 in
theorem ggX9_steps_X9_keep : GoodIn wsX9_steps wsX9_keep := goodIn_r _ [18, 19, 20, 5, 45, 46, 47, 48, 49, 50, 51, 52, 53, 54, 55, 56, 57, 58, 59, 60, 61, 62, 63, 64, 65, 66, 67, 68] (by decide +kernel) (by decide +kernel)
set_option maxRecDepth 20000 in
theorem gX9_steps_X9_keep : GoodIn wsX9_steps (wsV RX9 190 RX9 yX9_keep wsX9_keep) := goodIn_app (goodIn_of _ (by decide +kernel)) ggX9_steps_X9_keep
set_option maxRecDepth 20000 in
theorem ggX9_steps_X9_step : GoodIn wsX9_steps wsX9_step := goodIn_r _ [24, 25, 26, 27, 28, 10, 29, 30, 31, 32, 33, 34, 35, 36, 37, 38, 39, 40, 41, 42, 43, 44, 45, 46, 47, 48, 49, 50, 51, 52, 53, 54, 55, 56, 57, 58, 59, 60, 61, 62, 63, 64, 65, 66, 67, 68] (by decide +kernel) (by decide +kernel)
set_option maxRecDepth 20000 in
theorem gX9_steps_X9_step : GoodIn wsX9_steps (wsV RX9 171 RX9 yX9_step wsX9_step) := goodIn_app (goodIn_of _ (by decide +kernel)) ggX9_steps_X9_step
theorem dX9_steps_0 : decode cX9_steps 0 = .ok (.aload_n 0, 1) := by decide +kernel
theorem dX9_steps_1 : decode cX9_steps 1 = .ok (.iconst 0, 1) := by decide +kernel
theorem dX9_steps_2 : decode cX9_steps 2 = .ok (.putfield 47, 3) := by decide +kernel
theorem dX9_steps_5 : decode cX9_steps 5 = .ok (.aload_n 0, 1) := by decide +kernel
theorem dX9_steps_6 : decode cX9_steps 6 = .ok (.invokevirtual 184, 3) := by decide +kernel
theorem dX9_steps_9 : decode cX9_steps 9 = .ok (.ifCond .ne 6, 3) := by decide +kernel
theorem dX9_steps_12 : decode cX9_steps 12 = .ok (.ldc 187, 2) := by decide +kernel
theorem dX9_steps_14 : decode cX9_steps 14 = .ok (.ireturn, 1) := by decide +kernel
theorem dX9_steps_15 : decode cX9_steps 15 = .ok (.iload_n 1, 1) := by decide +kernel
theorem dX9_steps_16 : decode cX9_steps 16 = .ok (.i2l, 1) := by decide +kernel
theorem dX9_steps_17 : decode cX9_steps 17 = .ok (.lconst 1, 1) := by decide +kernel
theorem dX9_steps_18 : decode cX9_steps 18 = .ok (.ldc2_w 188, 3) := by decide +kernel
theorem dX9_steps_21 : decode cX9_steps 21 = .ok (.invokestatic 57, 3) := by decide +kernel
theorem dX9_steps_24 : decode cX9_steps 24 = .ok (.ifCond .ne 6, 3) := by decide +kernel
theorem dX9_steps_27 : decode cX9_steps 27 = .ok (.ldc 67, 2) := by decide +kernel
theorem dX9_steps_29 : decode cX9_steps 29 = .ok (.ireturn, 1) := by decide +kernel
theorem dX9_steps_30 : decode cX9_steps 30 = .ok (.aload_n 0, 1) := by decide +kernel
theorem dX9_steps_31 : decode cX9_steps 31 = .ok (.getfield 19, 3) := by decide +kernel
theorem dX9_steps_34 : decode cX9_steps 34 = .ok (.iconst 3, 1) := by decide +kernel
theorem dX9_steps_35 : decode cX9_steps 35 = .ok (.iaload, 1) := by decide +kernel
theorem dX9_steps_36 : decode cX9_steps 36 = .ok (.iload_n 1, 1) := by decide +kernel
theorem dX9_steps_37 : decode cX9_steps 37 = .ok (.iadd, 1) := by decide +kernel
theorem dX9_steps_38 : decode cX9_steps 38 = .ok (.sipush 999, 3) := by decide +kernel
theorem dX9_steps_41 : decode cX9_steps 41 = .ok (.if_icmp .le 6, 3) := by decide +kernel
theorem dX9_steps_44 : decode cX9_steps 44 = .ok (.ldc 77, 2) := by decide +kernel
theorem dX9_steps_46 : decode cX9_steps 46 = .ok (.ireturn, 1) := by decide +kernel
theorem dX9_steps_47 : decode cX9_steps 47 = .ok (.iconst 0, 1) := by decide +kernel
theorem dX9_steps_48 : decode cX9_steps 48 = .ok (.istore_n 2, 1) := by decide +kernel
theorem dX9_steps_49 : decode cX9_steps 49 = .ok (.iconst 0, 1) := by decide +kernel
theorem dX9_steps_50 : decode cX9_steps 50 = .ok (.istore_n 3, 1) := by decide +kernel
theorem dX9_steps_51 : decode cX9_steps 51 = .ok (.iload_n 3, 1) := by decide +kernel
theorem dX9_steps_52 : decode cX9_steps 52 = .ok (.iload_n 1, 1) := by decide +kernel
theorem dX9_steps_53 : decode cX9_steps 53 = .ok (.if_icmp .ge 24, 3) := by decide +kernel
theorem dX9_steps_56 : decode cX9_steps 56 = .ok (.aload_n 0, 1) := by decide +kernel
theorem dX9_steps_57 : decode cX9_steps 57 = .ok (.invokevirtual 190, 3) := by decide +kernel
theorem dX9_steps_60 : decode cX9_steps 60 = .ok (.iload_n 2, 1) := by decide +kernel
theorem dX9_steps_61 : decode cX9_steps 61 = .ok (.aload_n 0, 1) := by decide +kernel
theorem dX9_steps_62 : decode cX9_steps 62 = .ok (.aload_n 0, 1) := by decide +kernel
theorem dX9_steps_63 : decode cX9_steps 63 = .ok (.getfield 19, 3) := by decide +kernel
theorem dX9_steps_66 : decode cX9_steps 66 = .ok (.invokevirtual 171, 3) := by decide +kernel
theorem dX9_steps_69 : decode cX9_steps 69 = .ok (.iadd, 1) := by decide +kernel
theorem dX9_steps_70 : decode cX9_steps 70 = .ok (.istore_n 2, 1) := by decide +kernel
theorem dX9_steps_71 : decode cX9_steps 71 = .ok (.iinc 3 1, 3) := by decide +kernel
theorem dX9_steps_74 : decode cX9_steps 74 = .ok (.goto (-23), 3) := by decide +kernel
theorem dX9_steps_77 : decode cX9_steps 77 = .ok (.iload_n 2, 1) := by decide +kernel
theorem dX9_steps_78 : decode cX9_steps 78 = .ok (.ireturn, 1) := by decide +kernel
set_option maxRecDepth 20000 in
theorem ggX9_come_X9_isPerson : GoodIn wsX9_come wsX9_isPerson := goodIn_r _ [10, 3, 11, 12, 9, 13, 27, 28, 29, 30, 31, 32, 33, 34, 35, 36, 37, 38, 39, 40, 41, 42, 43, 44, 45, 46, 47, 48, 49, 50] (by decide +kernel) (by decide +kernel)
set_option maxRecDepth 20000 in
theorem gX9_come_X9_isPerson : GoodIn wsX9_come (wsV RX9 193 RX9 yX9_isPerson wsX9_isPerson) := goodIn_app (goodIn_of _ (by decide +kernel)) ggX9_come_X9_isPerson
set_option maxRecDepth 20000 in
theorem ggX9_come_X9_isDoor : GoodIn wsX9_come wsX9_isDoor := goodIn_r _ [17, 3, 11, 12, 9, 13, 27, 28, 29, 30, 31, 32, 33, 34, 35, 36, 37, 38, 39, 40, 41, 42, 43, 44, 45, 46, 47, 48, 49, 50] (by decide +kernel) (by decide +kernel)
set_option maxRecDepth 20000 in
theorem gX9_come_X9_isDoor : GoodIn wsX9_come (wsV RX9 196 RX9 yX9_isDoor wsX9_isDoor) := goodIn_app (goodIn_of _ (by decide +kernel)) ggX9_come_X9_isDoor
set_option maxRecDepth 20000 in
theorem ggX9_come_X9_of : GoodIn wsX9_come wsX9_of := goodIn_r _ [20] (by decide +kernel) (by decide +kernel)
set_option maxRecDepth 20000 in
theorem gX9_come_X9_of : GoodIn wsX9_come (va_wsS RX9 149 yX9_of wsX9_of) := goodIn_app (goodIn_of _ (by decide +kernel)) ggX9_come_X9_of
set_option maxRecDepth 20000 in
theorem ggX9_come_X9_keep : GoodIn wsX9_come wsX9_keep := goodIn_r _ [24, 25, 26, 3, 27, 28, 29, 30, 31, 32, 33, 34, 35, 36, 37, 38, 39, 40, 41, 42, 43, 44, 45, 46, 47, 48, 49, 50] (by decide +kernel) (by decide +kernel)
set_option maxRecDepth 20000 in
theorem gX9_come_X9_keep : GoodIn wsX9_come (wsV RX9 190 RX9 yX9_keep wsX9_keep) := goodIn_app (goodIn_of _ (by decide +kernel)) ggX9_come_X9_keep
theorem dX9_come_0 : decode cX9_come 0 = .ok (.aload_n 0, 1) := by decide +kernel
theorem dX9_come_1 : decode cX9_come 1 = .ok (.iconst 0, 1) := by decide +kernel
theorem dX9_come_2 : decode cX9_come 2 = .ok (.putfield 47, 3) := by decide +kernel
theorem dX9_come_5 : decode cX9_come 5 = .ok (.aload_n 0, 1) := by decide +kernel
theorem dX9_come_6 : decode cX9_come 6 = .ok (.iload_n 1, 1) := by decide +kernel
theorem dX9_come_7 : decode cX9_come 7 = .ok (.invokevirtual 193, 3) := by decide +kernel
theorem dX9_come_10 : decode cX9_come 10 = .ok (.ifCond .eq 11, 3) := by decide +kernel
theorem dX9_come_13 : decode cX9_come 13 = .ok (.aload_n 0, 1) := by decide +kernel
theorem dX9_come_14 : decode cX9_come 14 = .ok (.iload_n 2, 1) := by decide +kernel
theorem dX9_come_15 : decode cX9_come 15 = .ok (.invokevirtual 196, 3) := by decide +kernel
theorem dX9_come_18 : decode cX9_come 18 = .ok (.ifCond .ne 6, 3) := by decide +kernel
theorem dX9_come_21 : decode cX9_come 21 = .ok (.ldc 67, 2) := by decide +kernel
theorem dX9_come_23 : decode cX9_come 23 = .ok (.ireturn, 1) := by decide +kernel
theorem dX9_come_24 : decode cX9_come 24 = .ok (.aload_n 0, 1) := by decide +kernel
theorem dX9_come_25 : decode cX9_come 25 = .ok (.getfield 19, 3) := by decide +kernel
theorem dX9_come_28 : decode cX9_come 28 = .ok (.iload_n 1, 1) := by decide +kernel
theorem dX9_come_29 : decode cX9_come 29 = .ok (.iconst 3, 1) := by decide +kernel
theorem dX9_come_30 : decode cX9_come 30 = .ok (.invokestatic 149, 3) := by decide +kernel
theorem dX9_come_33 : decode cX9_come 33 = .ok (.istore_n 3, 1) := by decide +kernel
theorem dX9_come_34 : decode cX9_come 34 = .ok (.iload_n 3, 1) := by decide +kernel
theorem dX9_come_35 : decode cX9_come 35 = .ok (.iload_n 2, 1) := by decide +kernel
theorem dX9_come_36 : decode cX9_come 36 = .ok (.if_icmp .ne 6, 3) := by decide +kernel
theorem dX9_come_39 : decode cX9_come 39 = .ok (.ldc 187, 2) := by decide +kernel
theorem dX9_come_41 : decode cX9_come 41 = .ok (.ireturn, 1) := by decide +kernel
theorem dX9_come_42 : decode cX9_come 42 = .ok (.aload_n 0, 1) := by decide +kernel
theorem dX9_come_43 : decode cX9_come 43 = .ok (.invokevirtual 190, 3) := by decide +kernel
theorem dX9_come_46 : decode cX9_come 46 = .ok (.aload_n 0, 1) := by decide +kernel
theorem dX9_come_47 : decode cX9_come 47 = .ok (.getfield 19, 3) := by decide +kernel
theorem dX9_come_50 : decode cX9_come 50 = .ok (.iconst 4, 1) := by decide +kernel
theorem dX9_come_51 : decode cX9_come 51 = .ok (.iconst 5, 1) := by decide +kernel
theorem dX9_come_52 : decode cX9_come 52 = .ok (.iload_n 1, 1) := by decide +kernel
theorem dX9_come_53 : decode cX9_come 53 = .ok (.imul, 1) := by decide +kernel
theorem dX9_come_54 : decode cX9_come 54 = .ok (.iadd, 1) := by decide +kernel
theorem dX9_come_55 : decode cX9_come 55 = .ok (.iconst 3, 1) := by decide +kernel
theorem dX9_come_56 : decode cX9_come 56 = .ok (.iadd, 1) := by decide +kernel
theorem dX9_come_57 : decode cX9_come 57 = .ok (.iload_n 2, 1) := by decide +kernel
theorem dX9_come_58 : decode cX9_come 58 = .ok (.iastore, 1) := by decide +kernel
theorem dX9_come_59 : decode cX9_come 59 = .ok (.iload_n 3, 1) := by decide +kernel
theorem dX9_come_60 : decode cX9_come 60 = .ok (.ifCond .ge 8, 3) := by decide +kernel
theorem dX9_come_63 : decode cX9_come 63 = .ok (.ldc 90, 2) := by decide +kernel
theorem dX9_come_65 : decode cX9_come 65 = .ok (.goto 4, 3) := by decide +kernel
theorem dX9_come_68 : decode cX9_come 68 = .ok (.iload_n 3, 1) := by decide +kernel
theorem dX9_come_69 : decode cX9_come 69 = .ok (.ireturn, 1) := by decide +kernel
set_option maxRecDepth 20000 in
theorem ggX9_bow_X9_isPerson : GoodIn wsX9_bow wsX9_isPerson := goodIn_r _ [9, 3, 10, 11, 8, 12, 28, 29, 30, 31, 32, 33, 34, 35, 36, 37, 38, 39, 40, 41, 42, 43, 44, 45, 46, 47, 48, 49, 50, 51] (by decide +kernel) (by decide +kernel)
set_option maxRecDepth 20000 in
theorem gX9_bow_X9_isPerson : GoodIn wsX9_bow (wsV RX9 193 RX9 yX9_isPerson wsX9_isPerson) := goodIn_app (goodIn_of _ (by decide +kernel)) ggX9_bow_X9_isPerson
set_option maxRecDepth 20000 in
theorem ggX9_bow_X9_of : GoodIn wsX9_bow wsX9_of := goodIn_r _ [15] (by decide +kernel) (by decide +kernel)
set_option maxRecDepth 20000 in
theorem gX9_bow_X9_of : GoodIn wsX9_bow (va_wsS RX9 149 yX9_of wsX9_of) := goodIn_app (goodIn_of _ (by decide +kernel)) ggX9_bow_X9_of
set_option maxRecDepth 20000 in
theorem ggX9_bow_X9_keep : GoodIn wsX9_bow wsX9_keep := goodIn_r _ [19, 20, 21, 3, 28, 29, 30, 31, 32, 33, 34, 35, 36, 37, 38, 39, 40, 41, 42, 43, 44, 45, 46, 47, 48, 49, 50, 51] (by decide +kernel) (by decide +kernel)
set_option maxRecDepth 20000 in
theorem gX9_bow_X9_keep : GoodIn wsX9_bow (wsV RX9 190 RX9 yX9_keep wsX9_keep) := goodIn_app (goodIn_of _ (by decide +kernel)) ggX9_bow_X9_keep
set_option maxRecDepth 20000 in
theorem ggX9_bow_X9_nobodies : GoodIn wsX9_bow wsX9_nobodies := goodIn_r _ [24, 13, 14, 8, 15] (by decide +kernel) (by decide +kernel)
set_option maxRecDepth 20000 in
theorem gX9_bow_X9_nobodies : GoodIn wsX9_bow (va_wsS RX9 199 yX9_nobodies wsX9_nobodies) := goodIn_app (goodIn_of _ (by decide +kernel)) ggX9_bow_X9_nobodies
set_option maxRecDepth 20000 in
theorem ggX9_bow_X9_bits : GoodIn wsX9_bow wsX9_bits := goodIn_r _ [27] (by decide +kernel) (by decide +kernel)
set_option maxRecDepth 20000 in
theorem gX9_bow_X9_bits : GoodIn wsX9_bow (va_wsS RX9 181 yX9_bits wsX9_bits) := goodIn_app (goodIn_of _ (by decide +kernel)) ggX9_bow_X9_bits
theorem dX9_bow_0 : decode cX9_bow 0 = .ok (.aload_n 0, 1) := by decide +kernel
theorem dX9_bow_1 : decode cX9_bow 1 = .ok (.iconst 0, 1) := by decide +kernel
theorem dX9_bow_2 : decode cX9_bow 2 = .ok (.putfield 47, 3) := by decide +kernel
theorem dX9_bow_5 : decode cX9_bow 5 = .ok (.aload_n 0, 1) := by decide +kernel
theorem dX9_bow_6 : decode cX9_bow 6 = .ok (.iload_n 1, 1) := by decide +kernel
theorem dX9_bow_7 : decode cX9_bow 7 = .ok (.invokevirtual 193, 3) := by decide +kernel
theorem dX9_bow_10 : decode cX9_bow 10 = .ok (.ifCond .ne 6, 3) := by decide +kernel
theorem dX9_bow_13 : decode cX9_bow 13 = .ok (.ldc 67, 2) := by decide +kernel
theorem dX9_bow_15 : decode cX9_bow 15 = .ok (.ireturn, 1) := by decide +kernel
theorem dX9_bow_16 : decode cX9_bow 16 = .ok (.aload_n 0, 1) := by decide +kernel
theorem dX9_bow_17 : decode cX9_bow 17 = .ok (.getfield 19, 3) := by decide +kernel
theorem dX9_bow_20 : decode cX9_bow 20 = .ok (.iload_n 1, 1) := by decide +kernel
theorem dX9_bow_21 : decode cX9_bow 21 = .ok (.iconst 3, 1) := by decide +kernel
theorem dX9_bow_22 : decode cX9_bow 22 = .ok (.invokestatic 149, 3) := by decide +kernel
theorem dX9_bow_25 : decode cX9_bow 25 = .ok (.ifCond .ge 6, 3) := by decide +kernel
theorem dX9_bow_28 : decode cX9_bow 28 = .ok (.ldc 187, 2) := by decide +kernel
theorem dX9_bow_30 : decode cX9_bow 30 = .ok (.ireturn, 1) := by decide +kernel
theorem dX9_bow_31 : decode cX9_bow 31 = .ok (.aload_n 0, 1) := by decide +kernel
theorem dX9_bow_32 : decode cX9_bow 32 = .ok (.invokevirtual 190, 3) := by decide +kernel
theorem dX9_bow_35 : decode cX9_bow 35 = .ok (.aload_n 0, 1) := by decide +kernel
theorem dX9_bow_36 : decode cX9_bow 36 = .ok (.getfield 19, 3) := by decide +kernel
theorem dX9_bow_39 : decode cX9_bow 39 = .ok (.iconst 4, 1) := by decide +kernel
theorem dX9_bow_40 : decode cX9_bow 40 = .ok (.iconst 5, 1) := by decide +kernel
theorem dX9_bow_41 : decode cX9_bow 41 = .ok (.iload_n 1, 1) := by decide +kernel
theorem dX9_bow_42 : decode cX9_bow 42 = .ok (.imul, 1) := by decide +kernel
theorem dX9_bow_43 : decode cX9_bow 43 = .ok (.iadd, 1) := by decide +kernel
theorem dX9_bow_44 : decode cX9_bow 44 = .ok (.iconst 4, 1) := by decide +kernel
theorem dX9_bow_45 : decode cX9_bow 45 = .ok (.iadd, 1) := by decide +kernel
theorem dX9_bow_46 : decode cX9_bow 46 = .ok (.aload_n 0, 1) := by decide +kernel
theorem dX9_bow_47 : decode cX9_bow 47 = .ok (.getfield 19, 3) := by decide +kernel
theorem dX9_bow_50 : decode cX9_bow 50 = .ok (.iconst 1, 1) := by decide +kernel
theorem dX9_bow_51 : decode cX9_bow 51 = .ok (.iaload, 1) := by decide +kernel
theorem dX9_bow_52 : decode cX9_bow 52 = .ok (.iastore, 1) := by decide +kernel
theorem dX9_bow_53 : decode cX9_bow 53 = .ok (.aload_n 0, 1) := by decide +kernel
theorem dX9_bow_54 : decode cX9_bow 54 = .ok (.getfield 19, 3) := by decide +kernel
theorem dX9_bow_57 : decode cX9_bow 57 = .ok (.invokestatic 199, 3) := by decide +kernel
theorem dX9_bow_60 : decode cX9_bow 60 = .ok (.invokestatic 181, 3) := by decide +kernel
theorem dX9_bow_63 : decode cX9_bow 63 = .ok (.ireturn, 1) := by decide +kernel
set_option maxRecDepth 20000 in
theorem ggX9_revise_X9_isPerson : GoodIn wsX9_revise wsX9_isPerson := goodIn_r _ [9, 4, 10, 11, 8, 12, 22, 23, 24, 25, 26, 27, 28, 29, 30, 31, 32, 33, 34, 35, 36, 37, 38, 39, 40, 41, 42, 43, 44, 45] (by decide +kernel) (by decide +kernel)
set_option maxRecDepth 20000 in
theorem gX9_revise_X9_isPerson : GoodIn wsX9_revise (wsV RX9 193 RX9 yX9_isPerson wsX9_isPerson) := goodIn_app (goodIn_of _ (by decide +kernel)) ggX9_revise_X9_isPerson
set_option maxRecDepth 20000 in
theorem ggX9_revise_X9_in : GoodIn wsX9_revise wsX9_in := goodIn_r _ [12] (by decide +kernel) (by decide +kernel)
set_option maxRecDepth 20000 in
theorem gX9_revise_X9_in : GoodIn wsX9_revise (va_wsS RX9 57 yX9_in wsX9_in) := goodIn_app (goodIn_of _ (by decide +kernel)) ggX9_revise_X9_in
set_option maxRecDepth 20000 in
theorem ggX9_revise_X9_keep : GoodIn wsX9_revise wsX9_keep := goodIn_r _ [16, 17, 18, 4, 22, 23, 24, 25, 26, 27, 28, 29, 30, 31, 32, 33, 34, 35, 36, 37, 38, 39, 40, 41, 42, 43, 44, 45] (by decide +kernel) (by decide +kernel)
set_option maxRecDepth 20000 in
theorem gX9_revise_X9_keep : GoodIn wsX9_revise (wsV RX9 190 RX9 yX9_keep wsX9_keep) := goodIn_app (goodIn_of _ (by decide +kernel)) ggX9_revise_X9_keep
set_option maxRecDepth 20000 in
theorem ggX9_revise_X9_of : GoodIn wsX9_revise wsX9_of := goodIn_r _ [21] (by decide +kernel) (by decide +kernel)
set_option maxRecDepth 20000 in
theorem gX9_revise_X9_of : GoodIn wsX9_revise (va_wsS RX9 149 yX9_of wsX9_of) := goodIn_app (goodIn_of _ (by decide +kernel)) ggX9_revise_X9_of
theorem dX9_revise_0 : decode cX9_revise 0 = .ok (.aload_n 0, 1) := by decide +kernel
theorem dX9_revise_1 : decode cX9_revise 1 = .ok (.iconst 0, 1) := by decide +kernel
theorem dX9_revise_2 : decode cX9_revise 2 = .ok (.putfield 47, 3) := by decide +kernel
theorem dX9_revise_5 : decode cX9_revise 5 = .ok (.aload_n 0, 1) := by decide +kernel
theorem dX9_revise_6 : decode cX9_revise 6 = .ok (.iload_n 1, 1) := by decide +kernel
theorem dX9_revise_7 : decode cX9_revise 7 = .ok (.invokevirtual 193, 3) := by decide +kernel
theorem dX9_revise_10 : decode cX9_revise 10 = .ok (.ifCond .eq 25, 3) := by decide +kernel
theorem dX9_revise_13 : decode cX9_revise 13 = .ok (.iload_n 2, 1) := by decide +kernel
theorem dX9_revise_14 : decode cX9_revise 14 = .ok (.i2l, 1) := by decide +kernel
theorem dX9_revise_15 : decode cX9_revise 15 = .ok (.lconst 0, 1) := by decide +kernel
theorem dX9_revise_16 : decode cX9_revise 16 = .ok (.lconst 1, 1) := by decide +kernel
theorem dX9_revise_17 : decode cX9_revise 17 = .ok (.invokestatic 57, 3) := by decide +kernel
theorem dX9_revise_20 : decode cX9_revise 20 = .ok (.ifCond .eq 15, 3) := by decide +kernel
theorem dX9_revise_23 : decode cX9_revise 23 = .ok (.iload_n 3, 1) := by decide +kernel
theorem dX9_revise_24 : decode cX9_revise 24 = .ok (.i2l, 1) := by decide +kernel
theorem dX9_revise_25 : decode cX9_revise 25 = .ok (.lconst 0, 1) := by decide +kernel
theorem dX9_revise_26 : decode cX9_revise 26 = .ok (.ldc2_w 202, 3) := by decide +kernel
theorem dX9_revise_29 : decode cX9_revise 29 = .ok (.invokestatic 57, 3) := by decide +kernel
theorem dX9_revise_32 : decode cX9_revise 32 = .ok (.ifCond .ne 6, 3) := by decide +kernel
theorem dX9_revise_35 : decode cX9_revise 35 = .ok (.ldc 67, 2) := by decide +kernel
theorem dX9_revise_37 : decode cX9_revise 37 = .ok (.ireturn, 1) := by decide +kernel
theorem dX9_revise_38 : decode cX9_revise 38 = .ok (.aload_n 0, 1) := by decide +kernel
theorem dX9_revise_39 : decode cX9_revise 39 = .ok (.invokevirtual 190, 3) := by decide +kernel
theorem dX9_revise_42 : decode cX9_revise 42 = .ok (.aload_n 0, 1) := by decide +kernel
theorem dX9_revise_43 : decode cX9_revise 43 = .ok (.getfield 19, 3) := by decide +kernel
theorem dX9_revise_46 : decode cX9_revise 46 = .ok (.iload_n 1, 1) := by decide +kernel
theorem dX9_revise_47 : decode cX9_revise 47 = .ok (.iconst 1, 1) := by decide +kernel
theorem dX9_revise_48 : decode cX9_revise 48 = .ok (.iload_n 2, 1) := by decide +kernel
theorem dX9_revise_49 : decode cX9_revise 49 = .ok (.iadd, 1) := by decide +kernel
theorem dX9_revise_50 : decode cX9_revise 50 = .ok (.invokestatic 149, 3) := by decide +kernel
theorem dX9_revise_53 : decode cX9_revise 53 = .ok (.istore 4, 2) := by decide +kernel
theorem dX9_revise_55 : decode cX9_revise 55 = .ok (.aload_n 0, 1) := by decide +kernel
theorem dX9_revise_56 : decode cX9_revise 56 = .ok (.getfield 19, 3) := by decide +kernel
theorem dX9_revise_59 : decode cX9_revise 59 = .ok (.iconst 4, 1) := by decide +kernel
theorem dX9_revise_60 : decode cX9_revise 60 = .ok (.iconst 5, 1) := by decide +kernel
theorem dX9_revise_61 : decode cX9_revise 61 = .ok (.iload_n 1, 1) := by decide +kernel
theorem dX9_revise_62 : decode cX9_revise 62 = .ok (.imul, 1) := by decide +kernel
theorem dX9_revise_63 : decode cX9_revise 63 = .ok (.iadd, 1) := by decide +kernel
theorem dX9_revise_64 : decode cX9_revise 64 = .ok (.iconst 1, 1) := by decide +kernel
theorem dX9_revise_65 : decode cX9_revise 65 = .ok (.iadd, 1) := by decide +kernel
theorem dX9_revise_66 : decode cX9_revise 66 = .ok (.iload_n 2, 1) := by decide +kernel
theorem dX9_revise_67 : decode cX9_revise 67 = .ok (.iadd, 1) := by decide +kernel
theorem dX9_revise_68 : decode cX9_revise 68 = .ok (.iload_n 3, 1) := by decide +kernel
theorem dX9_revise_69 : decode cX9_revise 69 = .ok (.iastore, 1) := by decide +kernel
theorem dX9_revise_70 : decode cX9_revise 70 = .ok (.iload 4, 2) := by decide +kernel
theorem dX9_revise_72 : decode cX9_revise 72 = .ok (.ireturn, 1) := by decide +kernel
theorem dX9_undo_0 : decode cX9_undo 0 = .ok (.aload_n 0, 1) := by decide +kernel
theorem dX9_undo_1 : decode cX9_undo 1 = .ok (.iconst 0, 1) := by decide +kernel
theorem dX9_undo_2 : decode cX9_undo 2 = .ok (.putfield 47, 3) := by decide +kernel
theorem dX9_undo_5 : decode cX9_undo 5 = .ok (.aload_n 0, 1) := by decide +kernel
theorem dX9_undo_6 : decode cX9_undo 6 = .ok (.getfield 146, 3) := by decide +kernel
theorem dX9_undo_9 : decode cX9_undo 9 = .ok (.ifCond .ne 6, 3) := by decide +kernel
theorem dX9_undo_12 : decode cX9_undo 12 = .ok (.ldc 187, 2) := by decide +kernel
theorem dX9_undo_14 : decode cX9_undo 14 = .ok (.ireturn, 1) := by decide +kernel
theorem dX9_undo_15 : decode cX9_undo 15 = .ok (.aload_n 0, 1) := by decide +kernel
theorem dX9_undo_16 : decode cX9_undo 16 = .ok (.dup, 1) := by decide +kernel
theorem dX9_undo_17 : decode cX9_undo 17 = .ok (.getfield 146, 3) := by decide +kernel
theorem dX9_undo_20 : decode cX9_undo 20 = .ok (.iconst 1, 1) := by decide +kernel
theorem dX9_undo_21 : decode cX9_undo 21 = .ok (.isub, 1) := by decide +kernel
theorem dX9_undo_22 : decode cX9_undo 22 = .ok (.putfield 146, 3) := by decide +kernel
theorem dX9_undo_25 : decode cX9_undo 25 = .ok (.iconst 0, 1) := by decide +kernel
theorem dX9_undo_26 : decode cX9_undo 26 = .ok (.istore_n 1, 1) := by decide +kernel
theorem dX9_undo_27 : decode cX9_undo 27 = .ok (.iload_n 1, 1) := by decide +kernel
theorem dX9_undo_28 : decode cX9_undo 28 = .ok (.bipush 39, 2) := by decide +kernel
theorem dX9_undo_30 : decode cX9_undo 30 = .ok (.if_icmp .ge 29, 3) := by decide +kernel
theorem dX9_undo_33 : decode cX9_undo 33 = .ok (.aload_n 0, 1) := by decide +kernel
theorem dX9_undo_34 : decode cX9_undo 34 = .ok (.getfield 19, 3) := by decide +kernel
theorem dX9_undo_37 : decode cX9_undo 37 = .ok (.iload_n 1, 1) := by decide +kernel
theorem dX9_undo_38 : decode cX9_undo 38 = .ok (.aload_n 0, 1) := by decide +kernel
theorem dX9_undo_39 : decode cX9_undo 39 = .ok (.getfield 28, 3) := by decide +kernel
theorem dX9_undo_42 : decode cX9_undo 42 = .ok (.bipush 39, 2) := by decide +kernel
theorem dX9_undo_44 : decode cX9_undo 44 = .ok (.aload_n 0, 1) := by decide +kernel
theorem dX9_undo_45 : decode cX9_undo 45 = .ok (.getfield 146, 3) := by decide +kernel
theorem dX9_undo_48 : decode cX9_undo 48 = .ok (.imul, 1) := by decide +kernel
theorem dX9_undo_49 : decode cX9_undo 49 = .ok (.iload_n 1, 1) := by decide +kernel
theorem dX9_undo_50 : decode cX9_undo 50 = .ok (.iadd, 1) := by decide +kernel
theorem dX9_undo_51 : decode cX9_undo 51 = .ok (.iaload, 1) := by decide +kernel
theorem dX9_undo_52 : decode cX9_undo 52 = .ok (.iastore, 1) := by decide +kernel
theorem dX9_undo_53 : decode cX9_undo 53 = .ok (.iinc 1 1, 3) := by decide +kernel
theorem dX9_undo_56 : decode cX9_undo 56 = .ok (.goto (-29), 3) := by decide +kernel
theorem dX9_undo_59 : decode cX9_undo 59 = .ok (.aload_n 0, 1) := by decide +kernel
theorem dX9_undo_60 : decode cX9_undo 60 = .ok (.getfield 146, 3) := by decide +kernel
theorem dX9_undo_63 : decode cX9_undo 63 = .ok (.ireturn, 1) := by decide +kernel
set_option maxRecDepth 20000 in
theorem ggX9_person_X9_isPerson : GoodIn wsX9_person wsX9_isPerson := goodIn_r _ [9, 3, 10, 11, 8, 12, 28, 29, 30, 31, 32, 33, 34, 35, 36, 37, 38, 39, 40, 41, 42, 43, 44, 45, 46, 47, 48, 49, 50, 51] (by decide +kernel) (by decide +kernel)
set_option maxRecDepth 20000 in
theorem gX9_person_X9_isPerson : GoodIn wsX9_person (wsV RX9 193 RX9 yX9_isPerson wsX9_isPerson) := goodIn_app (goodIn_of _ (by decide +kernel)) ggX9_person_X9_isPerson
set_option maxRecDepth 20000 in
theorem ggX9_person_X9_of : GoodIn wsX9_person wsX9_of := goodIn_r _ [15] (by decide +kernel) (by decide +kernel)
set_option maxRecDepth 20000 in
theorem gX9_person_X9_of : GoodIn wsX9_person (va_wsS RX9 149 yX9_of wsX9_of) := goodIn_app (goodIn_of _ (by decide +kernel)) ggX9_person_X9_of
set_option maxRecDepth 20000 in
theorem ggX9_person_X9_may : GoodIn wsX9_person wsX9_may := goodIn_r _ [18, 13, 14, 8, 15, 19, 20, 21, 22, 23, 24, 25, 26, 27] (by decide +kernel) (by decide +kernel)
set_option maxRecDepth 20000 in
theorem gX9_person_X9_may : GoodIn wsX9_person (va_wsS RX9 164 yX9_may wsX9_may) := goodIn_app (goodIn_of _ (by decide +kernel)) ggX9_person_X9_may
set_option maxRecDepth 20000 in
theorem ggX9_person_X9_yieldsTo : GoodIn wsX9_person wsX9_yieldsTo := goodIn_r _ [21, 13, 14, 8, 15, 22, 23, 24, 25, 26, 27] (by decide +kernel) (by decide +kernel)
set_option maxRecDepth 20000 in
theorem gX9_person_X9_yieldsTo : GoodIn wsX9_person (va_wsS RX9 160 yX9_yieldsTo wsX9_yieldsTo) := goodIn_app (goodIn_of _ (by decide +kernel)) ggX9_person_X9_yieldsTo
theorem dX9_person_0 : decode cX9_person 0 = .ok (.aload_n 0, 1) := by decide +kernel
theorem dX9_person_1 : decode cX9_person 1 = .ok (.iconst 0, 1) := by decide +kernel
theorem dX9_person_2 : decode cX9_person 2 = .ok (.putfield 47, 3) := by decide +kernel
theorem dX9_person_5 : decode cX9_person 5 = .ok (.aload_n 0, 1) := by decide +kernel
theorem dX9_person_6 : decode cX9_person 6 = .ok (.iload_n 1, 1) := by decide +kernel
theorem dX9_person_7 : decode cX9_person 7 = .ok (.invokevirtual 193, 3) := by decide +kernel
theorem dX9_person_10 : decode cX9_person 10 = .ok (.ifCond .ne 6, 3) := by decide +kernel
theorem dX9_person_13 : decode cX9_person 13 = .ok (.ldc 67, 2) := by decide +kernel
theorem dX9_person_15 : decode cX9_person 15 = .ok (.ireturn, 1) := by decide +kernel
theorem dX9_person_16 : decode cX9_person 16 = .ok (.iload_n 2, 1) := by decide +kernel
theorem dX9_person_17 : decode cX9_person 17 = .ok (.tableswitch 122 0 5 #[39, 49, 59, 86, 96, 113], 39) := by decide +kernel
theorem dX9_person_56 : decode cX9_person 56 = .ok (.aload_n 0, 1) := by decide +kernel
theorem dX9_person_57 : decode cX9_person 57 = .ok (.getfield 19, 3) := by decide +kernel
theorem dX9_person_60 : decode cX9_person 60 = .ok (.iload_n 1, 1) := by decide +kernel
theorem dX9_person_61 : decode cX9_person 61 = .ok (.iconst 1, 1) := by decide +kernel
theorem dX9_person_62 : decode cX9_person 62 = .ok (.invokestatic 149, 3) := by decide +kernel
theorem dX9_person_65 : decode cX9_person 65 = .ok (.ireturn, 1) := by decide +kernel
theorem dX9_person_66 : decode cX9_person 66 = .ok (.aload_n 0, 1) := by decide +kernel
theorem dX9_person_67 : decode cX9_person 67 = .ok (.getfield 19, 3) := by decide +kernel
theorem dX9_person_70 : decode cX9_person 70 = .ok (.iload_n 1, 1) := by decide +kernel
theorem dX9_person_71 : decode cX9_person 71 = .ok (.iconst 2, 1) := by decide +kernel
theorem dX9_person_72 : decode cX9_person 72 = .ok (.invokestatic 149, 3) := by decide +kernel
theorem dX9_person_75 : decode cX9_person 75 = .ok (.ireturn, 1) := by decide +kernel
theorem dX9_person_76 : decode cX9_person 76 = .ok (.aload_n 0, 1) := by decide +kernel
theorem dX9_person_77 : decode cX9_person 77 = .ok (.getfield 19, 3) := by decide +kernel
theorem dX9_person_80 : decode cX9_person 80 = .ok (.iload_n 1, 1) := by decide +kernel
theorem dX9_person_81 : decode cX9_person 81 = .ok (.iconst 3, 1) := by decide +kernel
theorem dX9_person_82 : decode cX9_person 82 = .ok (.invokestatic 149, 3) := by decide +kernel
theorem dX9_person_85 : decode cX9_person 85 = .ok (.ifCond .ge 8, 3) := by decide +kernel
theorem dX9_person_88 : decode cX9_person 88 = .ok (.ldc 90, 2) := by decide +kernel
theorem dX9_person_90 : decode cX9_person 90 = .ok (.goto 12, 3) := by decide +kernel
theorem dX9_person_93 : decode cX9_person 93 = .ok (.aload_n 0, 1) := by decide +kernel
theorem dX9_person_94 : decode cX9_person 94 = .ok (.getfield 19, 3) := by decide +kernel
theorem dX9_person_97 : decode cX9_person 97 = .ok (.iload_n 1, 1) := by decide +kernel
theorem dX9_person_98 : decode cX9_person 98 = .ok (.iconst 3, 1) := by decide +kernel
theorem dX9_person_99 : decode cX9_person 99 = .ok (.invokestatic 149, 3) := by decide +kernel
theorem dX9_person_102 : decode cX9_person 102 = .ok (.ireturn, 1) := by decide +kernel
theorem dX9_person_103 : decode cX9_person 103 = .ok (.aload_n 0, 1) := by decide +kernel
theorem dX9_person_104 : decode cX9_person 104 = .ok (.getfield 19, 3) := by decide +kernel
theorem dX9_person_107 : decode cX9_person 107 = .ok (.iload_n 1, 1) := by decide +kernel
theorem dX9_person_108 : decode cX9_person 108 = .ok (.iconst 4, 1) := by decide +kernel
theorem dX9_person_109 : decode cX9_person 109 = .ok (.invokestatic 149, 3) := by decide +kernel
theorem dX9_person_112 : decode cX9_person 112 = .ok (.ireturn, 1) := by decide +kernel
theorem dX9_person_113 : decode cX9_person 113 = .ok (.aload_n 0, 1) := by decide +kernel
theorem dX9_person_114 : decode cX9_person 114 = .ok (.getfield 19, 3) := by decide +kernel
theorem dX9_person_117 : decode cX9_person 117 = .ok (.iload_n 1, 1) := by decide +kernel
theorem dX9_person_118 : decode cX9_person 118 = .ok (.invokestatic 164, 3) := by decide +kernel
theorem dX9_person_121 : decode cX9_person 121 = .ok (.ifCond .eq 7, 3) := by decide +kernel
theorem dX9_person_124 : decode cX9_person 124 = .ok (.iconst 1, 1) := by decide +kernel
theorem dX9_person_125 : decode cX9_person 125 = .ok (.goto 4, 3) := by decide +kernel
theorem dX9_person_128 : decode cX9_person 128 = .ok (.iconst 0, 1) := by decide +kernel
theorem dX9_person_129 : decode cX9_person 129 = .ok (.ireturn, 1) := by decide +kernel
theorem dX9_person_130 : decode cX9_person 130 = .ok (.aload_n 0, 1) := by decide +kernel
theorem dX9_person_131 : decode cX9_person 131 = .ok (.getfield 19, 3) := by decide +kernel
theorem dX9_person_134 : decode cX9_person 134 = .ok (.iload_n 1, 1) := by decide +kernel
theorem dX9_person_135 : decode cX9_person 135 = .ok (.invokestatic 160, 3) := by decide +kernel
theorem dX9_person_138 : decode cX9_person 138 = .ok (.ireturn, 1) := by decide +kernel
theorem dX9_person_139 : decode cX9_person 139 = .ok (.ldc 67, 2) := by decide +kernel
theorem dX9_person_141 : decode cX9_person 141 = .ok (.ireturn, 1) := by decide +kernel
set_option maxRecDepth 20000 in
theorem ggX9_door_X9_isThere : GoodIn wsX9_door wsX9_isThere := goodIn_r _ [9, 4, 39, 40, 41, 42, 43, 44, 45, 46, 47, 48, 49, 50, 51, 52, 53, 54, 55, 56, 57, 58, 59, 60, 61, 62] (by decide +kernel) (by decide +kernel)
set_option maxRecDepth 20000 in
theorem gX9_door_X9_isThere : GoodIn wsX9_door (wsV RX9 184 RX9 yX9_isThere wsX9_isThere) := goodIn_app (goodIn_of _ (by decide +kernel)) ggX9_door_X9_isThere
set_option maxRecDepth 20000 in
theorem ggX9_door_X9_isDoor : GoodIn wsX9_door wsX9_isDoor := goodIn_r _ [13, 4, 14, 15, 8, 16, 39, 40, 41, 42, 43, 44, 45, 46, 47, 48, 49, 50, 51, 52, 53, 54, 55, 56, 57, 58, 59, 60, 61, 62] (by decide +kernel) (by decide +kernel)
set_option maxRecDepth 20000 in
theorem gX9_door_X9_isDoor : GoodIn wsX9_door (wsV RX9 196 RX9 yX9_isDoor wsX9_isDoor) := goodIn_app (goodIn_of _ (by decide +kernel)) ggX9_door_X9_isDoor
set_option maxRecDepth 20000 in
theorem ggX9_door_X9_in : GoodIn wsX9_door wsX9_in := goodIn_r _ [16] (by decide +kernel) (by decide +kernel)
set_option maxRecDepth 20000 in
theorem gX9_door_X9_in : GoodIn wsX9_door (va_wsS RX9 57 yX9_in wsX9_in) := goodIn_app (goodIn_of _ (by decide +kernel)) ggX9_door_X9_in
set_option maxRecDepth 20000 in
theorem ggX9_door_X9_waiting : GoodIn wsX9_door wsX9_waiting := goodIn_r _ [19, 20, 21, 8, 22, 23, 24, 25] (by decide +kernel) (by decide +kernel)
set_option maxRecDepth 20000 in
theorem gX9_door_X9_waiting : GoodIn wsX9_door (va_wsS RX9 178 yX9_waiting wsX9_waiting) := goodIn_app (goodIn_of _ (by decide +kernel)) ggX9_door_X9_waiting
set_option maxRecDepth 20000 in
theorem ggX9_door_X9_goesAt : GoodIn wsX9_door wsX9_goesAt := goodIn_r _ [28, 29, 20, 21, 8, 22, 23, 24, 25, 30, 31, 32, 33, 34, 35, 36, 37, 38] (by decide +kernel) (by decide +kernel)
set_option maxRecDepth 20000 in
theorem gX9_door_X9_goesAt : GoodIn wsX9_door (va_wsS RX9 168 yX9_goesAt wsX9_goesAt) := goodIn_app (goodIn_of _ (by decide +kernel)) ggX9_door_X9_goesAt
theorem dX9_door_0 : decode cX9_door 0 = .ok (.aload_n 0, 1) := by decide +kernel
theorem dX9_door_1 : decode cX9_door 1 = .ok (.iconst 0, 1) := by decide +kernel
theorem dX9_door_2 : decode cX9_door 2 = .ok (.putfield 47, 3) := by decide +kernel
theorem dX9_door_5 : decode cX9_door 5 = .ok (.aload_n 0, 1) := by decide +kernel
theorem dX9_door_6 : decode cX9_door 6 = .ok (.invokevirtual 184, 3) := by decide +kernel
theorem dX9_door_9 : decode cX9_door 9 = .ok (.ifCond .ne 6, 3) := by decide +kernel
theorem dX9_door_12 : decode cX9_door 12 = .ok (.ldc 187, 2) := by decide +kernel
theorem dX9_door_14 : decode cX9_door 14 = .ok (.ireturn, 1) := by decide +kernel
theorem dX9_door_15 : decode cX9_door 15 = .ok (.aload_n 0, 1) := by decide +kernel
theorem dX9_door_16 : decode cX9_door 16 = .ok (.iload_n 1, 1) := by decide +kernel
theorem dX9_door_17 : decode cX9_door 17 = .ok (.invokevirtual 196, 3) := by decide +kernel
theorem dX9_door_20 : decode cX9_door 20 = .ok (.ifCond .eq 13, 3) := by decide +kernel
theorem dX9_door_23 : decode cX9_door 23 = .ok (.iload_n 2, 1) := by decide +kernel
theorem dX9_door_24 : decode cX9_door 24 = .ok (.i2l, 1) := by decide +kernel
theorem dX9_door_25 : decode cX9_door 25 = .ok (.lconst 0, 1) := by decide +kernel
theorem dX9_door_26 : decode cX9_door 26 = .ok (.lconst 1, 1) := by decide +kernel
theorem dX9_door_27 : decode cX9_door 27 = .ok (.invokestatic 57, 3) := by decide +kernel
theorem dX9_door_30 : decode cX9_door 30 = .ok (.ifCond .ne 6, 3) := by decide +kernel
theorem dX9_door_33 : decode cX9_door 33 = .ok (.ldc 67, 2) := by decide +kernel
theorem dX9_door_35 : decode cX9_door 35 = .ok (.ireturn, 1) := by decide +kernel
theorem dX9_door_36 : decode cX9_door 36 = .ok (.iload_n 2, 1) := by decide +kernel
theorem dX9_door_37 : decode cX9_door 37 = .ok (.ifCond .ne 14, 3) := by decide +kernel
theorem dX9_door_40 : decode cX9_door 40 = .ok (.aload_n 0, 1) := by decide +kernel
theorem dX9_door_41 : decode cX9_door 41 = .ok (.getfield 19, 3) := by decide +kernel
theorem dX9_door_44 : decode cX9_door 44 = .ok (.iload_n 1, 1) := by decide +kernel
theorem dX9_door_45 : decode cX9_door 45 = .ok (.invokestatic 178, 3) := by decide +kernel
theorem dX9_door_48 : decode cX9_door 48 = .ok (.goto 11, 3) := by decide +kernel
theorem dX9_door_51 : decode cX9_door 51 = .ok (.aload_n 0, 1) := by decide +kernel
theorem dX9_door_52 : decode cX9_door 52 = .ok (.getfield 19, 3) := by decide +kernel
theorem dX9_door_55 : decode cX9_door 55 = .ok (.iload_n 1, 1) := by decide +kernel
theorem dX9_door_56 : decode cX9_door 56 = .ok (.invokestatic 168, 3) := by decide +kernel
theorem dX9_door_59 : decode cX9_door 59 = .ok (.ireturn, 1) := by decide +kernel
set_option maxRecDepth 20000 in
theorem ggX9_ahead_X9_isPerson : GoodIn wsX9_ahead wsX9_isPerson := goodIn_r _ [9, 10, 11, 12, 8, 13, 46, 47, 48, 49, 50, 51, 52, 53, 54, 55, 56, 57, 58, 59, 60, 61, 62, 63, 64, 65, 66, 67, 68, 69] (by decide +kernel) (by decide +kernel)
set_option maxRecDepth 20000 in
theorem gX9_ahead_X9_isPerson : GoodIn wsX9_ahead (wsV RX9 193 RX9 yX9_isPerson wsX9_isPerson) := goodIn_app (goodIn_of _ (by decide +kernel)) ggX9_ahead_X9_isPerson
set_option maxRecDepth 20000 in
theorem ggX9_ahead_X9_in : GoodIn wsX9_ahead wsX9_in := goodIn_r _ [13] (by decide +kernel) (by decide +kernel)
set_option maxRecDepth 20000 in
theorem gX9_ahead_X9_in : GoodIn wsX9_ahead (va_wsS RX9 57 yX9_in wsX9_in) := goodIn_app (goodIn_of _ (by decide +kernel)) ggX9_ahead_X9_in
set_option maxRecDepth 20000 in
theorem ggX9_ahead_X9_layThen : GoodIn wsX9_ahead wsX9_layThen := goodIn_r _ [17, 4, 10, 46, 47, 48, 49, 50, 51, 52, 53, 54, 55, 56, 57, 58, 59, 60, 61, 62, 63, 64, 65, 66, 67, 68, 69] (by decide +kernel) (by decide +kernel)
set_option maxRecDepth 20000 in
theorem gX9_ahead_X9_layThen : GoodIn wsX9_ahead (wsV RX9 206 RX9 yX9_layThen wsX9_layThen) := goodIn_app (goodIn_of _ (by decide +kernel)) ggX9_ahead_X9_layThen
set_option maxRecDepth 20000 in
theorem ggX9_ahead_X9_stepsOf : GoodIn wsX9_ahead wsX9_stepsOf := goodIn_r _ [21, 22, 23, 24, 8, 25, 26, 27, 28, 29, 30, 31, 32, 33, 34, 35, 36, 37, 38, 39, 40, 41, 42, 43, 44, 45, 46, 47, 48, 49, 50, 51, 52, 53, 54, 55, 56, 57, 58, 59, 60, 61, 62, 63, 64, 65, 66, 67, 68, 69] (by decide +kernel) (by decide +kernel)
set_option maxRecDepth 20000 in
theorem gX9_ahead_X9_stepsOf : GoodIn wsX9_ahead (wsV RX9 175 RX9 yX9_stepsOf wsX9_stepsOf) := goodIn_app (goodIn_of _ (by decide +kernel)) ggX9_ahead_X9_stepsOf
set_option maxRecDepth 20000 in
theorem ggX9_ahead_X9_of : GoodIn wsX9_ahead wsX9_of := goodIn_r _ [36] (by decide +kernel) (by decide +kernel)
set_option maxRecDepth 20000 in
theorem gX9_ahead_X9_of : GoodIn wsX9_ahead (va_wsS RX9 149 yX9_of wsX9_of) := goodIn_app (goodIn_of _ (by decide +kernel)) ggX9_ahead_X9_of
theorem dX9_ahead_0 : decode cX9_ahead 0 = .ok (.aload_n 0, 1) := by decide +kernel
theorem dX9_ahead_1 : decode cX9_ahead 1 = .ok (.iconst 0, 1) := by decide +kernel
theorem dX9_ahead_2 : decode cX9_ahead 2 = .ok (.putfield 47, 3) := by decide +kernel
theorem dX9_ahead_5 : decode cX9_ahead 5 = .ok (.aload_n 0, 1) := by decide +kernel
theorem dX9_ahead_6 : decode cX9_ahead 6 = .ok (.iload_n 1, 1) := by decide +kernel
theorem dX9_ahead_7 : decode cX9_ahead 7 = .ok (.invokevirtual 193, 3) := by decide +kernel
theorem dX9_ahead_10 : decode cX9_ahead 10 = .ok (.ifCond .eq 15, 3) := by decide +kernel
theorem dX9_ahead_13 : decode cX9_ahead 13 = .ok (.iload_n 2, 1) := by decide +kernel
theorem dX9_ahead_14 : decode cX9_ahead 14 = .ok (.i2l, 1) := by decide +kernel
theorem dX9_ahead_15 : decode cX9_ahead 15 = .ok (.lconst 0, 1) := by decide +kernel
theorem dX9_ahead_16 : decode cX9_ahead 16 = .ok (.ldc2_w 204, 3) := by decide +kernel
theorem dX9_ahead_19 : decode cX9_ahead 19 = .ok (.invokestatic 57, 3) := by decide +kernel
theorem dX9_ahead_22 : decode cX9_ahead 22 = .ok (.ifCond .ne 6, 3) := by decide +kernel
theorem dX9_ahead_25 : decode cX9_ahead 25 = .ok (.ldc 67, 2) := by decide +kernel
theorem dX9_ahead_27 : decode cX9_ahead 27 = .ok (.ireturn, 1) := by decide +kernel
theorem dX9_ahead_28 : decode cX9_ahead 28 = .ok (.aload_n 0, 1) := by decide +kernel
theorem dX9_ahead_29 : decode cX9_ahead 29 = .ok (.invokevirtual 206, 3) := by decide +kernel
theorem dX9_ahead_32 : decode cX9_ahead 32 = .ok (.aload_n 0, 1) := by decide +kernel
theorem dX9_ahead_33 : decode cX9_ahead 33 = .ok (.aload_n 0, 1) := by decide +kernel
theorem dX9_ahead_34 : decode cX9_ahead 34 = .ok (.getfield 25, 3) := by decide +kernel
theorem dX9_ahead_37 : decode cX9_ahead 37 = .ok (.iload_n 2, 1) := by decide +kernel
theorem dX9_ahead_38 : decode cX9_ahead 38 = .ok (.invokevirtual 175, 3) := by decide +kernel
theorem dX9_ahead_41 : decode cX9_ahead 41 = .ok (.istore_n 3, 1) := by decide +kernel
theorem dX9_ahead_42 : decode cX9_ahead 42 = .ok (.aload_n 0, 1) := by decide +kernel
theorem dX9_ahead_43 : decode cX9_ahead 43 = .ok (.getfield 25, 3) := by decide +kernel
theorem dX9_ahead_46 : decode cX9_ahead 46 = .ok (.iload_n 1, 1) := by decide +kernel
theorem dX9_ahead_47 : decode cX9_ahead 47 = .ok (.iconst 3, 1) := by decide +kernel
theorem dX9_ahead_48 : decode cX9_ahead 48 = .ok (.invokestatic 149, 3) := by decide +kernel
theorem dX9_ahead_51 : decode cX9_ahead 51 = .ok (.ifCond .ge 7, 3) := by decide +kernel
theorem dX9_ahead_54 : decode cX9_ahead 54 = .ok (.iconst 1, 1) := by decide +kernel
theorem dX9_ahead_55 : decode cX9_ahead 55 = .ok (.goto 4, 3) := by decide +kernel
theorem dX9_ahead_58 : decode cX9_ahead 58 = .ok (.iconst 0, 1) := by decide +kernel
theorem dX9_ahead_59 : decode cX9_ahead 59 = .ok (.ireturn, 1) := by decide +kernel
set_option maxRecDepth 20000 in
theorem ggX9_waitAhead_X9_isThere : GoodIn wsX9_waitAhead wsX9_isThere := goodIn_r _ [10, 11, 57, 58, 59, 60, 61, 62, 63, 64, 65, 66, 67, 68, 69, 70, 71, 72, 73, 74, 75, 76, 77, 78, 79, 80] (by decide +kernel) (by decide +kernel)
set_option maxRecDepth 20000 in
theorem gX9_waitAhead_X9_isThere : GoodIn wsX9_waitAhead (wsV RX9 184 RX9 yX9_isThere wsX9_isThere) := goodIn_app (goodIn_of _ (by decide +kernel)) ggX9_waitAhead_X9_isThere
set_option maxRecDepth 20000 in
theorem ggX9_waitAhead_X9_isDoor : GoodIn wsX9_waitAhead wsX9_isDoor := goodIn_r _ [15, 11, 16, 17, 9, 18, 57, 58, 59, 60, 61, 62, 63, 64, 65, 66, 67, 68, 69, 70, 71, 72, 73, 74, 75, 76, 77, 78, 79, 80] (by decide +kernel) (by decide +kernel)
set_option maxRecDepth 20000 in
theorem gX9_waitAhead_X9_isDoor : GoodIn wsX9_waitAhead (wsV RX9 196 RX9 yX9_isDoor wsX9_isDoor) := goodIn_app (goodIn_of _ (by decide +kernel)) ggX9_waitAhead_X9_isDoor
set_option maxRecDepth 20000 in
theorem ggX9_waitAhead_X9_in : GoodIn wsX9_waitAhead wsX9_in := goodIn_r _ [18] (by decide +kernel) (by decide +kernel)
set_option maxRecDepth 20000 in
theorem gX9_waitAhead_X9_in : GoodIn wsX9_waitAhead (va_wsS RX9 57 yX9_in wsX9_in) := goodIn_app (goodIn_of _ (by decide +kernel)) ggX9_waitAhead_X9_in
set_option maxRecDepth 20000 in
theorem ggX9_waitAhead_X9_layThen : GoodIn wsX9_waitAhead wsX9_layThen := goodIn_r _ [22, 5, 11, 57, 58, 59, 60, 61, 62, 63, 64, 65, 66, 67, 68, 69, 70, 71, 72, 73, 74, 75, 76, 77, 78, 79, 80] (by decide +kernel) (by decide +kernel)
set_option maxRecDepth 20000 in
theorem gX9_waitAhead_X9_layThen : GoodIn wsX9_waitAhead (wsV RX9 206 RX9 yX9_layThen wsX9_layThen) := goodIn_app (goodIn_of _ (by decide +kernel)) ggX9_waitAhead_X9_layThen
set_option maxRecDepth 20000 in
theorem ggX9_waitAhead_X9_stepsOf : GoodIn wsX9_waitAhead wsX9_stepsOf := goodIn_r _ [26, 27, 28, 29, 9, 30, 31, 32, 33, 34, 35, 36, 37, 38, 39, 40, 41, 42, 43, 44, 45, 46, 47, 48, 49, 50, 57, 58, 59, 60, 61, 62, 63, 64, 65, 66, 67, 68, 69, 70, 71, 72, 73, 74, 75, 76, 77, 78, 79, 80] (by decide +kernel) (by decide +kernel)
set_option maxRecDepth 20000 in
theorem gX9_waitAhead_X9_stepsOf : GoodIn wsX9_waitAhead (wsV RX9 175 RX9 yX9_stepsOf wsX9_stepsOf) := goodIn_app (goodIn_of _ (by decide +kernel)) ggX9_waitAhead_X9_stepsOf
set_option maxRecDepth 20000 in
theorem ggX9_waitAhead_X9_waiting : GoodIn wsX9_waitAhead wsX9_waiting := goodIn_r _ [53, 36, 37, 9, 38, 39, 40, 41] (by decide +kernel) (by decide +kernel)
set_option maxRecDepth 20000 in
theorem gX9_waitAhead_X9_waiting : GoodIn wsX9_waitAhead (va_wsS RX9 178 yX9_waiting wsX9_waiting) := goodIn_app (goodIn_of _ (by decide +kernel)) ggX9_waitAhead_X9_waiting
set_option maxRecDepth 20000 in
theorem ggX9_waitAhead_X9_bits : GoodIn wsX9_waitAhead wsX9_bits := goodIn_r _ [56] (by decide +kernel) (by decide +kernel)
set_option maxRecDepth 20000 in
theorem gX9_waitAhead_X9_bits : GoodIn wsX9_waitAhead (va_wsS RX9 181 yX9_bits wsX9_bits) := goodIn_app (goodIn_of _ (by decide +kernel)) ggX9_waitAhead_X9_bits
theorem dX9_waitAhead_0 : decode cX9_waitAhead 0 = .ok (.aload_n 0, 1) := by decide +kernel
theorem dX9_waitAhead_1 : decode cX9_waitAhead 1 = .ok (.iconst 0, 1) := by decide +kernel
theorem dX9_waitAhead_2 : decode cX9_waitAhead 2 = .ok (.putfield 47, 3) := by decide +kernel
theorem dX9_waitAhead_5 : decode cX9_waitAhead 5 = .ok (.aload_n 0, 1) := by decide +kernel
theorem dX9_waitAhead_6 : decode cX9_waitAhead 6 = .ok (.invokevirtual 184, 3) := by decide +kernel
theorem dX9_waitAhead_9 : decode cX9_waitAhead 9 = .ok (.ifCond .ne 6, 3) := by decide +kernel
theorem dX9_waitAhead_12 : decode cX9_waitAhead 12 = .ok (.ldc 187, 2) := by decide +kernel
theorem dX9_waitAhead_14 : decode cX9_waitAhead 14 = .ok (.ireturn, 1) := by decide +kernel
theorem dX9_waitAhead_15 : decode cX9_waitAhead 15 = .ok (.aload_n 0, 1) := by decide +kernel
theorem dX9_waitAhead_16 : decode cX9_waitAhead 16 = .ok (.iload_n 1, 1) := by decide +kernel
theorem dX9_waitAhead_17 : decode cX9_waitAhead 17 = .ok (.invokevirtual 196, 3) := by decide +kernel
theorem dX9_waitAhead_20 : decode cX9_waitAhead 20 = .ok (.ifCond .eq 15, 3) := by decide +kernel
theorem dX9_waitAhead_23 : decode cX9_waitAhead 23 = .ok (.iload_n 2, 1) := by decide +kernel
theorem dX9_waitAhead_24 : decode cX9_waitAhead 24 = .ok (.i2l, 1) := by decide +kernel
theorem dX9_waitAhead_25 : decode cX9_waitAhead 25 = .ok (.lconst 0, 1) := by decide +kernel
theorem dX9_waitAhead_26 : decode cX9_waitAhead 26 = .ok (.ldc2_w 204, 3) := by decide +kernel
theorem dX9_waitAhead_29 : decode cX9_waitAhead 29 = .ok (.invokestatic 57, 3) := by decide +kernel
theorem dX9_waitAhead_32 : decode cX9_waitAhead 32 = .ok (.ifCond .ne 6, 3) := by decide +kernel
theorem dX9_waitAhead_35 : decode cX9_waitAhead 35 = .ok (.ldc 67, 2) := by decide +kernel
theorem dX9_waitAhead_37 : decode cX9_waitAhead 37 = .ok (.ireturn, 1) := by decide +kernel
theorem dX9_waitAhead_38 : decode cX9_waitAhead 38 = .ok (.aload_n 0, 1) := by decide +kernel
theorem dX9_waitAhead_39 : decode cX9_waitAhead 39 = .ok (.invokevirtual 206, 3) := by decide +kernel
theorem dX9_waitAhead_42 : decode cX9_waitAhead 42 = .ok (.aload_n 0, 1) := by decide +kernel
theorem dX9_waitAhead_43 : decode cX9_waitAhead 43 = .ok (.aload_n 0, 1) := by decide +kernel
theorem dX9_waitAhead_44 : decode cX9_waitAhead 44 = .ok (.getfield 25, 3) := by decide +kernel
theorem dX9_waitAhead_47 : decode cX9_waitAhead 47 = .ok (.iload_n 2, 1) := by decide +kernel
theorem dX9_waitAhead_48 : decode cX9_waitAhead 48 = .ok (.invokevirtual 175, 3) := by decide +kernel
theorem dX9_waitAhead_51 : decode cX9_waitAhead 51 = .ok (.istore_n 3, 1) := by decide +kernel
theorem dX9_waitAhead_52 : decode cX9_waitAhead 52 = .ok (.aload_n 0, 1) := by decide +kernel
theorem dX9_waitAhead_53 : decode cX9_waitAhead 53 = .ok (.getfield 25, 3) := by decide +kernel
theorem dX9_waitAhead_56 : decode cX9_waitAhead 56 = .ok (.iload_n 1, 1) := by decide +kernel
theorem dX9_waitAhead_57 : decode cX9_waitAhead 57 = .ok (.invokestatic 178, 3) := by decide +kernel
theorem dX9_waitAhead_60 : decode cX9_waitAhead 60 = .ok (.invokestatic 181, 3) := by decide +kernel
theorem dX9_waitAhead_63 : decode cX9_waitAhead 63 = .ok (.ireturn, 1) := by decide +kernel
set_option maxRecDepth 20000 in
theorem ggX9_throughBy_X9_of : GoodIn wsX9_throughBy wsX9_of := goodIn_r _ [6] (by decide +kernel) (by decide +kernel)
set_option maxRecDepth 20000 in
theorem gX9_throughBy_X9_of : GoodIn wsX9_throughBy (va_wsS RX9 149 yX9_of wsX9_of) := goodIn_app (goodIn_of _ (by decide +kernel)) ggX9_throughBy_X9_of
set_option maxRecDepth 20000 in
theorem ggX9_throughBy_X9_step : GoodIn wsX9_throughBy wsX9_step := goodIn_r _ [10, 11, 2, 12, 13, 5, 14, 15, 16, 17, 3, 4, 6, 18, 19, 20, 21, 22, 23, 24, 25, 26, 27, 28, 29, 30, 31, 32, 33, 34, 35, 36, 37, 38, 39, 40, 41, 42, 43, 44, 45, 46, 47, 48, 49, 50] (by decide +kernel) (by decide +kernel)
set_option maxRecDepth 20000 in
theorem gX9_throughBy_X9_step : GoodIn wsX9_throughBy (wsV RX9 171 RX9 yX9_step wsX9_step) := goodIn_app (goodIn_of _ (by decide +kernel)) ggX9_throughBy_X9_step
theorem dX9_throughBy_0 : decode cX9_throughBy 0 = .ok (.iconst 0, 1) := by decide +kernel
theorem dX9_throughBy_1 : decode cX9_throughBy 1 = .ok (.istore_n 2, 1) := by decide +kernel
theorem dX9_throughBy_2 : decode cX9_throughBy 2 = .ok (.iload_n 2, 1) := by decide +kernel
theorem dX9_throughBy_3 : decode cX9_throughBy 3 = .ok (.bipush 60, 2) := by decide +kernel
theorem dX9_throughBy_5 : decode cX9_throughBy 5 = .ok (.if_icmp .gt 32, 3) := by decide +kernel
theorem dX9_throughBy_8 : decode cX9_throughBy 8 = .ok (.aload_n 0, 1) := by decide +kernel
theorem dX9_throughBy_9 : decode cX9_throughBy 9 = .ok (.getfield 25, 3) := by decide +kernel
theorem dX9_throughBy_12 : decode cX9_throughBy 12 = .ok (.iload_n 1, 1) := by decide +kernel
theorem dX9_throughBy_13 : decode cX9_throughBy 13 = .ok (.iconst 3, 1) := by decide +kernel
theorem dX9_throughBy_14 : decode cX9_throughBy 14 = .ok (.invokestatic 149, 3) := by decide +kernel
theorem dX9_throughBy_17 : decode cX9_throughBy 17 = .ok (.ifCond .ge 5, 3) := by decide +kernel
theorem dX9_throughBy_20 : decode cX9_throughBy 20 = .ok (.iload_n 2, 1) := by decide +kernel
theorem dX9_throughBy_21 : decode cX9_throughBy 21 = .ok (.ireturn, 1) := by decide +kernel
theorem dX9_throughBy_22 : decode cX9_throughBy 22 = .ok (.aload_n 0, 1) := by decide +kernel
theorem dX9_throughBy_23 : decode cX9_throughBy 23 = .ok (.aload_n 0, 1) := by decide +kernel
theorem dX9_throughBy_24 : decode cX9_throughBy 24 = .ok (.getfield 25, 3) := by decide +kernel
theorem dX9_throughBy_27 : decode cX9_throughBy 27 = .ok (.invokevirtual 171, 3) := by decide +kernel
theorem dX9_throughBy_30 : decode cX9_throughBy 30 = .ok (.istore_n 3, 1) := by decide +kernel
theorem dX9_throughBy_31 : decode cX9_throughBy 31 = .ok (.iinc 2 1, 3) := by decide +kernel
theorem dX9_throughBy_34 : decode cX9_throughBy 34 = .ok (.goto (-32), 3) := by decide +kernel
theorem dX9_throughBy_37 : decode cX9_throughBy 37 = .ok (.ldc 90, 2) := by decide +kernel
theorem dX9_throughBy_39 : decode cX9_throughBy 39 = .ok (.ireturn, 1) := by decide +kernel
set_option maxRecDepth 20000 in
theorem ggX9_goes_X9_isPerson : GoodIn wsX9_goes wsX9_isPerson := goodIn_r _ [7, 8, 9, 10, 6, 11, 45, 46, 47, 48, 49, 50, 51, 52, 53, 54, 55, 56, 57, 58, 59, 60, 61, 62, 63, 64, 65, 66, 67, 68] (by decide +kernel) (by decide +kernel)
set_option maxRecDepth 20000 in
theorem gX9_goes_X9_isPerson : GoodIn wsX9_goes (wsV RX9 193 RX9 yX9_isPerson wsX9_isPerson) := goodIn_app (goodIn_of _ (by decide +kernel)) ggX9_goes_X9_isPerson
set_option maxRecDepth 20000 in
theorem ggX9_goes_X9_layThen : GoodIn wsX9_goes wsX9_layThen := goodIn_r _ [15, 16, 8, 45, 46, 47, 48, 49, 50, 51, 52, 53, 54, 55, 56, 57, 58, 59, 60, 61, 62, 63, 64, 65, 66, 67, 68] (by decide +kernel) (by decide +kernel)
set_option maxRecDepth 20000 in
theorem gX9_goes_X9_layThen : GoodIn wsX9_goes (wsV RX9 206 RX9 yX9_layThen wsX9_layThen) := goodIn_app (goodIn_of _ (by decide +kernel)) ggX9_goes_X9_layThen
set_option maxRecDepth 20000 in
theorem ggX9_goes_X9_throughBy : GoodIn wsX9_goes wsX9_throughBy := goodIn_r _ [20, 16, 21, 22, 23, 6, 24, 25, 26, 27, 28, 29, 30, 31, 32, 33, 34, 35, 36, 37, 38, 39, 40, 41, 42, 43, 44, 45, 46, 47, 48, 49, 50, 51, 52, 53, 54, 55, 56, 57, 58, 59, 60, 61, 62, 63, 64, 65, 66, 67, 68] (by decide +kernel) (by decide +kernel)
set_option maxRecDepth 20000 in
theorem gX9_goes_X9_throughBy : GoodIn wsX9_goes (wsV RX9 209 RX9 yX9_throughBy wsX9_throughBy) := goodIn_app (goodIn_of _ (by decide +kernel)) ggX9_goes_X9_throughBy
theorem dX9_goes_0 : decode cX9_goes 0 = .ok (.aload_n 0, 1) := by decide +kernel
theorem dX9_goes_1 : decode cX9_goes 1 = .ok (.iconst 0, 1) := by decide +kernel
theorem dX9_goes_2 : decode cX9_goes 2 = .ok (.putfield 47, 3) := by decide +kernel
theorem dX9_goes_5 : decode cX9_goes 5 = .ok (.aload_n 0, 1) := by decide +kernel
theorem dX9_goes_6 : decode cX9_goes 6 = .ok (.iload_n 1, 1) := by decide +kernel
theorem dX9_goes_7 : decode cX9_goes 7 = .ok (.invokevirtual 193, 3) := by decide +kernel
theorem dX9_goes_10 : decode cX9_goes 10 = .ok (.ifCond .ne 6, 3) := by decide +kernel
theorem dX9_goes_13 : decode cX9_goes 13 = .ok (.ldc 67, 2) := by decide +kernel
theorem dX9_goes_15 : decode cX9_goes 15 = .ok (.ireturn, 1) := by decide +kernel
theorem dX9_goes_16 : decode cX9_goes 16 = .ok (.aload_n 0, 1) := by decide +kernel
theorem dX9_goes_17 : decode cX9_goes 17 = .ok (.invokevirtual 206, 3) := by decide +kernel
theorem dX9_goes_20 : decode cX9_goes 20 = .ok (.aload_n 0, 1) := by decide +kernel
theorem dX9_goes_21 : decode cX9_goes 21 = .ok (.iload_n 1, 1) := by decide +kernel
theorem dX9_goes_22 : decode cX9_goes 22 = .ok (.invokevirtual 209, 3) := by decide +kernel
theorem dX9_goes_25 : decode cX9_goes 25 = .ok (.ireturn, 1) := by decide +kernel
set_option maxRecDepth 20000 in
theorem ggX9_stuck_X9_isThere : GoodIn wsX9_stuck wsX9_isThere := goodIn_r _ [8, 9, 42, 43, 44, 45, 46, 47, 48, 49, 50, 51, 52, 53, 54, 55, 56, 57, 58, 59, 60, 61, 62, 63, 64, 65] (by decide +kernel) (by decide +kernel)
set_option maxRecDepth 20000 in
theorem gX9_stuck_X9_isThere : GoodIn wsX9_stuck (wsV RX9 184 RX9 yX9_isThere wsX9_isThere) := goodIn_app (goodIn_of _ (by decide +kernel)) ggX9_stuck_X9_isThere
set_option maxRecDepth 20000 in
theorem ggX9_stuck_X9_layThen : GoodIn wsX9_stuck wsX9_layThen := goodIn_r _ [13, 3, 9, 42, 43, 44, 45, 46, 47, 48, 49, 50, 51, 52, 53, 54, 55, 56, 57, 58, 59, 60, 61, 62, 63, 64, 65] (by decide +kernel) (by decide +kernel)
set_option maxRecDepth 20000 in
theorem gX9_stuck_X9_layThen : GoodIn wsX9_stuck (wsV RX9 206 RX9 yX9_layThen wsX9_layThen) := goodIn_app (goodIn_of _ (by decide +kernel)) ggX9_stuck_X9_layThen
set_option maxRecDepth 20000 in
theorem ggX9_stuck_X9_stepsOf : GoodIn wsX9_stuck wsX9_stepsOf := goodIn_r _ [17, 18, 19, 20, 7, 21, 22, 23, 24, 25, 26, 27, 28, 29, 30, 31, 32, 33, 34, 35, 36, 37, 38, 39, 40, 41, 42, 43, 44, 45, 46, 47, 48, 49, 50, 51, 52, 53, 54, 55, 56, 57, 58, 59, 60, 61, 62, 63, 64, 65] (by decide +kernel) (by decide +kernel)
set_option maxRecDepth 20000 in
theorem gX9_stuck_X9_stepsOf : GoodIn wsX9_stuck (wsV RX9 175 RX9 yX9_stepsOf wsX9_stepsOf) := goodIn_app (goodIn_of _ (by decide +kernel)) ggX9_stuck_X9_stepsOf
set_option maxRecDepth 20000 in
theorem ggX9_stuck_X9_of : GoodIn wsX9_stuck wsX9_of := goodIn_r _ [32] (by decide +kernel) (by decide +kernel)
set_option maxRecDepth 20000 in
theorem gX9_stuck_X9_of : GoodIn wsX9_stuck (va_wsS RX9 149 yX9_of wsX9_of) := goodIn_app (goodIn_of _ (by decide +kernel)) ggX9_stuck_X9_of
theorem dX9_stuck_0 : decode cX9_stuck 0 = .ok (.aload_n 0, 1) := by decide +kernel
theorem dX9_stuck_1 : decode cX9_stuck 1 = .ok (.iconst 0, 1) := by decide +kernel
theorem dX9_stuck_2 : decode cX9_stuck 2 = .ok (.putfield 47, 3) := by decide +kernel
theorem dX9_stuck_5 : decode cX9_stuck 5 = .ok (.aload_n 0, 1) := by decide +kernel
theorem dX9_stuck_6 : decode cX9_stuck 6 = .ok (.invokevirtual 184, 3) := by decide +kernel
theorem dX9_stuck_9 : decode cX9_stuck 9 = .ok (.ifCond .ne 6, 3) := by decide +kernel
theorem dX9_stuck_12 : decode cX9_stuck 12 = .ok (.ldc 187, 2) := by decide +kernel
theorem dX9_stuck_14 : decode cX9_stuck 14 = .ok (.ireturn, 1) := by decide +kernel
theorem dX9_stuck_15 : decode cX9_stuck 15 = .ok (.aload_n 0, 1) := by decide +kernel
theorem dX9_stuck_16 : decode cX9_stuck 16 = .ok (.invokevirtual 206, 3) := by decide +kernel
theorem dX9_stuck_19 : decode cX9_stuck 19 = .ok (.aload_n 0, 1) := by decide +kernel
theorem dX9_stuck_20 : decode cX9_stuck 20 = .ok (.aload_n 0, 1) := by decide +kernel
theorem dX9_stuck_21 : decode cX9_stuck 21 = .ok (.getfield 25, 3) := by decide +kernel
theorem dX9_stuck_24 : decode cX9_stuck 24 = .ok (.bipush 60, 2) := by decide +kernel
theorem dX9_stuck_26 : decode cX9_stuck 26 = .ok (.invokevirtual 175, 3) := by decide +kernel
theorem dX9_stuck_29 : decode cX9_stuck 29 = .ok (.istore_n 1, 1) := by decide +kernel
theorem dX9_stuck_30 : decode cX9_stuck 30 = .ok (.iconst 0, 1) := by decide +kernel
theorem dX9_stuck_31 : decode cX9_stuck 31 = .ok (.istore_n 2, 1) := by decide +kernel
theorem dX9_stuck_32 : decode cX9_stuck 32 = .ok (.iconst 0, 1) := by decide +kernel
theorem dX9_stuck_33 : decode cX9_stuck 33 = .ok (.istore_n 3, 1) := by decide +kernel
theorem dX9_stuck_34 : decode cX9_stuck 34 = .ok (.iload_n 3, 1) := by decide +kernel
theorem dX9_stuck_35 : decode cX9_stuck 35 = .ok (.aload_n 0, 1) := by decide +kernel
theorem dX9_stuck_36 : decode cX9_stuck 36 = .ok (.getfield 25, 3) := by decide +kernel
theorem dX9_stuck_39 : decode cX9_stuck 39 = .ok (.iconst 2, 1) := by decide +kernel
theorem dX9_stuck_40 : decode cX9_stuck 40 = .ok (.iaload, 1) := by decide +kernel
theorem dX9_stuck_41 : decode cX9_stuck 41 = .ok (.if_icmp .ge 31, 3) := by decide +kernel
theorem dX9_stuck_44 : decode cX9_stuck 44 = .ok (.iload_n 2, 1) := by decide +kernel
theorem dX9_stuck_45 : decode cX9_stuck 45 = .ok (.aload_n 0, 1) := by decide +kernel
theorem dX9_stuck_46 : decode cX9_stuck 46 = .ok (.getfield 25, 3) := by decide +kernel
theorem dX9_stuck_49 : decode cX9_stuck 49 = .ok (.iload_n 3, 1) := by decide +kernel
theorem dX9_stuck_50 : decode cX9_stuck 50 = .ok (.iconst 3, 1) := by decide +kernel
theorem dX9_stuck_51 : decode cX9_stuck 51 = .ok (.invokestatic 149, 3) := by decide +kernel
theorem dX9_stuck_54 : decode cX9_stuck 54 = .ok (.ifCond .ge 7, 3) := by decide +kernel
theorem dX9_stuck_57 : decode cX9_stuck 57 = .ok (.iconst 0, 1) := by decide +kernel
theorem dX9_stuck_58 : decode cX9_stuck 58 = .ok (.goto 6, 3) := by decide +kernel
theorem dX9_stuck_61 : decode cX9_stuck 61 = .ok (.iconst 1, 1) := by decide +kernel
theorem dX9_stuck_62 : decode cX9_stuck 62 = .ok (.iload_n 3, 1) := by decide +kernel
theorem dX9_stuck_63 : decode cX9_stuck 63 = .ok (.ishl, 1) := by decide +kernel
theorem dX9_stuck_64 : decode cX9_stuck 64 = .ok (.ior, 1) := by decide +kernel
theorem dX9_stuck_65 : decode cX9_stuck 65 = .ok (.istore_n 2, 1) := by decide +kernel
theorem dX9_stuck_66 : decode cX9_stuck 66 = .ok (.iinc 3 1, 3) := by decide +kernel
theorem dX9_stuck_69 : decode cX9_stuck 69 = .ok (.goto (-35), 3) := by decide +kernel
theorem dX9_stuck_72 : decode cX9_stuck 72 = .ok (.iload_n 2, 1) := by decide +kernel
theorem dX9_stuck_73 : decode cX9_stuck 73 = .ok (.ireturn, 1) := by decide +kernel
set_option maxRecDepth 20000 in
theorem ggX9_hasRing_X9_yieldsTo : GoodIn wsX9_hasRing wsX9_yieldsTo := goodIn_r _ [5, 6, 7, 4, 8, 9, 10, 11, 12, 13, 14] (by decide +kernel) (by decide +kernel)
set_option maxRecDepth 20000 in
theorem gX9_hasRing_X9_yieldsTo : GoodIn wsX9_hasRing (va_wsS RX9 160 yX9_yieldsTo wsX9_yieldsTo) := goodIn_app (goodIn_of _ (by decide +kernel)) ggX9_hasRing_X9_yieldsTo
theorem dX9_hasRing_0 : decode cX9_hasRing 0 = .ok (.iload_n 1, 1) := by decide +kernel
theorem dX9_hasRing_1 : decode cX9_hasRing 1 = .ok (.istore_n 2, 1) := by decide +kernel
theorem dX9_hasRing_2 : decode cX9_hasRing 2 = .ok (.iconst 0, 1) := by decide +kernel
theorem dX9_hasRing_3 : decode cX9_hasRing 3 = .ok (.istore_n 3, 1) := by decide +kernel
theorem dX9_hasRing_4 : decode cX9_hasRing 4 = .ok (.iload_n 3, 1) := by decide +kernel
theorem dX9_hasRing_5 : decode cX9_hasRing 5 = .ok (.bipush 7, 2) := by decide +kernel
theorem dX9_hasRing_7 : decode cX9_hasRing 7 = .ok (.if_icmp .ge 74, 3) := by decide +kernel
theorem dX9_hasRing_10 : decode cX9_hasRing 10 = .ok (.iload_n 2, 1) := by decide +kernel
theorem dX9_hasRing_11 : decode cX9_hasRing 11 = .ok (.istore 4, 2) := by decide +kernel
theorem dX9_hasRing_13 : decode cX9_hasRing 13 = .ok (.iconst 0, 1) := by decide +kernel
theorem dX9_hasRing_14 : decode cX9_hasRing 14 = .ok (.istore 5, 2) := by decide +kernel
theorem dX9_hasRing_16 : decode cX9_hasRing 16 = .ok (.iload 5, 2) := by decide +kernel
theorem dX9_hasRing_18 : decode cX9_hasRing 18 = .ok (.aload_n 0, 1) := by decide +kernel
theorem dX9_hasRing_19 : decode cX9_hasRing 19 = .ok (.getfield 19, 3) := by decide +kernel
theorem dX9_hasRing_22 : decode cX9_hasRing 22 = .ok (.iconst 2, 1) := by decide +kernel
theorem dX9_hasRing_23 : decode cX9_hasRing 23 = .ok (.iaload, 1) := by decide +kernel
theorem dX9_hasRing_24 : decode cX9_hasRing 24 = .ok (.if_icmp .ge 48, 3) := by decide +kernel
theorem dX9_hasRing_27 : decode cX9_hasRing 27 = .ok (.iload 4, 2) := by decide +kernel
theorem dX9_hasRing_29 : decode cX9_hasRing 29 = .ok (.iload_n 2, 1) := by decide +kernel
theorem dX9_hasRing_30 : decode cX9_hasRing 30 = .ok (.iload 5, 2) := by decide +kernel
theorem dX9_hasRing_32 : decode cX9_hasRing 32 = .ok (.ishr, 1) := by decide +kernel
theorem dX9_hasRing_33 : decode cX9_hasRing 33 = .ok (.iconst 1, 1) := by decide +kernel
theorem dX9_hasRing_34 : decode cX9_hasRing 34 = .ok (.iand, 1) := by decide +kernel
theorem dX9_hasRing_35 : decode cX9_hasRing 35 = .ok (.iconst 1, 1) := by decide +kernel
theorem dX9_hasRing_36 : decode cX9_hasRing 36 = .ok (.if_icmp .ne 26, 3) := by decide +kernel
theorem dX9_hasRing_39 : decode cX9_hasRing 39 = .ok (.aload_n 0, 1) := by decide +kernel
theorem dX9_hasRing_40 : decode cX9_hasRing 40 = .ok (.getfield 19, 3) := by decide +kernel
theorem dX9_hasRing_43 : decode cX9_hasRing 43 = .ok (.iload 5, 2) := by decide +kernel
theorem dX9_hasRing_45 : decode cX9_hasRing 45 = .ok (.invokestatic 160, 3) := by decide +kernel
theorem dX9_hasRing_48 : decode cX9_hasRing 48 = .ok (.iload_n 2, 1) := by decide +kernel
theorem dX9_hasRing_49 : decode cX9_hasRing 49 = .ok (.iand, 1) := by decide +kernel
theorem dX9_hasRing_50 : decode cX9_hasRing 50 = .ok (.ifCond .ne 12, 3) := by decide +kernel
theorem dX9_hasRing_53 : decode cX9_hasRing 53 = .ok (.iconst 1, 1) := by decide +kernel
theorem dX9_hasRing_54 : decode cX9_hasRing 54 = .ok (.iload 5, 2) := by decide +kernel
theorem dX9_hasRing_56 : decode cX9_hasRing 56 = .ok (.ishl, 1) := by decide +kernel
theorem dX9_hasRing_57 : decode cX9_hasRing 57 = .ok (.iconst (-1), 1) := by decide +kernel
theorem dX9_hasRing_58 : decode cX9_hasRing 58 = .ok (.ixor, 1) := by decide +kernel
theorem dX9_hasRing_59 : decode cX9_hasRing 59 = .ok (.goto 4, 3) := by decide +kernel
theorem dX9_hasRing_62 : decode cX9_hasRing 62 = .ok (.iconst (-1), 1) := by decide +kernel
theorem dX9_hasRing_63 : decode cX9_hasRing 63 = .ok (.iand, 1) := by decide +kernel
theorem dX9_hasRing_64 : decode cX9_hasRing 64 = .ok (.istore 4, 2) := by decide +kernel
theorem dX9_hasRing_66 : decode cX9_hasRing 66 = .ok (.iinc 5 1, 3) := by decide +kernel
theorem dX9_hasRing_69 : decode cX9_hasRing 69 = .ok (.goto (-53), 3) := by decide +kernel
theorem dX9_hasRing_72 : decode cX9_hasRing 72 = .ok (.iload 4, 2) := by decide +kernel
theorem dX9_hasRing_74 : decode cX9_hasRing 74 = .ok (.istore_n 2, 1) := by decide +kernel
theorem dX9_hasRing_75 : decode cX9_hasRing 75 = .ok (.iinc 3 1, 3) := by decide +kernel
theorem dX9_hasRing_78 : decode cX9_hasRing 78 = .ok (.goto (-74), 3) := by decide +kernel
theorem dX9_hasRing_81 : decode cX9_hasRing 81 = .ok (.iload_n 2, 1) := by decide +kernel
theorem dX9_hasRing_82 : decode cX9_hasRing 82 = .ok (.ifCond .eq 7, 3) := by decide +kernel
theorem dX9_hasRing_85 : decode cX9_hasRing 85 = .ok (.iconst 1, 1) := by decide +kernel
theorem dX9_hasRing_86 : decode cX9_hasRing 86 = .ok (.goto 4, 3) := by decide +kernel
theorem dX9_hasRing_89 : decode cX9_hasRing 89 = .ok (.iconst 0, 1) := by decide +kernel
theorem dX9_hasRing_90 : decode cX9_hasRing 90 = .ok (.ireturn, 1) := by decide +kernel
set_option maxRecDepth 20000 in
theorem ggX9_ring_X9_isThere : GoodIn wsX9_ring wsX9_isThere := goodIn_r _ [10, 4, 43, 44, 45, 46, 47, 48, 49, 50, 51, 52, 53, 54, 55, 56, 57, 58, 59, 60, 61, 62, 63, 64, 65, 66] (by decide +kernel) (by decide +kernel)
set_option maxRecDepth 20000 in
theorem gX9_ring_X9_isThere : GoodIn wsX9_ring (wsV RX9 184 RX9 yX9_isThere wsX9_isThere) := goodIn_app (goodIn_of _ (by decide +kernel)) ggX9_ring_X9_isThere
set_option maxRecDepth 20000 in
theorem ggX9_ring_X9_isDoor : GoodIn wsX9_ring wsX9_isDoor := goodIn_r _ [14, 4, 15, 16, 9, 17, 43, 44, 45, 46, 47, 48, 49, 50, 51, 52, 53, 54, 55, 56, 57, 58, 59, 60, 61, 62, 63, 64, 65, 66] (by decide +kernel) (by decide +kernel)
set_option maxRecDepth 20000 in
theorem gX9_ring_X9_isDoor : GoodIn wsX9_ring (wsV RX9 196 RX9 yX9_isDoor wsX9_isDoor) := goodIn_app (goodIn_of _ (by decide +kernel)) ggX9_ring_X9_isDoor
set_option maxRecDepth 20000 in
theorem ggX9_ring_X9_in : GoodIn wsX9_ring wsX9_in := goodIn_r _ [17] (by decide +kernel) (by decide +kernel)
set_option maxRecDepth 20000 in
theorem gX9_ring_X9_in : GoodIn wsX9_ring (va_wsS RX9 57 yX9_in wsX9_in) := goodIn_app (goodIn_of _ (by decide +kernel)) ggX9_ring_X9_in
set_option maxRecDepth 20000 in
theorem ggX9_ring_X9_waiting : GoodIn wsX9_ring wsX9_waiting := goodIn_r _ [20, 21, 22, 9, 23, 24, 25, 26] (by decide +kernel) (by decide +kernel)
set_option maxRecDepth 20000 in
theorem gX9_ring_X9_waiting : GoodIn wsX9_ring (va_wsS RX9 178 yX9_waiting wsX9_waiting) := goodIn_app (goodIn_of _ (by decide +kernel)) ggX9_ring_X9_waiting
set_option maxRecDepth 20000 in
theorem ggX9_ring_X9_nobodies : GoodIn wsX9_ring wsX9_nobodies := goodIn_r _ [29, 24, 25, 9, 26] (by decide +kernel) (by decide +kernel)
set_option maxRecDepth 20000 in
theorem gX9_ring_X9_nobodies : GoodIn wsX9_ring (va_wsS RX9 199 yX9_nobodies wsX9_nobodies) := goodIn_app (goodIn_of _ (by decide +kernel)) ggX9_ring_X9_nobodies
set_option maxRecDepth 20000 in
theorem ggX9_ring_X9_bits : GoodIn wsX9_ring wsX9_bits := goodIn_r _ [32] (by decide +kernel) (by decide +kernel)
set_option maxRecDepth 20000 in
theorem gX9_ring_X9_bits : GoodIn wsX9_ring (va_wsS RX9 181 yX9_bits wsX9_bits) := goodIn_app (goodIn_of _ (by decide +kernel)) ggX9_ring_X9_bits
set_option maxRecDepth 20000 in
theorem ggX9_ring_X9_hasRing : GoodIn wsX9_ring wsX9_hasRing := goodIn_r _ [36, 4, 37, 38, 9, 39, 24, 25, 26, 21, 22, 23, 40, 41, 42, 43, 44, 45, 46, 47, 48, 49, 50, 51, 52, 53, 54, 55, 56, 57, 58, 59, 60, 61, 62, 63, 64, 65, 66] (by decide +kernel) (by decide +kernel)
set_option maxRecDepth 20000 in
theorem gX9_ring_X9_hasRing : GoodIn wsX9_ring (wsV RX9 212 RX9 yX9_hasRing wsX9_hasRing) := goodIn_app (goodIn_of _ (by decide +kernel)) ggX9_ring_X9_hasRing
theorem dX9_ring_0 : decode cX9_ring 0 = .ok (.aload_n 0, 1) := by decide +kernel
theorem dX9_ring_1 : decode cX9_ring 1 = .ok (.iconst 0, 1) := by decide +kernel
theorem dX9_ring_2 : decode cX9_ring 2 = .ok (.putfield 47, 3) := by decide +kernel
theorem dX9_ring_5 : decode cX9_ring 5 = .ok (.aload_n 0, 1) := by decide +kernel
theorem dX9_ring_6 : decode cX9_ring 6 = .ok (.invokevirtual 184, 3) := by decide +kernel
theorem dX9_ring_9 : decode cX9_ring 9 = .ok (.ifCond .ne 6, 3) := by decide +kernel
theorem dX9_ring_12 : decode cX9_ring 12 = .ok (.ldc 187, 2) := by decide +kernel
theorem dX9_ring_14 : decode cX9_ring 14 = .ok (.ireturn, 1) := by decide +kernel
theorem dX9_ring_15 : decode cX9_ring 15 = .ok (.aload_n 0, 1) := by decide +kernel
theorem dX9_ring_16 : decode cX9_ring 16 = .ok (.iload_n 1, 1) := by decide +kernel
theorem dX9_ring_17 : decode cX9_ring 17 = .ok (.invokevirtual 196, 3) := by decide +kernel
theorem dX9_ring_20 : decode cX9_ring 20 = .ok (.ifCond .eq 13, 3) := by decide +kernel
theorem dX9_ring_23 : decode cX9_ring 23 = .ok (.iload_n 2, 1) := by decide +kernel
theorem dX9_ring_24 : decode cX9_ring 24 = .ok (.i2l, 1) := by decide +kernel
theorem dX9_ring_25 : decode cX9_ring 25 = .ok (.lconst 0, 1) := by decide +kernel
theorem dX9_ring_26 : decode cX9_ring 26 = .ok (.lconst 1, 1) := by decide +kernel
theorem dX9_ring_27 : decode cX9_ring 27 = .ok (.invokestatic 57, 3) := by decide +kernel
theorem dX9_ring_30 : decode cX9_ring 30 = .ok (.ifCond .ne 6, 3) := by decide +kernel
theorem dX9_ring_33 : decode cX9_ring 33 = .ok (.ldc 67, 2) := by decide +kernel
theorem dX9_ring_35 : decode cX9_ring 35 = .ok (.ireturn, 1) := by decide +kernel
theorem dX9_ring_36 : decode cX9_ring 36 = .ok (.aload_n 0, 1) := by decide +kernel
theorem dX9_ring_37 : decode cX9_ring 37 = .ok (.getfield 19, 3) := by decide +kernel
theorem dX9_ring_40 : decode cX9_ring 40 = .ok (.iload_n 1, 1) := by decide +kernel
theorem dX9_ring_41 : decode cX9_ring 41 = .ok (.invokestatic 178, 3) := by decide +kernel
theorem dX9_ring_44 : decode cX9_ring 44 = .ok (.aload_n 0, 1) := by decide +kernel
theorem dX9_ring_45 : decode cX9_ring 45 = .ok (.getfield 19, 3) := by decide +kernel
theorem dX9_ring_48 : decode cX9_ring 48 = .ok (.invokestatic 199, 3) := by decide +kernel
theorem dX9_ring_51 : decode cX9_ring 51 = .ok (.iconst (-1), 1) := by decide +kernel
theorem dX9_ring_52 : decode cX9_ring 52 = .ok (.ixor, 1) := by decide +kernel
theorem dX9_ring_53 : decode cX9_ring 53 = .ok (.iand, 1) := by decide +kernel
theorem dX9_ring_54 : decode cX9_ring 54 = .ok (.istore_n 3, 1) := by decide +kernel
theorem dX9_ring_55 : decode cX9_ring 55 = .ok (.ldc 90, 2) := by decide +kernel
theorem dX9_ring_57 : decode cX9_ring 57 = .ok (.istore 4, 2) := by decide +kernel
theorem dX9_ring_59 : decode cX9_ring 59 = .ok (.iconst 1, 1) := by decide +kernel
theorem dX9_ring_60 : decode cX9_ring 60 = .ok (.istore 5, 2) := by decide +kernel
theorem dX9_ring_62 : decode cX9_ring 62 = .ok (.iload 5, 2) := by decide +kernel
theorem dX9_ring_64 : decode cX9_ring 64 = .ok (.iload_n 3, 1) := by decide +kernel
theorem dX9_ring_65 : decode cX9_ring 65 = .ok (.if_icmp .gt 68, 3) := by decide +kernel
theorem dX9_ring_68 : decode cX9_ring 68 = .ok (.iload 5, 2) := by decide +kernel
theorem dX9_ring_70 : decode cX9_ring 70 = .ok (.iload_n 3, 1) := by decide +kernel
theorem dX9_ring_71 : decode cX9_ring 71 = .ok (.iconst (-1), 1) := by decide +kernel
theorem dX9_ring_72 : decode cX9_ring 72 = .ok (.ixor, 1) := by decide +kernel
theorem dX9_ring_73 : decode cX9_ring 73 = .ok (.iand, 1) := by decide +kernel
theorem dX9_ring_74 : decode cX9_ring 74 = .ok (.ifCond .ne 27, 3) := by decide +kernel
theorem dX9_ring_77 : decode cX9_ring 77 = .ok (.iload 4, 2) := by decide +kernel
theorem dX9_ring_79 : decode cX9_ring 79 = .ok (.ldc 90, 2) := by decide +kernel
theorem dX9_ring_81 : decode cX9_ring 81 = .ok (.if_icmp .eq 16, 3) := by decide +kernel
theorem dX9_ring_84 : decode cX9_ring 84 = .ok (.iload 5, 2) := by decide +kernel
theorem dX9_ring_86 : decode cX9_ring 86 = .ok (.invokestatic 181, 3) := by decide +kernel
theorem dX9_ring_89 : decode cX9_ring 89 = .ok (.iload 4, 2) := by decide +kernel
theorem dX9_ring_91 : decode cX9_ring 91 = .ok (.invokestatic 181, 3) := by decide +kernel
theorem dX9_ring_94 : decode cX9_ring 94 = .ok (.if_icmp .ge 7, 3) := by decide +kernel
theorem dX9_ring_97 : decode cX9_ring 97 = .ok (.iconst 1, 1) := by decide +kernel
theorem dX9_ring_98 : decode cX9_ring 98 = .ok (.goto 4, 3) := by decide +kernel
theorem dX9_ring_101 : decode cX9_ring 101 = .ok (.iconst 0, 1) := by decide +kernel
theorem dX9_ring_102 : decode cX9_ring 102 = .ok (.istore 6, 2) := by decide +kernel
theorem dX9_ring_104 : decode cX9_ring 104 = .ok (.iload 6, 2) := by decide +kernel
theorem dX9_ring_106 : decode cX9_ring 106 = .ok (.ifCond .eq 17, 3) := by decide +kernel
theorem dX9_ring_109 : decode cX9_ring 109 = .ok (.aload_n 0, 1) := by decide +kernel
theorem dX9_ring_110 : decode cX9_ring 110 = .ok (.iload 5, 2) := by decide +kernel
theorem dX9_ring_112 : decode cX9_ring 112 = .ok (.invokevirtual 212, 3) := by decide +kernel
theorem dX9_ring_115 : decode cX9_ring 115 = .ok (.ifCond .eq 8, 3) := by decide +kernel
theorem dX9_ring_118 : decode cX9_ring 118 = .ok (.iload 5, 2) := by decide +kernel
theorem dX9_ring_120 : decode cX9_ring 120 = .ok (.goto 5, 3) := by decide +kernel
theorem dX9_ring_123 : decode cX9_ring 123 = .ok (.iload 4, 2) := by decide +kernel
theorem dX9_ring_125 : decode cX9_ring 125 = .ok (.istore 4, 2) := by decide +kernel
theorem dX9_ring_127 : decode cX9_ring 127 = .ok (.iinc 5 1, 3) := by decide +kernel
theorem dX9_ring_130 : decode cX9_ring 130 = .ok (.goto (-68), 3) := by decide +kernel
theorem dX9_ring_133 : decode cX9_ring 133 = .ok (.iload 4, 2) := by decide +kernel
theorem dX9_ring_135 : decode cX9_ring 135 = .ok (.ldc 90, 2) := by decide +kernel
theorem dX9_ring_137 : decode cX9_ring 137 = .ok (.if_icmp .eq 8, 3) := by decide +kernel
theorem dX9_ring_140 : decode cX9_ring 140 = .ok (.iload_n 2, 1) := by decide +kernel
theorem dX9_ring_141 : decode cX9_ring 141 = .ok (.iconst 1, 1) := by decide +kernel
theorem dX9_ring_142 : decode cX9_ring 142 = .ok (.if_icmp .ne 8, 3) := by decide +kernel
theorem dX9_ring_145 : decode cX9_ring 145 = .ok (.iload 4, 2) := by decide +kernel
theorem dX9_ring_147 : decode cX9_ring 147 = .ok (.goto 8, 3) := by decide +kernel
theorem dX9_ring_150 : decode cX9_ring 150 = .ok (.iload 4, 2) := by decide +kernel
theorem dX9_ring_152 : decode cX9_ring 152 = .ok (.invokestatic 181, 3) := by decide +kernel
theorem dX9_ring_155 : decode cX9_ring 155 = .ok (.ireturn, 1) := by decide +kernel
set_option maxRecDepth 20000 in
theorem ggX9_bows_X9_isThere : GoodIn wsX9_bows wsX9_isThere := goodIn_r _ [11, 4, 60, 61, 62, 63, 64, 65, 66, 67, 68, 69, 70, 71, 72, 73, 74, 75, 76, 77, 78, 79, 80, 81, 82, 83] (by decide +kernel) (by decide +kernel)
set_option maxRecDepth 20000 in
theorem gX9_bows_X9_isThere : GoodIn wsX9_bows (wsV RX9 184 RX9 yX9_isThere wsX9_isThere) := goodIn_app (goodIn_of _ (by decide +kernel)) ggX9_bows_X9_isThere
set_option maxRecDepth 20000 in
theorem ggX9_bows_X9_isDoor : GoodIn wsX9_bows wsX9_isDoor := goodIn_r _ [15, 4, 16, 17, 10, 18, 60, 61, 62, 63, 64, 65, 66, 67, 68, 69, 70, 71, 72, 73, 74, 75, 76, 77, 78, 79, 80, 81, 82, 83] (by decide +kernel) (by decide +kernel)
set_option maxRecDepth 20000 in
theorem gX9_bows_X9_isDoor : GoodIn wsX9_bows (wsV RX9 196 RX9 yX9_isDoor wsX9_isDoor) := goodIn_app (goodIn_of _ (by decide +kernel)) ggX9_bows_X9_isDoor
set_option maxRecDepth 20000 in
theorem ggX9_bows_X9_in : GoodIn wsX9_bows wsX9_in := goodIn_r _ [18] (by decide +kernel) (by decide +kernel)
set_option maxRecDepth 20000 in
theorem gX9_bows_X9_in : GoodIn wsX9_bows (va_wsS RX9 57 yX9_in wsX9_in) := goodIn_app (goodIn_of _ (by decide +kernel)) ggX9_bows_X9_in
set_option maxRecDepth 20000 in
theorem ggX9_bows_X9_waiting : GoodIn wsX9_bows wsX9_waiting := goodIn_r _ [21, 22, 23, 10, 24, 25, 26, 27] (by decide +kernel) (by decide +kernel)
set_option maxRecDepth 20000 in
theorem gX9_bows_X9_waiting : GoodIn wsX9_bows (va_wsS RX9 178 yX9_waiting wsX9_waiting) := goodIn_app (goodIn_of _ (by decide +kernel)) ggX9_bows_X9_waiting
set_option maxRecDepth 20000 in
theorem ggX9_bows_X9_bits : GoodIn wsX9_bows wsX9_bits := goodIn_r _ [30] (by decide +kernel) (by decide +kernel)
set_option maxRecDepth 20000 in
theorem gX9_bows_X9_bits : GoodIn wsX9_bows (va_wsS RX9 181 yX9_bits wsX9_bits) := goodIn_app (goodIn_of _ (by decide +kernel)) ggX9_bows_X9_bits
set_option maxRecDepth 20000 in
theorem ggX9_bows_X9_layThen : GoodIn wsX9_bows wsX9_layThen := goodIn_r _ [34, 6, 4, 60, 61, 62, 63, 64, 65, 66, 67, 68, 69, 70, 71, 72, 73, 74, 75, 76, 77, 78, 79, 80, 81, 82, 83] (by decide +kernel) (by decide +kernel)
set_option maxRecDepth 20000 in
theorem gX9_bows_X9_layThen : GoodIn wsX9_bows (wsV RX9 206 RX9 yX9_layThen wsX9_layThen) := goodIn_app (goodIn_of _ (by decide +kernel)) ggX9_bows_X9_layThen
set_option maxRecDepth 20000 in
theorem ggX9_bows_X9_of : GoodIn wsX9_bows wsX9_of := goodIn_r _ [27] (by decide +kernel) (by decide +kernel)
set_option maxRecDepth 20000 in
theorem gX9_bows_X9_of : GoodIn wsX9_bows (va_wsS RX9 149 yX9_of wsX9_of) := goodIn_app (goodIn_of _ (by decide +kernel)) ggX9_bows_X9_of
set_option maxRecDepth 20000 in
theorem ggX9_bows_X9_leftAt : GoodIn wsX9_bows wsX9_leftAt := goodIn_r _ [38, 6, 39, 40, 41, 10, 42, 43, 44, 45, 46, 47, 5, 48, 49, 50, 22, 23, 24, 25, 26, 27, 51, 52, 53, 54, 55, 56, 57, 58, 59, 19, 20, 21, 28, 29, 30, 60, 61, 62, 63, 64, 65, 66, 67, 68, 69, 70, 71, 72, 73, 74, 75, 76, 77, 78, 79, 80, 81, 82, 83] (by decide +kernel) (by decide +kernel)
set_option maxRecDepth 20000 in
theorem gX9_bows_X9_leftAt : GoodIn wsX9_bows (wsV RX9 215 RX9 yX9_leftAt wsX9_leftAt) := goodIn_app (goodIn_of _ (by decide +kernel)) ggX9_bows_X9_leftAt
theorem dX9_bows_0 : decode cX9_bows 0 = .ok (.aload_n 0, 1) := by decide +kernel
theorem dX9_bows_1 : decode cX9_bows 1 = .ok (.iconst 0, 1) := by decide +kernel
theorem dX9_bows_2 : decode cX9_bows 2 = .ok (.putfield 47, 3) := by decide +kernel
theorem dX9_bows_5 : decode cX9_bows 5 = .ok (.aload_n 0, 1) := by decide +kernel
theorem dX9_bows_6 : decode cX9_bows 6 = .ok (.invokevirtual 184, 3) := by decide +kernel
theorem dX9_bows_9 : decode cX9_bows 9 = .ok (.ifCond .ne 6, 3) := by decide +kernel
theorem dX9_bows_12 : decode cX9_bows 12 = .ok (.ldc 187, 2) := by decide +kernel
theorem dX9_bows_14 : decode cX9_bows 14 = .ok (.ireturn, 1) := by decide +kernel
theorem dX9_bows_15 : decode cX9_bows 15 = .ok (.aload_n 0, 1) := by decide +kernel
theorem dX9_bows_16 : decode cX9_bows 16 = .ok (.iload_n 1, 1) := by decide +kernel
theorem dX9_bows_17 : decode cX9_bows 17 = .ok (.invokevirtual 196, 3) := by decide +kernel
theorem dX9_bows_20 : decode cX9_bows 20 = .ok (.ifCond .eq 13, 3) := by decide +kernel
theorem dX9_bows_23 : decode cX9_bows 23 = .ok (.iload_n 2, 1) := by decide +kernel
theorem dX9_bows_24 : decode cX9_bows 24 = .ok (.i2l, 1) := by decide +kernel
theorem dX9_bows_25 : decode cX9_bows 25 = .ok (.lconst 0, 1) := by decide +kernel
theorem dX9_bows_26 : decode cX9_bows 26 = .ok (.lconst 1, 1) := by decide +kernel
theorem dX9_bows_27 : decode cX9_bows 27 = .ok (.invokestatic 57, 3) := by decide +kernel
theorem dX9_bows_30 : decode cX9_bows 30 = .ok (.ifCond .ne 6, 3) := by decide +kernel
theorem dX9_bows_33 : decode cX9_bows 33 = .ok (.ldc 67, 2) := by decide +kernel
theorem dX9_bows_35 : decode cX9_bows 35 = .ok (.ireturn, 1) := by decide +kernel
theorem dX9_bows_36 : decode cX9_bows 36 = .ok (.aload_n 0, 1) := by decide +kernel
theorem dX9_bows_37 : decode cX9_bows 37 = .ok (.getfield 19, 3) := by decide +kernel
theorem dX9_bows_40 : decode cX9_bows 40 = .ok (.iload_n 1, 1) := by decide +kernel
theorem dX9_bows_41 : decode cX9_bows 41 = .ok (.invokestatic 178, 3) := by decide +kernel
theorem dX9_bows_44 : decode cX9_bows 44 = .ok (.istore_n 3, 1) := by decide +kernel
theorem dX9_bows_45 : decode cX9_bows 45 = .ok (.ldc 90, 2) := by decide +kernel
theorem dX9_bows_47 : decode cX9_bows 47 = .ok (.istore 4, 2) := by decide +kernel
theorem dX9_bows_49 : decode cX9_bows 49 = .ok (.iconst 0, 1) := by decide +kernel
theorem dX9_bows_50 : decode cX9_bows 50 = .ok (.istore 5, 2) := by decide +kernel
theorem dX9_bows_52 : decode cX9_bows 52 = .ok (.iload 5, 2) := by decide +kernel
theorem dX9_bows_54 : decode cX9_bows 54 = .ok (.iload_n 3, 1) := by decide +kernel
theorem dX9_bows_55 : decode cX9_bows 55 = .ok (.if_icmp .gt 122, 3) := by decide +kernel
theorem dX9_bows_58 : decode cX9_bows 58 = .ok (.iload 5, 2) := by decide +kernel
theorem dX9_bows_60 : decode cX9_bows 60 = .ok (.iload_n 3, 1) := by decide +kernel
theorem dX9_bows_61 : decode cX9_bows 61 = .ok (.iconst (-1), 1) := by decide +kernel
theorem dX9_bows_62 : decode cX9_bows 62 = .ok (.ixor, 1) := by decide +kernel
theorem dX9_bows_63 : decode cX9_bows 63 = .ok (.iand, 1) := by decide +kernel
theorem dX9_bows_64 : decode cX9_bows 64 = .ok (.ifCond .ne 107, 3) := by decide +kernel
theorem dX9_bows_67 : decode cX9_bows 67 = .ok (.iload 4, 2) := by decide +kernel
theorem dX9_bows_69 : decode cX9_bows 69 = .ok (.ldc 90, 2) := by decide +kernel
theorem dX9_bows_71 : decode cX9_bows 71 = .ok (.if_icmp .eq 16, 3) := by decide +kernel
theorem dX9_bows_74 : decode cX9_bows 74 = .ok (.iload 5, 2) := by decide +kernel
theorem dX9_bows_76 : decode cX9_bows 76 = .ok (.invokestatic 181, 3) := by decide +kernel
theorem dX9_bows_79 : decode cX9_bows 79 = .ok (.iload 4, 2) := by decide +kernel
theorem dX9_bows_81 : decode cX9_bows 81 = .ok (.invokestatic 181, 3) := by decide +kernel
theorem dX9_bows_84 : decode cX9_bows 84 = .ok (.if_icmp .ge 87, 3) := by decide +kernel
theorem dX9_bows_87 : decode cX9_bows 87 = .ok (.aload_n 0, 1) := by decide +kernel
theorem dX9_bows_88 : decode cX9_bows 88 = .ok (.invokevirtual 206, 3) := by decide +kernel
theorem dX9_bows_91 : decode cX9_bows 91 = .ok (.iconst 0, 1) := by decide +kernel
theorem dX9_bows_92 : decode cX9_bows 92 = .ok (.istore 6, 2) := by decide +kernel
theorem dX9_bows_94 : decode cX9_bows 94 = .ok (.iload 6, 2) := by decide +kernel
theorem dX9_bows_96 : decode cX9_bows 96 = .ok (.aload_n 0, 1) := by decide +kernel
theorem dX9_bows_97 : decode cX9_bows 97 = .ok (.getfield 19, 3) := by decide +kernel
theorem dX9_bows_100 : decode cX9_bows 100 = .ok (.iconst 2, 1) := by decide +kernel
theorem dX9_bows_101 : decode cX9_bows 101 = .ok (.iaload, 1) := by decide +kernel
theorem dX9_bows_102 : decode cX9_bows 102 = .ok (.if_icmp .ge 52, 3) := by decide +kernel
theorem dX9_bows_105 : decode cX9_bows 105 = .ok (.aload_n 0, 1) := by decide +kernel
theorem dX9_bows_106 : decode cX9_bows 106 = .ok (.getfield 25, 3) := by decide +kernel
theorem dX9_bows_109 : decode cX9_bows 109 = .ok (.iconst 4, 1) := by decide +kernel
theorem dX9_bows_110 : decode cX9_bows 110 = .ok (.iconst 5, 1) := by decide +kernel
theorem dX9_bows_111 : decode cX9_bows 111 = .ok (.iload 6, 2) := by decide +kernel
theorem dX9_bows_113 : decode cX9_bows 113 = .ok (.imul, 1) := by decide +kernel
theorem dX9_bows_114 : decode cX9_bows 114 = .ok (.iadd, 1) := by decide +kernel
theorem dX9_bows_115 : decode cX9_bows 115 = .ok (.iconst 4, 1) := by decide +kernel
theorem dX9_bows_116 : decode cX9_bows 116 = .ok (.iadd, 1) := by decide +kernel
theorem dX9_bows_117 : decode cX9_bows 117 = .ok (.iload 5, 2) := by decide +kernel
theorem dX9_bows_119 : decode cX9_bows 119 = .ok (.iload 6, 2) := by decide +kernel
theorem dX9_bows_121 : decode cX9_bows 121 = .ok (.ishr, 1) := by decide +kernel
theorem dX9_bows_122 : decode cX9_bows 122 = .ok (.iconst 1, 1) := by decide +kernel
theorem dX9_bows_123 : decode cX9_bows 123 = .ok (.iand, 1) := by decide +kernel
theorem dX9_bows_124 : decode cX9_bows 124 = .ok (.iconst 1, 1) := by decide +kernel
theorem dX9_bows_125 : decode cX9_bows 125 = .ok (.if_icmp .ne 12, 3) := by decide +kernel
theorem dX9_bows_128 : decode cX9_bows 128 = .ok (.aload_n 0, 1) := by decide +kernel
theorem dX9_bows_129 : decode cX9_bows 129 = .ok (.getfield 19, 3) := by decide +kernel
theorem dX9_bows_132 : decode cX9_bows 132 = .ok (.iconst 1, 1) := by decide +kernel
theorem dX9_bows_133 : decode cX9_bows 133 = .ok (.iaload, 1) := by decide +kernel
theorem dX9_bows_134 : decode cX9_bows 134 = .ok (.goto 13, 3) := by decide +kernel
theorem dX9_bows_137 : decode cX9_bows 137 = .ok (.aload_n 0, 1) := by decide +kernel
theorem dX9_bows_138 : decode cX9_bows 138 = .ok (.getfield 19, 3) := by decide +kernel
theorem dX9_bows_141 : decode cX9_bows 141 = .ok (.iload 6, 2) := by decide +kernel
theorem dX9_bows_143 : decode cX9_bows 143 = .ok (.iconst 4, 1) := by decide +kernel
theorem dX9_bows_144 : decode cX9_bows 144 = .ok (.invokestatic 149, 3) := by decide +kernel
theorem dX9_bows_147 : decode cX9_bows 147 = .ok (.iastore, 1) := by decide +kernel
theorem dX9_bows_148 : decode cX9_bows 148 = .ok (.iinc 6 1, 3) := by decide +kernel
theorem dX9_bows_151 : decode cX9_bows 151 = .ok (.goto (-57), 3) := by decide +kernel
theorem dX9_bows_154 : decode cX9_bows 154 = .ok (.aload_n 0, 1) := by decide +kernel
theorem dX9_bows_155 : decode cX9_bows 155 = .ok (.iload_n 1, 1) := by decide +kernel
theorem dX9_bows_156 : decode cX9_bows 156 = .ok (.invokevirtual 215, 3) := by decide +kernel
theorem dX9_bows_159 : decode cX9_bows 159 = .ok (.ifCond .ne 8, 3) := by decide +kernel
theorem dX9_bows_162 : decode cX9_bows 162 = .ok (.iload 5, 2) := by decide +kernel
theorem dX9_bows_164 : decode cX9_bows 164 = .ok (.goto 5, 3) := by decide +kernel
theorem dX9_bows_167 : decode cX9_bows 167 = .ok (.iload 4, 2) := by decide +kernel
theorem dX9_bows_169 : decode cX9_bows 169 = .ok (.istore 4, 2) := by decide +kernel
theorem dX9_bows_171 : decode cX9_bows 171 = .ok (.iinc 5 1, 3) := by decide +kernel
theorem dX9_bows_174 : decode cX9_bows 174 = .ok (.goto (-122), 3) := by decide +kernel
theorem dX9_bows_177 : decode cX9_bows 177 = .ok (.iload 4, 2) := by decide +kernel
theorem dX9_bows_179 : decode cX9_bows 179 = .ok (.ldc 90, 2) := by decide +kernel
theorem dX9_bows_181 : decode cX9_bows 181 = .ok (.if_icmp .eq 8, 3) := by decide +kernel
theorem dX9_bows_184 : decode cX9_bows 184 = .ok (.iload_n 2, 1) := by decide +kernel
theorem dX9_bows_185 : decode cX9_bows 185 = .ok (.iconst 1, 1) := by decide +kernel
theorem dX9_bows_186 : decode cX9_bows 186 = .ok (.if_icmp .ne 8, 3) := by decide +kernel
theorem dX9_bows_189 : decode cX9_bows 189 = .ok (.iload 4, 2) := by decide +kernel
theorem dX9_bows_191 : decode cX9_bows 191 = .ok (.goto 8, 3) := by decide +kernel
theorem dX9_bows_194 : decode cX9_bows 194 = .ok (.iload 4, 2) := by decide +kernel
theorem dX9_bows_196 : decode cX9_bows 196 = .ok (.invokestatic 181, 3) := by decide +kernel
theorem dX9_bows_199 : decode cX9_bows 199 = .ok (.ireturn, 1) := by decide +kernel
set_option maxRecDepth 20000 in
theorem ggX9_raise_X9_isThere : GoodIn wsX9_raise wsX9_isThere := goodIn_r _ [11, 5, 60, 61, 62, 63, 64, 65, 66, 67, 68, 69, 70, 71, 72, 73, 74, 75, 76, 77, 78, 79, 80, 81, 82, 83] (by decide +kernel) (by decide +kernel)
set_option maxRecDepth 20000 in
theorem gX9_raise_X9_isThere : GoodIn wsX9_raise (wsV RX9 184 RX9 yX9_isThere wsX9_isThere) := goodIn_app (goodIn_of _ (by decide +kernel)) ggX9_raise_X9_isThere
set_option maxRecDepth 20000 in
theorem ggX9_raise_X9_isDoor : GoodIn wsX9_raise wsX9_isDoor := goodIn_r _ [15, 5, 16, 17, 10, 18, 60, 61, 62, 63, 64, 65, 66, 67, 68, 69, 70, 71, 72, 73, 74, 75, 76, 77, 78, 79, 80, 81, 82, 83] (by decide +kernel) (by decide +kernel)
set_option maxRecDepth 20000 in
theorem gX9_raise_X9_isDoor : GoodIn wsX9_raise (wsV RX9 196 RX9 yX9_isDoor wsX9_isDoor) := goodIn_app (goodIn_of _ (by decide +kernel)) ggX9_raise_X9_isDoor
set_option maxRecDepth 20000 in
theorem ggX9_raise_X9_layThen : GoodIn wsX9_raise wsX9_layThen := goodIn_r _ [22, 6, 5, 60, 61, 62, 63, 64, 65, 66, 67, 68, 69, 70, 71, 72, 73, 74, 75, 76, 77, 78, 79, 80, 81, 82, 83] (by decide +kernel) (by decide +kernel)
set_option maxRecDepth 20000 in
theorem gX9_raise_X9_layThen : GoodIn wsX9_raise (wsV RX9 206 RX9 yX9_layThen wsX9_layThen) := goodIn_app (goodIn_of _ (by decide +kernel)) ggX9_raise_X9_layThen
set_option maxRecDepth 20000 in
theorem ggX9_raise_X9_leftAt : GoodIn wsX9_raise wsX9_leftAt := goodIn_r _ [26, 6, 27, 28, 29, 10, 30, 31, 32, 33, 34, 35, 4, 36, 37, 38, 39, 40, 41, 42, 43, 44, 45, 46, 47, 48, 49, 50, 51, 52, 53, 54, 55, 56, 57, 58, 59, 60, 61, 62, 63, 64, 65, 66, 67, 68, 69, 70, 71, 72, 73, 74, 75, 76, 77, 78, 79, 80, 81, 82, 83] (by decide +kernel) (by decide +kernel)
set_option maxRecDepth 20000 in
theorem gX9_raise_X9_leftAt : GoodIn wsX9_raise (wsV RX9 215 RX9 yX9_leftAt wsX9_leftAt) := goodIn_app (goodIn_of _ (by decide +kernel)) ggX9_raise_X9_leftAt
set_option maxRecDepth 20000 in
theorem ggX9_raise_X9_of : GoodIn wsX9_raise wsX9_of := goodIn_r _ [44] (by decide +kernel) (by decide +kernel)
set_option maxRecDepth 20000 in
theorem gX9_raise_X9_of : GoodIn wsX9_raise (va_wsS RX9 149 yX9_of wsX9_of) := goodIn_app (goodIn_of _ (by decide +kernel)) ggX9_raise_X9_of
set_option maxRecDepth 20000 in
theorem ggX9_raise_X9_waits : GoodIn wsX9_raise wsX9_waits := goodIn_r _ [41, 42, 43, 10, 44] (by decide +kernel) (by decide +kernel)
set_option maxRecDepth 20000 in
theorem gX9_raise_X9_waits : GoodIn wsX9_raise (va_wsS RX9 153 yX9_waits wsX9_waits) := goodIn_app (goodIn_of _ (by decide +kernel)) ggX9_raise_X9_waits
theorem dX9_raise_0 : decode cX9_raise 0 = .ok (.aload_n 0, 1) := by decide +kernel
theorem dX9_raise_1 : decode cX9_raise 1 = .ok (.iconst 0, 1) := by decide +kernel
theorem dX9_raise_2 : decode cX9_raise 2 = .ok (.putfield 47, 3) := by decide +kernel
theorem dX9_raise_5 : decode cX9_raise 5 = .ok (.aload_n 0, 1) := by decide +kernel
theorem dX9_raise_6 : decode cX9_raise 6 = .ok (.invokevirtual 184, 3) := by decide +kernel
theorem dX9_raise_9 : decode cX9_raise 9 = .ok (.ifCond .ne 6, 3) := by decide +kernel
theorem dX9_raise_12 : decode cX9_raise 12 = .ok (.ldc 187, 2) := by decide +kernel
theorem dX9_raise_14 : decode cX9_raise 14 = .ok (.ireturn, 1) := by decide +kernel
theorem dX9_raise_15 : decode cX9_raise 15 = .ok (.aload_n 0, 1) := by decide +kernel
theorem dX9_raise_16 : decode cX9_raise 16 = .ok (.iload_n 1, 1) := by decide +kernel
theorem dX9_raise_17 : decode cX9_raise 17 = .ok (.invokevirtual 196, 3) := by decide +kernel
theorem dX9_raise_20 : decode cX9_raise 20 = .ok (.ifCond .ne 6, 3) := by decide +kernel
theorem dX9_raise_23 : decode cX9_raise 23 = .ok (.ldc 67, 2) := by decide +kernel
theorem dX9_raise_25 : decode cX9_raise 25 = .ok (.ireturn, 1) := by decide +kernel
theorem dX9_raise_26 : decode cX9_raise 26 = .ok (.aload_n 0, 1) := by decide +kernel
theorem dX9_raise_27 : decode cX9_raise 27 = .ok (.invokevirtual 206, 3) := by decide +kernel
theorem dX9_raise_30 : decode cX9_raise 30 = .ok (.aload_n 0, 1) := by decide +kernel
theorem dX9_raise_31 : decode cX9_raise 31 = .ok (.iload_n 1, 1) := by decide +kernel
theorem dX9_raise_32 : decode cX9_raise 32 = .ok (.invokevirtual 215, 3) := by decide +kernel
theorem dX9_raise_35 : decode cX9_raise 35 = .ok (.ifCond .ne 5, 3) := by decide +kernel
theorem dX9_raise_38 : decode cX9_raise 38 = .ok (.iconst 0, 1) := by decide +kernel
theorem dX9_raise_39 : decode cX9_raise 39 = .ok (.ireturn, 1) := by decide +kernel
theorem dX9_raise_40 : decode cX9_raise 40 = .ok (.ldc 90, 2) := by decide +kernel
theorem dX9_raise_42 : decode cX9_raise 42 = .ok (.istore_n 2, 1) := by decide +kernel
theorem dX9_raise_43 : decode cX9_raise 43 = .ok (.iconst 0, 1) := by decide +kernel
theorem dX9_raise_44 : decode cX9_raise 44 = .ok (.istore_n 3, 1) := by decide +kernel
theorem dX9_raise_45 : decode cX9_raise 45 = .ok (.iload_n 3, 1) := by decide +kernel
theorem dX9_raise_46 : decode cX9_raise 46 = .ok (.aload_n 0, 1) := by decide +kernel
theorem dX9_raise_47 : decode cX9_raise 47 = .ok (.getfield 19, 3) := by decide +kernel
theorem dX9_raise_50 : decode cX9_raise 50 = .ok (.iconst 2, 1) := by decide +kernel
theorem dX9_raise_51 : decode cX9_raise 51 = .ok (.iaload, 1) := by decide +kernel
theorem dX9_raise_52 : decode cX9_raise 52 = .ok (.if_icmp .ge 127, 3) := by decide +kernel
theorem dX9_raise_55 : decode cX9_raise 55 = .ok (.iconst 0, 1) := by decide +kernel
theorem dX9_raise_56 : decode cX9_raise 56 = .ok (.istore 4, 2) := by decide +kernel
theorem dX9_raise_58 : decode cX9_raise 58 = .ok (.iload 4, 2) := by decide +kernel
theorem dX9_raise_60 : decode cX9_raise 60 = .ok (.bipush 10, 2) := by decide +kernel
theorem dX9_raise_62 : decode cX9_raise 62 = .ok (.if_icmp .ge 111, 3) := by decide +kernel
theorem dX9_raise_65 : decode cX9_raise 65 = .ok (.iload 4, 2) := by decide +kernel
theorem dX9_raise_67 : decode cX9_raise 67 = .ok (.aload_n 0, 1) := by decide +kernel
theorem dX9_raise_68 : decode cX9_raise 68 = .ok (.getfield 19, 3) := by decide +kernel
theorem dX9_raise_71 : decode cX9_raise 71 = .ok (.iload_n 3, 1) := by decide +kernel
theorem dX9_raise_72 : decode cX9_raise 72 = .ok (.iconst 1, 1) := by decide +kernel
theorem dX9_raise_73 : decode cX9_raise 73 = .ok (.invokestatic 149, 3) := by decide +kernel
theorem dX9_raise_76 : decode cX9_raise 76 = .ok (.isub, 1) := by decide +kernel
theorem dX9_raise_77 : decode cX9_raise 77 = .ok (.istore 5, 2) := by decide +kernel
theorem dX9_raise_79 : decode cX9_raise 79 = .ok (.bipush 100, 2) := by decide +kernel
theorem dX9_raise_81 : decode cX9_raise 81 = .ok (.iload 5, 2) := by decide +kernel
theorem dX9_raise_83 : decode cX9_raise 83 = .ok (.ifCond .ge 9, 3) := by decide +kernel
theorem dX9_raise_86 : decode cX9_raise 86 = .ok (.iload 5, 2) := by decide +kernel
theorem dX9_raise_88 : decode cX9_raise 88 = .ok (.ineg, 1) := by decide +kernel
theorem dX9_raise_89 : decode cX9_raise 89 = .ok (.goto 5, 3) := by decide +kernel
theorem dX9_raise_92 : decode cX9_raise 92 = .ok (.iload 5, 2) := by decide +kernel
theorem dX9_raise_94 : decode cX9_raise 94 = .ok (.imul, 1) := by decide +kernel
theorem dX9_raise_95 : decode cX9_raise 95 = .ok (.bipush 10, 2) := by decide +kernel
theorem dX9_raise_97 : decode cX9_raise 97 = .ok (.iload_n 3, 1) := by decide +kernel
theorem dX9_raise_98 : decode cX9_raise 98 = .ok (.imul, 1) := by decide +kernel
theorem dX9_raise_99 : decode cX9_raise 99 = .ok (.iadd, 1) := by decide +kernel
theorem dX9_raise_100 : decode cX9_raise 100 = .ok (.iload 4, 2) := by decide +kernel
theorem dX9_raise_102 : decode cX9_raise 102 = .ok (.iadd, 1) := by decide +kernel
theorem dX9_raise_103 : decode cX9_raise 103 = .ok (.istore 6, 2) := by decide +kernel
theorem dX9_raise_105 : decode cX9_raise 105 = .ok (.aload_n 0, 1) := by decide +kernel
theorem dX9_raise_106 : decode cX9_raise 106 = .ok (.getfield 19, 3) := by decide +kernel
theorem dX9_raise_109 : decode cX9_raise 109 = .ok (.iload_n 3, 1) := by decide +kernel
theorem dX9_raise_110 : decode cX9_raise 110 = .ok (.iload_n 1, 1) := by decide +kernel
theorem dX9_raise_111 : decode cX9_raise 111 = .ok (.invokestatic 153, 3) := by decide +kernel
theorem dX9_raise_114 : decode cX9_raise 114 = .ok (.ifCond .eq 53, 3) := by decide +kernel
theorem dX9_raise_117 : decode cX9_raise 117 = .ok (.iload 5, 2) := by decide +kernel
theorem dX9_raise_119 : decode cX9_raise 119 = .ok (.ifCond .eq 48, 3) := by decide +kernel
theorem dX9_raise_122 : decode cX9_raise 122 = .ok (.iload_n 2, 1) := by decide +kernel
theorem dX9_raise_123 : decode cX9_raise 123 = .ok (.ldc 90, 2) := by decide +kernel
theorem dX9_raise_125 : decode cX9_raise 125 = .ok (.if_icmp .eq 9, 3) := by decide +kernel
theorem dX9_raise_128 : decode cX9_raise 128 = .ok (.iload 6, 2) := by decide +kernel
theorem dX9_raise_130 : decode cX9_raise 130 = .ok (.iload_n 2, 1) := by decide +kernel
theorem dX9_raise_131 : decode cX9_raise 131 = .ok (.if_icmp .ge 36, 3) := by decide +kernel
theorem dX9_raise_134 : decode cX9_raise 134 = .ok (.aload_n 0, 1) := by decide +kernel
theorem dX9_raise_135 : decode cX9_raise 135 = .ok (.invokevirtual 206, 3) := by decide +kernel
theorem dX9_raise_138 : decode cX9_raise 138 = .ok (.aload_n 0, 1) := by decide +kernel
theorem dX9_raise_139 : decode cX9_raise 139 = .ok (.getfield 25, 3) := by decide +kernel
theorem dX9_raise_142 : decode cX9_raise 142 = .ok (.iconst 4, 1) := by decide +kernel
theorem dX9_raise_143 : decode cX9_raise 143 = .ok (.iconst 5, 1) := by decide +kernel
theorem dX9_raise_144 : decode cX9_raise 144 = .ok (.iload_n 3, 1) := by decide +kernel
theorem dX9_raise_145 : decode cX9_raise 145 = .ok (.imul, 1) := by decide +kernel
theorem dX9_raise_146 : decode cX9_raise 146 = .ok (.iadd, 1) := by decide +kernel
theorem dX9_raise_147 : decode cX9_raise 147 = .ok (.iconst 1, 1) := by decide +kernel
theorem dX9_raise_148 : decode cX9_raise 148 = .ok (.iadd, 1) := by decide +kernel
theorem dX9_raise_149 : decode cX9_raise 149 = .ok (.iload 4, 2) := by decide +kernel
theorem dX9_raise_151 : decode cX9_raise 151 = .ok (.iastore, 1) := by decide +kernel
theorem dX9_raise_152 : decode cX9_raise 152 = .ok (.aload_n 0, 1) := by decide +kernel
theorem dX9_raise_153 : decode cX9_raise 153 = .ok (.iload_n 1, 1) := by decide +kernel
theorem dX9_raise_154 : decode cX9_raise 154 = .ok (.invokevirtual 215, 3) := by decide +kernel
theorem dX9_raise_157 : decode cX9_raise 157 = .ok (.ifCond .ne 8, 3) := by decide +kernel
theorem dX9_raise_160 : decode cX9_raise 160 = .ok (.iload 6, 2) := by decide +kernel
theorem dX9_raise_162 : decode cX9_raise 162 = .ok (.goto 4, 3) := by decide +kernel
theorem dX9_raise_165 : decode cX9_raise 165 = .ok (.iload_n 2, 1) := by decide +kernel
theorem dX9_raise_166 : decode cX9_raise 166 = .ok (.istore_n 2, 1) := by decide +kernel
theorem dX9_raise_167 : decode cX9_raise 167 = .ok (.iinc 4 1, 3) := by decide +kernel
theorem dX9_raise_170 : decode cX9_raise 170 = .ok (.goto (-112), 3) := by decide +kernel
theorem dX9_raise_173 : decode cX9_raise 173 = .ok (.iinc 3 1, 3) := by decide +kernel
theorem dX9_raise_176 : decode cX9_raise 176 = .ok (.goto (-131), 3) := by decide +kernel
theorem dX9_raise_179 : decode cX9_raise 179 = .ok (.iload_n 2, 1) := by decide +kernel
theorem dX9_raise_180 : decode cX9_raise 180 = .ok (.ireturn, 1) := by decide +kernel
set_option maxRecDepth 20000 in
theorem ggX9_third_X9_isThere : GoodIn wsX9_third wsX9_isThere := goodIn_r _ [11, 5, 60, 61, 62, 63, 64, 65, 66, 67, 68, 69, 70, 71, 72, 73, 74, 75, 76, 77, 78, 79, 80, 81, 82, 83] (by decide +kernel) (by decide +kernel)
set_option maxRecDepth 20000 in
theorem gX9_third_X9_isThere : GoodIn wsX9_third (wsV RX9 184 RX9 yX9_isThere wsX9_isThere) := goodIn_app (goodIn_of _ (by decide +kernel)) ggX9_third_X9_isThere
set_option maxRecDepth 20000 in
theorem ggX9_third_X9_isDoor : GoodIn wsX9_third wsX9_isDoor := goodIn_r _ [15, 5, 16, 17, 10, 18, 60, 61, 62, 63, 64, 65, 66, 67, 68, 69, 70, 71, 72, 73, 74, 75, 76, 77, 78, 79, 80, 81, 82, 83] (by decide +kernel) (by decide +kernel)
set_option maxRecDepth 20000 in
theorem gX9_third_X9_isDoor : GoodIn wsX9_third (wsV RX9 196 RX9 yX9_isDoor wsX9_isDoor) := goodIn_app (goodIn_of _ (by decide +kernel)) ggX9_third_X9_isDoor
set_option maxRecDepth 20000 in
theorem ggX9_third_X9_in : GoodIn wsX9_third wsX9_in := goodIn_r _ [18] (by decide +kernel) (by decide +kernel)
set_option maxRecDepth 20000 in
theorem gX9_third_X9_in : GoodIn wsX9_third (va_wsS RX9 57 yX9_in wsX9_in) := goodIn_app (goodIn_of _ (by decide +kernel)) ggX9_third_X9_in
set_option maxRecDepth 20000 in
theorem ggX9_third_X9_waits : GoodIn wsX9_third wsX9_waits := goodIn_r _ [21, 22, 23, 10, 24] (by decide +kernel) (by decide +kernel)
set_option maxRecDepth 20000 in
theorem gX9_third_X9_waits : GoodIn wsX9_third (va_wsS RX9 153 yX9_waits wsX9_waits) := goodIn_app (goodIn_of _ (by decide +kernel)) ggX9_third_X9_waits
set_option maxRecDepth 20000 in
theorem ggX9_third_X9_layThen : GoodIn wsX9_third wsX9_layThen := goodIn_r _ [28, 6, 5, 60, 61, 62, 63, 64, 65, 66, 67, 68, 69, 70, 71, 72, 73, 74, 75, 76, 77, 78, 79, 80, 81, 82, 83] (by decide +kernel) (by decide +kernel)
set_option maxRecDepth 20000 in
theorem gX9_third_X9_layThen : GoodIn wsX9_third (wsV RX9 206 RX9 yX9_layThen wsX9_layThen) := goodIn_app (goodIn_of _ (by decide +kernel)) ggX9_third_X9_layThen
set_option maxRecDepth 20000 in
theorem ggX9_third_X9_leftAt : GoodIn wsX9_third wsX9_leftAt := goodIn_r _ [32, 6, 33, 34, 35, 10, 36, 37, 38, 39, 40, 41, 4, 42, 43, 44, 19, 20, 21, 22, 23, 24, 45, 46, 47, 48, 49, 50, 51, 52, 53, 54, 55, 56, 57, 58, 59, 60, 61, 62, 63, 64, 65, 66, 67, 68, 69, 70, 71, 72, 73, 74, 75, 76, 77, 78, 79, 80, 81, 82, 83] (by decide +kernel) (by decide +kernel)
set_option maxRecDepth 20000 in
theorem gX9_third_X9_leftAt : GoodIn wsX9_third (wsV RX9 215 RX9 yX9_leftAt wsX9_leftAt) := goodIn_app (goodIn_of _ (by decide +kernel)) ggX9_third_X9_leftAt
theorem dX9_third_0 : decode cX9_third 0 = .ok (.aload_n 0, 1) := by decide +kernel
theorem dX9_third_1 : decode cX9_third 1 = .ok (.iconst 0, 1) := by decide +kernel
theorem dX9_third_2 : decode cX9_third 2 = .ok (.putfield 47, 3) := by decide +kernel
theorem dX9_third_5 : decode cX9_third 5 = .ok (.aload_n 0, 1) := by decide +kernel
theorem dX9_third_6 : decode cX9_third 6 = .ok (.invokevirtual 184, 3) := by decide +kernel
theorem dX9_third_9 : decode cX9_third 9 = .ok (.ifCond .ne 6, 3) := by decide +kernel
theorem dX9_third_12 : decode cX9_third 12 = .ok (.ldc 187, 2) := by decide +kernel
theorem dX9_third_14 : decode cX9_third 14 = .ok (.ireturn, 1) := by decide +kernel
theorem dX9_third_15 : decode cX9_third 15 = .ok (.aload_n 0, 1) := by decide +kernel
theorem dX9_third_16 : decode cX9_third 16 = .ok (.iload_n 1, 1) := by decide +kernel
theorem dX9_third_17 : decode cX9_third 17 = .ok (.invokevirtual 196, 3) := by decide +kernel
theorem dX9_third_20 : decode cX9_third 20 = .ok (.ifCond .eq 13, 3) := by decide +kernel
theorem dX9_third_23 : decode cX9_third 23 = .ok (.iload_n 2, 1) := by decide +kernel
theorem dX9_third_24 : decode cX9_third 24 = .ok (.i2l, 1) := by decide +kernel
theorem dX9_third_25 : decode cX9_third 25 = .ok (.lconst 0, 1) := by decide +kernel
theorem dX9_third_26 : decode cX9_third 26 = .ok (.lconst 1, 1) := by decide +kernel
theorem dX9_third_27 : decode cX9_third 27 = .ok (.invokestatic 57, 3) := by decide +kernel
theorem dX9_third_30 : decode cX9_third 30 = .ok (.ifCond .ne 6, 3) := by decide +kernel
theorem dX9_third_33 : decode cX9_third 33 = .ok (.ldc 67, 2) := by decide +kernel
theorem dX9_third_35 : decode cX9_third 35 = .ok (.ireturn, 1) := by decide +kernel
theorem dX9_third_36 : decode cX9_third 36 = .ok (.ldc 90, 2) := by decide +kernel
theorem dX9_third_38 : decode cX9_third 38 = .ok (.istore_n 3, 1) := by decide +kernel
theorem dX9_third_39 : decode cX9_third 39 = .ok (.ldc 90, 2) := by decide +kernel
theorem dX9_third_41 : decode cX9_third 41 = .ok (.istore 4, 2) := by decide +kernel
theorem dX9_third_43 : decode cX9_third 43 = .ok (.iconst 0, 1) := by decide +kernel
theorem dX9_third_44 : decode cX9_third 44 = .ok (.istore 5, 2) := by decide +kernel
theorem dX9_third_46 : decode cX9_third 46 = .ok (.iload 5, 2) := by decide +kernel
theorem dX9_third_48 : decode cX9_third 48 = .ok (.aload_n 0, 1) := by decide +kernel
theorem dX9_third_49 : decode cX9_third 49 = .ok (.getfield 19, 3) := by decide +kernel
theorem dX9_third_52 : decode cX9_third 52 = .ok (.iconst 2, 1) := by decide +kernel
theorem dX9_third_53 : decode cX9_third 53 = .ok (.iaload, 1) := by decide +kernel
theorem dX9_third_54 : decode cX9_third 54 = .ok (.if_icmp .ge 93, 3) := by decide +kernel
theorem dX9_third_57 : decode cX9_third 57 = .ok (.aload_n 0, 1) := by decide +kernel
theorem dX9_third_58 : decode cX9_third 58 = .ok (.getfield 19, 3) := by decide +kernel
theorem dX9_third_61 : decode cX9_third 61 = .ok (.iload 5, 2) := by decide +kernel
theorem dX9_third_63 : decode cX9_third 63 = .ok (.iload_n 1, 1) := by decide +kernel
theorem dX9_third_64 : decode cX9_third 64 = .ok (.invokestatic 153, 3) := by decide +kernel
theorem dX9_third_67 : decode cX9_third 67 = .ok (.ifCond .ne 74, 3) := by decide +kernel
theorem dX9_third_70 : decode cX9_third 70 = .ok (.aload_n 0, 1) := by decide +kernel
theorem dX9_third_71 : decode cX9_third 71 = .ok (.invokevirtual 206, 3) := by decide +kernel
theorem dX9_third_74 : decode cX9_third 74 = .ok (.aload_n 0, 1) := by decide +kernel
theorem dX9_third_75 : decode cX9_third 75 = .ok (.getfield 25, 3) := by decide +kernel
theorem dX9_third_78 : decode cX9_third 78 = .ok (.iconst 4, 1) := by decide +kernel
theorem dX9_third_79 : decode cX9_third 79 = .ok (.iconst 5, 1) := by decide +kernel
theorem dX9_third_80 : decode cX9_third 80 = .ok (.iload 5, 2) := by decide +kernel
theorem dX9_third_82 : decode cX9_third 82 = .ok (.imul, 1) := by decide +kernel
theorem dX9_third_83 : decode cX9_third 83 = .ok (.iadd, 1) := by decide +kernel
theorem dX9_third_84 : decode cX9_third 84 = .ok (.iconst 3, 1) := by decide +kernel
theorem dX9_third_85 : decode cX9_third 85 = .ok (.iadd, 1) := by decide +kernel
theorem dX9_third_86 : decode cX9_third 86 = .ok (.iload_n 1, 1) := by decide +kernel
theorem dX9_third_87 : decode cX9_third 87 = .ok (.iastore, 1) := by decide +kernel
theorem dX9_third_88 : decode cX9_third 88 = .ok (.aload_n 0, 1) := by decide +kernel
theorem dX9_third_89 : decode cX9_third 89 = .ok (.iload_n 1, 1) := by decide +kernel
theorem dX9_third_90 : decode cX9_third 90 = .ok (.invokevirtual 215, 3) := by decide +kernel
theorem dX9_third_93 : decode cX9_third 93 = .ok (.istore 6, 2) := by decide +kernel
theorem dX9_third_95 : decode cX9_third 95 = .ok (.iload_n 3, 1) := by decide +kernel
theorem dX9_third_96 : decode cX9_third 96 = .ok (.ldc 90, 2) := by decide +kernel
theorem dX9_third_98 : decode cX9_third 98 = .ok (.if_icmp .eq 10, 3) := by decide +kernel
theorem dX9_third_101 : decode cX9_third 101 = .ok (.iload 6, 2) := by decide +kernel
theorem dX9_third_103 : decode cX9_third 103 = .ok (.iload 4, 2) := by decide +kernel
theorem dX9_third_105 : decode cX9_third 105 = .ok (.if_icmp .ge 7, 3) := by decide +kernel
theorem dX9_third_108 : decode cX9_third 108 = .ok (.iconst 1, 1) := by decide +kernel
theorem dX9_third_109 : decode cX9_third 109 = .ok (.goto 4, 3) := by decide +kernel
theorem dX9_third_112 : decode cX9_third 112 = .ok (.iconst 0, 1) := by decide +kernel
theorem dX9_third_113 : decode cX9_third 113 = .ok (.istore 7, 2) := by decide +kernel
theorem dX9_third_115 : decode cX9_third 115 = .ok (.iload 7, 2) := by decide +kernel
theorem dX9_third_117 : decode cX9_third 117 = .ok (.ifCond .eq 8, 3) := by decide +kernel
theorem dX9_third_120 : decode cX9_third 120 = .ok (.iload 5, 2) := by decide +kernel
theorem dX9_third_122 : decode cX9_third 122 = .ok (.goto 4, 3) := by decide +kernel
theorem dX9_third_125 : decode cX9_third 125 = .ok (.iload_n 3, 1) := by decide +kernel
theorem dX9_third_126 : decode cX9_third 126 = .ok (.istore_n 3, 1) := by decide +kernel
theorem dX9_third_127 : decode cX9_third 127 = .ok (.iload 7, 2) := by decide +kernel
theorem dX9_third_129 : decode cX9_third 129 = .ok (.ifCond .eq 8, 3) := by decide +kernel
theorem dX9_third_132 : decode cX9_third 132 = .ok (.iload 6, 2) := by decide +kernel
theorem dX9_third_134 : decode cX9_third 134 = .ok (.goto 5, 3) := by decide +kernel
theorem dX9_third_137 : decode cX9_third 137 = .ok (.iload 4, 2) := by decide +kernel
theorem dX9_third_139 : decode cX9_third 139 = .ok (.istore 4, 2) := by decide +kernel
theorem dX9_third_141 : decode cX9_third 141 = .ok (.iinc 5 1, 3) := by decide +kernel
theorem dX9_third_144 : decode cX9_third 144 = .ok (.goto (-98), 3) := by decide +kernel
theorem dX9_third_147 : decode cX9_third 147 = .ok (.iload_n 2, 1) := by decide +kernel
theorem dX9_third_148 : decode cX9_third 148 = .ok (.ifCond .ne 7, 3) := by decide +kernel
theorem dX9_third_151 : decode cX9_third 151 = .ok (.iload_n 3, 1) := by decide +kernel
theorem dX9_third_152 : decode cX9_third 152 = .ok (.goto 5, 3) := by decide +kernel
theorem dX9_third_155 : decode cX9_third 155 = .ok (.iload 4, 2) := by decide +kernel
theorem dX9_third_157 : decode cX9_third 157 = .ok (.ireturn, 1) := by decide +kernel
set_option maxRecDepth 20000 in
theorem ggX9_bestDoor_X9_isPerson : GoodIn wsX9_bestDoor wsX9_isPerson := goodIn_r _ [11, 3, 12, 13, 10, 14, 46, 47, 48, 49, 50, 51, 52, 53, 54, 55, 56, 57, 58, 59, 60, 61, 62, 63, 64, 65, 66, 67, 68, 69] (by decide +kernel) (by decide +kernel)
set_option maxRecDepth 20000 in
theorem gX9_bestDoor_X9_isPerson : GoodIn wsX9_bestDoor (wsV RX9 193 RX9 yX9_isPerson wsX9_isPerson) := goodIn_app (goodIn_of _ (by decide +kernel)) ggX9_bestDoor_X9_isPerson
set_option maxRecDepth 20000 in
theorem ggX9_bestDoor_X9_in : GoodIn wsX9_bestDoor wsX9_in := goodIn_r _ [14] (by decide +kernel) (by decide +kernel)
set_option maxRecDepth 20000 in
theorem gX9_bestDoor_X9_in : GoodIn wsX9_bestDoor (va_wsS RX9 57 yX9_in wsX9_in) := goodIn_app (goodIn_of _ (by decide +kernel)) ggX9_bestDoor_X9_in
set_option maxRecDepth 20000 in
theorem ggX9_bestDoor_X9_of : GoodIn wsX9_bestDoor wsX9_of := goodIn_r _ [17] (by decide +kernel) (by decide +kernel)
set_option maxRecDepth 20000 in
theorem gX9_bestDoor_X9_of : GoodIn wsX9_bestDoor (va_wsS RX9 149 yX9_of wsX9_of) := goodIn_app (goodIn_of _ (by decide +kernel)) ggX9_bestDoor_X9_of
set_option maxRecDepth 20000 in
theorem ggX9_bestDoor_X9_layThen : GoodIn wsX9_bestDoor wsX9_layThen := goodIn_r _ [21, 6, 3, 46, 47, 48, 49, 50, 51, 52, 53, 54, 55, 56, 57, 58, 59, 60, 61, 62, 63, 64, 65, 66, 67, 68, 69] (by decide +kernel) (by decide +kernel)
set_option maxRecDepth 20000 in
theorem gX9_bestDoor_X9_layThen : GoodIn wsX9_bestDoor (wsV RX9 206 RX9 yX9_layThen wsX9_layThen) := goodIn_app (goodIn_of _ (by decide +kernel)) ggX9_bestDoor_X9_layThen
set_option maxRecDepth 20000 in
theorem ggX9_bestDoor_X9_throughBy : GoodIn wsX9_bestDoor wsX9_throughBy := goodIn_r _ [25, 6, 5, 15, 16, 10, 17, 26, 27, 28, 29, 30, 31, 32, 33, 34, 35, 36, 37, 38, 39, 40, 41, 42, 43, 44, 45, 46, 47, 48, 49, 50, 51, 52, 53, 54, 55, 56, 57, 58, 59, 60, 61, 62, 63, 64, 65, 66, 67, 68, 69] (by decide +kernel) (by decide +kernel)
set_option maxRecDepth 20000 in
theorem gX9_bestDoor_X9_throughBy : GoodIn wsX9_bestDoor (wsV RX9 209 RX9 yX9_throughBy wsX9_throughBy) := goodIn_app (goodIn_of _ (by decide +kernel)) ggX9_bestDoor_X9_throughBy
theorem dX9_bestDoor_0 : decode cX9_bestDoor 0 = .ok (.aload_n 0, 1) := by decide +kernel
theorem dX9_bestDoor_1 : decode cX9_bestDoor 1 = .ok (.iconst 0, 1) := by decide +kernel
theorem dX9_bestDoor_2 : decode cX9_bestDoor 2 = .ok (.putfield 47, 3) := by decide +kernel
theorem dX9_bestDoor_5 : decode cX9_bestDoor 5 = .ok (.aload_n 0, 1) := by decide +kernel
theorem dX9_bestDoor_6 : decode cX9_bestDoor 6 = .ok (.iload_n 1, 1) := by decide +kernel
theorem dX9_bestDoor_7 : decode cX9_bestDoor 7 = .ok (.invokevirtual 193, 3) := by decide +kernel
theorem dX9_bestDoor_10 : decode cX9_bestDoor 10 = .ok (.ifCond .eq 13, 3) := by decide +kernel
theorem dX9_bestDoor_13 : decode cX9_bestDoor 13 = .ok (.iload_n 2, 1) := by decide +kernel
theorem dX9_bestDoor_14 : decode cX9_bestDoor 14 = .ok (.i2l, 1) := by decide +kernel
theorem dX9_bestDoor_15 : decode cX9_bestDoor 15 = .ok (.lconst 0, 1) := by decide +kernel
theorem dX9_bestDoor_16 : decode cX9_bestDoor 16 = .ok (.lconst 1, 1) := by decide +kernel
theorem dX9_bestDoor_17 : decode cX9_bestDoor 17 = .ok (.invokestatic 57, 3) := by decide +kernel
theorem dX9_bestDoor_20 : decode cX9_bestDoor 20 = .ok (.ifCond .ne 6, 3) := by decide +kernel
theorem dX9_bestDoor_23 : decode cX9_bestDoor 23 = .ok (.ldc 67, 2) := by decide +kernel
theorem dX9_bestDoor_25 : decode cX9_bestDoor 25 = .ok (.ireturn, 1) := by decide +kernel
theorem dX9_bestDoor_26 : decode cX9_bestDoor 26 = .ok (.aload_n 0, 1) := by decide +kernel
theorem dX9_bestDoor_27 : decode cX9_bestDoor 27 = .ok (.getfield 19, 3) := by decide +kernel
theorem dX9_bestDoor_30 : decode cX9_bestDoor 30 = .ok (.iload_n 1, 1) := by decide +kernel
theorem dX9_bestDoor_31 : decode cX9_bestDoor 31 = .ok (.iconst 3, 1) := by decide +kernel
theorem dX9_bestDoor_32 : decode cX9_bestDoor 32 = .ok (.invokestatic 149, 3) := by decide +kernel
theorem dX9_bestDoor_35 : decode cX9_bestDoor 35 = .ok (.ifCond .ge 6, 3) := by decide +kernel
theorem dX9_bestDoor_38 : decode cX9_bestDoor 38 = .ok (.ldc 187, 2) := by decide +kernel
theorem dX9_bestDoor_40 : decode cX9_bestDoor 40 = .ok (.ireturn, 1) := by decide +kernel
theorem dX9_bestDoor_41 : decode cX9_bestDoor 41 = .ok (.ldc 90, 2) := by decide +kernel
theorem dX9_bestDoor_43 : decode cX9_bestDoor 43 = .ok (.istore_n 3, 1) := by decide +kernel
theorem dX9_bestDoor_44 : decode cX9_bestDoor 44 = .ok (.ldc 90, 2) := by decide +kernel
theorem dX9_bestDoor_46 : decode cX9_bestDoor 46 = .ok (.istore 4, 2) := by decide +kernel
theorem dX9_bestDoor_48 : decode cX9_bestDoor 48 = .ok (.iconst 0, 1) := by decide +kernel
theorem dX9_bestDoor_49 : decode cX9_bestDoor 49 = .ok (.istore 5, 2) := by decide +kernel
theorem dX9_bestDoor_51 : decode cX9_bestDoor 51 = .ok (.iload 5, 2) := by decide +kernel
theorem dX9_bestDoor_53 : decode cX9_bestDoor 53 = .ok (.aload_n 0, 1) := by decide +kernel
theorem dX9_bestDoor_54 : decode cX9_bestDoor 54 = .ok (.getfield 19, 3) := by decide +kernel
theorem dX9_bestDoor_57 : decode cX9_bestDoor 57 = .ok (.iconst 0, 1) := by decide +kernel
theorem dX9_bestDoor_58 : decode cX9_bestDoor 58 = .ok (.iaload, 1) := by decide +kernel
theorem dX9_bestDoor_59 : decode cX9_bestDoor 59 = .ok (.if_icmp .ge 87, 3) := by decide +kernel
theorem dX9_bestDoor_62 : decode cX9_bestDoor 62 = .ok (.aload_n 0, 1) := by decide +kernel
theorem dX9_bestDoor_63 : decode cX9_bestDoor 63 = .ok (.invokevirtual 206, 3) := by decide +kernel
theorem dX9_bestDoor_66 : decode cX9_bestDoor 66 = .ok (.aload_n 0, 1) := by decide +kernel
theorem dX9_bestDoor_67 : decode cX9_bestDoor 67 = .ok (.getfield 25, 3) := by decide +kernel
theorem dX9_bestDoor_70 : decode cX9_bestDoor 70 = .ok (.iconst 4, 1) := by decide +kernel
theorem dX9_bestDoor_71 : decode cX9_bestDoor 71 = .ok (.iconst 5, 1) := by decide +kernel
theorem dX9_bestDoor_72 : decode cX9_bestDoor 72 = .ok (.iload_n 1, 1) := by decide +kernel
theorem dX9_bestDoor_73 : decode cX9_bestDoor 73 = .ok (.imul, 1) := by decide +kernel
theorem dX9_bestDoor_74 : decode cX9_bestDoor 74 = .ok (.iadd, 1) := by decide +kernel
theorem dX9_bestDoor_75 : decode cX9_bestDoor 75 = .ok (.iconst 3, 1) := by decide +kernel
theorem dX9_bestDoor_76 : decode cX9_bestDoor 76 = .ok (.iadd, 1) := by decide +kernel
theorem dX9_bestDoor_77 : decode cX9_bestDoor 77 = .ok (.iload 5, 2) := by decide +kernel
theorem dX9_bestDoor_79 : decode cX9_bestDoor 79 = .ok (.iastore, 1) := by decide +kernel
theorem dX9_bestDoor_80 : decode cX9_bestDoor 80 = .ok (.aload_n 0, 1) := by decide +kernel
theorem dX9_bestDoor_81 : decode cX9_bestDoor 81 = .ok (.iload_n 1, 1) := by decide +kernel
theorem dX9_bestDoor_82 : decode cX9_bestDoor 82 = .ok (.invokevirtual 209, 3) := by decide +kernel
theorem dX9_bestDoor_85 : decode cX9_bestDoor 85 = .ok (.istore 6, 2) := by decide +kernel
theorem dX9_bestDoor_87 : decode cX9_bestDoor 87 = .ok (.iload 6, 2) := by decide +kernel
theorem dX9_bestDoor_89 : decode cX9_bestDoor 89 = .ok (.ldc 90, 2) := by decide +kernel
theorem dX9_bestDoor_91 : decode cX9_bestDoor 91 = .ok (.if_icmp .eq 20, 3) := by decide +kernel
theorem dX9_bestDoor_94 : decode cX9_bestDoor 94 = .ok (.iload_n 3, 1) := by decide +kernel
theorem dX9_bestDoor_95 : decode cX9_bestDoor 95 = .ok (.ldc 90, 2) := by decide +kernel
theorem dX9_bestDoor_97 : decode cX9_bestDoor 97 = .ok (.if_icmp .eq 10, 3) := by decide +kernel
theorem dX9_bestDoor_100 : decode cX9_bestDoor 100 = .ok (.iload 6, 2) := by decide +kernel
theorem dX9_bestDoor_102 : decode cX9_bestDoor 102 = .ok (.iload 4, 2) := by decide +kernel
theorem dX9_bestDoor_104 : decode cX9_bestDoor 104 = .ok (.if_icmp .ge 7, 3) := by decide +kernel
theorem dX9_bestDoor_107 : decode cX9_bestDoor 107 = .ok (.iconst 1, 1) := by decide +kernel
theorem dX9_bestDoor_108 : decode cX9_bestDoor 108 = .ok (.goto 4, 3) := by decide +kernel
theorem dX9_bestDoor_111 : decode cX9_bestDoor 111 = .ok (.iconst 0, 1) := by decide +kernel
theorem dX9_bestDoor_112 : decode cX9_bestDoor 112 = .ok (.istore 7, 2) := by decide +kernel
theorem dX9_bestDoor_114 : decode cX9_bestDoor 114 = .ok (.iload 7, 2) := by decide +kernel
theorem dX9_bestDoor_116 : decode cX9_bestDoor 116 = .ok (.ifCond .eq 8, 3) := by decide +kernel
theorem dX9_bestDoor_119 : decode cX9_bestDoor 119 = .ok (.iload 5, 2) := by decide +kernel
theorem dX9_bestDoor_121 : decode cX9_bestDoor 121 = .ok (.goto 4, 3) := by decide +kernel
theorem dX9_bestDoor_124 : decode cX9_bestDoor 124 = .ok (.iload_n 3, 1) := by decide +kernel
theorem dX9_bestDoor_125 : decode cX9_bestDoor 125 = .ok (.istore_n 3, 1) := by decide +kernel
theorem dX9_bestDoor_126 : decode cX9_bestDoor 126 = .ok (.iload 7, 2) := by decide +kernel
theorem dX9_bestDoor_128 : decode cX9_bestDoor 128 = .ok (.ifCond .eq 8, 3) := by decide +kernel
theorem dX9_bestDoor_131 : decode cX9_bestDoor 131 = .ok (.iload 6, 2) := by decide +kernel
theorem dX9_bestDoor_133 : decode cX9_bestDoor 133 = .ok (.goto 5, 3) := by decide +kernel
theorem dX9_bestDoor_136 : decode cX9_bestDoor 136 = .ok (.iload 4, 2) := by decide +kernel
theorem dX9_bestDoor_138 : decode cX9_bestDoor 138 = .ok (.istore 4, 2) := by decide +kernel
theorem dX9_bestDoor_140 : decode cX9_bestDoor 140 = .ok (.iinc 5 1, 3) := by decide +kernel
theorem dX9_bestDoor_143 : decode cX9_bestDoor 143 = .ok (.goto (-92), 3) := by decide +kernel
theorem dX9_bestDoor_146 : decode cX9_bestDoor 146 = .ok (.iload_n 2, 1) := by decide +kernel
theorem dX9_bestDoor_147 : decode cX9_bestDoor 147 = .ok (.ifCond .ne 7, 3) := by decide +kernel
theorem dX9_bestDoor_150 : decode cX9_bestDoor 150 = .ok (.iload_n 3, 1) := by decide +kernel
theorem dX9_bestDoor_151 : decode cX9_bestDoor 151 = .ok (.goto 5, 3) := by decide +kernel
theorem dX9_bestDoor_154 : decode cX9_bestDoor 154 = .ok (.iload 4, 2) := by decide +kernel
theorem dX9_bestDoor_156 : decode cX9_bestDoor 156 = .ok (.ireturn, 1) := by decide +kernel
set_option maxRecDepth 20000 in
theorem ggX9_goSo_X9_goesAt : GoodIn wsX9_goSo wsX9_goesAt := goodIn_r _ [7, 2, 8, 9, 6, 10, 11, 12, 13, 14, 15, 16, 17, 18, 19, 20, 21, 22] (by decide +kernel) (by decide +kernel)
set_option maxRecDepth 20000 in
theorem gX9_goSo_X9_goesAt : GoodIn wsX9_goSo (va_wsS RX9 168 yX9_goesAt wsX9_goesAt) := goodIn_app (goodIn_of _ (by decide +kernel)) ggX9_goSo_X9_goesAt
set_option maxRecDepth 20000 in
theorem ggX9_goSo_X9_step : GoodIn wsX9_goSo wsX9_step := goodIn_r _ [26, 27, 2, 4, 5, 6, 7, 8, 9, 10, 11, 12, 13, 14, 15, 16, 17, 18, 19, 20, 21, 22, 28, 29, 30, 31, 32, 33, 34, 35, 36, 37, 38, 39, 40, 41, 42, 43, 44, 45, 46, 47, 48, 49, 50, 51] (by decide +kernel) (by decide +kernel)
set_option maxRecDepth 20000 in
theorem gX9_goSo_X9_step : GoodIn wsX9_goSo (wsV RX9 171 RX9 yX9_step wsX9_step) := goodIn_app (goodIn_of _ (by decide +kernel)) ggX9_goSo_X9_step
theorem dX9_goSo_0 : decode cX9_goSo 0 = .ok (.iconst 1, 1) := by decide +kernel
theorem dX9_goSo_1 : decode cX9_goSo 1 = .ok (.istore 4, 2) := by decide +kernel
theorem dX9_goSo_3 : decode cX9_goSo 3 = .ok (.iconst 0, 1) := by decide +kernel
theorem dX9_goSo_4 : decode cX9_goSo 4 = .ok (.istore 5, 2) := by decide +kernel
theorem dX9_goSo_6 : decode cX9_goSo 6 = .ok (.iload 5, 2) := by decide +kernel
theorem dX9_goSo_8 : decode cX9_goSo 8 = .ok (.iload_n 3, 1) := by decide +kernel
theorem dX9_goSo_9 : decode cX9_goSo 9 = .ok (.if_icmp .ge 66, 3) := by decide +kernel
theorem dX9_goSo_12 : decode cX9_goSo 12 = .ok (.aload_n 0, 1) := by decide +kernel
theorem dX9_goSo_13 : decode cX9_goSo 13 = .ok (.getfield 25, 3) := by decide +kernel
theorem dX9_goSo_16 : decode cX9_goSo 16 = .ok (.iload_n 1, 1) := by decide +kernel
theorem dX9_goSo_17 : decode cX9_goSo 17 = .ok (.invokestatic 168, 3) := by decide +kernel
theorem dX9_goSo_20 : decode cX9_goSo 20 = .ok (.istore 6, 2) := by decide +kernel
theorem dX9_goSo_22 : decode cX9_goSo 22 = .ok (.iload 4, 2) := by decide +kernel
theorem dX9_goSo_24 : decode cX9_goSo 24 = .ok (.ifCond .eq 32, 3) := by decide +kernel
theorem dX9_goSo_27 : decode cX9_goSo 27 = .ok (.iload 6, 2) := by decide +kernel
theorem dX9_goSo_29 : decode cX9_goSo 29 = .ok (.ldc 90, 2) := by decide +kernel
theorem dX9_goSo_31 : decode cX9_goSo 31 = .ok (.if_icmp .ne 7, 3) := by decide +kernel
theorem dX9_goSo_34 : decode cX9_goSo 34 = .ok (.iconst (-1), 1) := by decide +kernel
theorem dX9_goSo_35 : decode cX9_goSo 35 = .ok (.goto 5, 3) := by decide +kernel
theorem dX9_goSo_38 : decode cX9_goSo 38 = .ok (.iload 6, 2) := by decide +kernel
theorem dX9_goSo_40 : decode cX9_goSo 40 = .ok (.aload_n 0, 1) := by decide +kernel
theorem dX9_goSo_41 : decode cX9_goSo 41 = .ok (.getfield 16, 3) := by decide +kernel
theorem dX9_goSo_44 : decode cX9_goSo 44 = .ok (.iload_n 2, 1) := by decide +kernel
theorem dX9_goSo_45 : decode cX9_goSo 45 = .ok (.iload 5, 2) := by decide +kernel
theorem dX9_goSo_47 : decode cX9_goSo 47 = .ok (.iadd, 1) := by decide +kernel
theorem dX9_goSo_48 : decode cX9_goSo 48 = .ok (.iaload, 1) := by decide +kernel
theorem dX9_goSo_49 : decode cX9_goSo 49 = .ok (.if_icmp .ne 7, 3) := by decide +kernel
theorem dX9_goSo_52 : decode cX9_goSo 52 = .ok (.iconst 1, 1) := by decide +kernel
theorem dX9_goSo_53 : decode cX9_goSo 53 = .ok (.goto 4, 3) := by decide +kernel
theorem dX9_goSo_56 : decode cX9_goSo 56 = .ok (.iconst 0, 1) := by decide +kernel
theorem dX9_goSo_57 : decode cX9_goSo 57 = .ok (.istore 4, 2) := by decide +kernel
theorem dX9_goSo_59 : decode cX9_goSo 59 = .ok (.aload_n 0, 1) := by decide +kernel
theorem dX9_goSo_60 : decode cX9_goSo 60 = .ok (.aload_n 0, 1) := by decide +kernel
theorem dX9_goSo_61 : decode cX9_goSo 61 = .ok (.getfield 25, 3) := by decide +kernel
theorem dX9_goSo_64 : decode cX9_goSo 64 = .ok (.invokevirtual 171, 3) := by decide +kernel
theorem dX9_goSo_67 : decode cX9_goSo 67 = .ok (.istore 7, 2) := by decide +kernel
theorem dX9_goSo_69 : decode cX9_goSo 69 = .ok (.iinc 5 1, 3) := by decide +kernel
theorem dX9_goSo_72 : decode cX9_goSo 72 = .ok (.goto (-66), 3) := by decide +kernel
theorem dX9_goSo_75 : decode cX9_goSo 75 = .ok (.iload 4, 2) := by decide +kernel
theorem dX9_goSo_77 : decode cX9_goSo 77 = .ok (.ireturn, 1) := by decide +kernel
set_option maxRecDepth 20000 in
theorem ggX9_ranks_X9_isDoor : GoodIn wsX9_ranks wsX9_isDoor := goodIn_r _ [12, 13, 14, 15, 11, 16, 63, 64, 65, 66, 67, 68, 69, 70, 71, 72, 73, 74, 75, 76, 77, 78, 79, 80, 81, 82, 83, 84, 85, 86] (by decide +kernel) (by decide +kernel)
set_option maxRecDepth 20000 in
theorem gX9_ranks_X9_isDoor : GoodIn wsX9_ranks (wsV RX9 196 RX9 yX9_isDoor wsX9_isDoor) := goodIn_app (goodIn_of _ (by decide +kernel)) ggX9_ranks_X9_isDoor
set_option maxRecDepth 20000 in
theorem ggX9_ranks_X9_isPerson : GoodIn wsX9_ranks wsX9_isPerson := goodIn_r _ [20, 13, 14, 15, 11, 16, 63, 64, 65, 66, 67, 68, 69, 70, 71, 72, 73, 74, 75, 76, 77, 78, 79, 80, 81, 82, 83, 84, 85, 86] (by decide +kernel) (by decide +kernel)
set_option maxRecDepth 20000 in
theorem gX9_ranks_X9_isPerson : GoodIn wsX9_ranks (wsV RX9 193 RX9 yX9_isPerson wsX9_isPerson) := goodIn_app (goodIn_of _ (by decide +kernel)) ggX9_ranks_X9_isPerson
set_option maxRecDepth 20000 in
theorem ggX9_ranks_X9_isRow : GoodIn wsX9_ranks wsX9_isRow := goodIn_r _ [23, 24, 14, 15, 11, 16] (by decide +kernel) (by decide +kernel)
set_option maxRecDepth 20000 in
theorem gX9_ranks_X9_isRow : GoodIn wsX9_ranks (va_wsS RX9 61 yX9_isRow wsX9_isRow) := goodIn_app (goodIn_of _ (by decide +kernel)) ggX9_ranks_X9_isRow
set_option maxRecDepth 20000 in
theorem ggX9_ranks_X9_in : GoodIn wsX9_ranks wsX9_in := goodIn_r _ [16] (by decide +kernel) (by decide +kernel)
set_option maxRecDepth 20000 in
theorem gX9_ranks_X9_in : GoodIn wsX9_ranks (va_wsS RX9 57 yX9_in wsX9_in) := goodIn_app (goodIn_of _ (by decide +kernel)) ggX9_ranks_X9_in
set_option maxRecDepth 20000 in
theorem ggX9_ranks_X9_finding : GoodIn wsX9_ranks wsX9_finding := goodIn_r _ [28, 6, 29, 63, 64, 65, 66, 67, 68, 69, 70, 71, 72, 73, 74, 75, 76, 77, 78, 79, 80, 81, 82, 83, 84, 85, 86] (by decide +kernel) (by decide +kernel)
set_option maxRecDepth 20000 in
theorem gX9_ranks_X9_finding : GoodIn wsX9_ranks (wsV RX9 68 RX9 yX9_finding wsX9_finding) := goodIn_app (goodIn_of _ (by decide +kernel)) ggX9_ranks_X9_finding
set_option maxRecDepth 20000 in
theorem ggX9_ranks_X9_layThen : GoodIn wsX9_ranks wsX9_layThen := goodIn_r _ [33, 7, 13, 63, 64, 65, 66, 67, 68, 69, 70, 71, 72, 73, 74, 75, 76, 77, 78, 79, 80, 81, 82, 83, 84, 85, 86] (by decide +kernel) (by decide +kernel)
set_option maxRecDepth 20000 in
theorem gX9_ranks_X9_layThen : GoodIn wsX9_ranks (wsV RX9 206 RX9 yX9_layThen wsX9_layThen) := goodIn_app (goodIn_of _ (by decide +kernel)) ggX9_ranks_X9_layThen
set_option maxRecDepth 20000 in
theorem ggX9_ranks_X9_goSo : GoodIn wsX9_ranks wsX9_goSo := goodIn_r _ [37, 7, 38, 39, 40, 41, 11, 42, 43, 44, 45, 46, 47, 48, 49, 50, 51, 52, 53, 54, 55, 56, 57, 58, 59, 60, 61, 62, 63, 64, 65, 66, 67, 68, 69, 70, 71, 72, 73, 74, 75, 76, 77, 78, 79, 80, 81, 82, 83, 84, 85, 86] (by decide +kernel) (by decide +kernel)
set_option maxRecDepth 20000 in
theorem gX9_ranks_X9_goSo : GoodIn wsX9_ranks (wsV RX9 220 RX9 yX9_goSo wsX9_goSo) := goodIn_app (goodIn_of _ (by decide +kernel)) ggX9_ranks_X9_goSo
theorem dX9_ranks_0 : decode cX9_ranks 0 = .ok (.aload_n 0, 1) := by decide +kernel
theorem dX9_ranks_1 : decode cX9_ranks 1 = .ok (.iconst 0, 1) := by decide +kernel
theorem dX9_ranks_2 : decode cX9_ranks 2 = .ok (.putfield 47, 3) := by decide +kernel
theorem dX9_ranks_5 : decode cX9_ranks 5 = .ok (.aload_n 0, 1) := by decide +kernel
theorem dX9_ranks_6 : decode cX9_ranks 6 = .ok (.iload_n 1, 1) := by decide +kernel
theorem dX9_ranks_7 : decode cX9_ranks 7 = .ok (.invokevirtual 196, 3) := by decide +kernel
theorem dX9_ranks_10 : decode cX9_ranks 10 = .ok (.ifCond .eq 31, 3) := by decide +kernel
theorem dX9_ranks_13 : decode cX9_ranks 13 = .ok (.aload_n 0, 1) := by decide +kernel
theorem dX9_ranks_14 : decode cX9_ranks 14 = .ok (.iload_n 2, 1) := by decide +kernel
theorem dX9_ranks_15 : decode cX9_ranks 15 = .ok (.invokevirtual 193, 3) := by decide +kernel
theorem dX9_ranks_18 : decode cX9_ranks 18 = .ok (.ifCond .eq 23, 3) := by decide +kernel
theorem dX9_ranks_21 : decode cX9_ranks 21 = .ok (.iload_n 3, 1) := by decide +kernel
theorem dX9_ranks_22 : decode cX9_ranks 22 = .ok (.invokestatic 61, 3) := by decide +kernel
theorem dX9_ranks_25 : decode cX9_ranks 25 = .ok (.ifCond .eq 16, 3) := by decide +kernel
theorem dX9_ranks_28 : decode cX9_ranks 28 = .ok (.iload 5, 2) := by decide +kernel
theorem dX9_ranks_30 : decode cX9_ranks 30 = .ok (.i2l, 1) := by decide +kernel
theorem dX9_ranks_31 : decode cX9_ranks 31 = .ok (.lconst 1, 1) := by decide +kernel
theorem dX9_ranks_32 : decode cX9_ranks 32 = .ok (.ldc2_w 218, 3) := by decide +kernel
theorem dX9_ranks_35 : decode cX9_ranks 35 = .ok (.invokestatic 57, 3) := by decide +kernel
theorem dX9_ranks_38 : decode cX9_ranks 38 = .ok (.ifCond .ne 6, 3) := by decide +kernel
theorem dX9_ranks_41 : decode cX9_ranks 41 = .ok (.ldc 67, 2) := by decide +kernel
theorem dX9_ranks_43 : decode cX9_ranks 43 = .ok (.ireturn, 1) := by decide +kernel
theorem dX9_ranks_44 : decode cX9_ranks 44 = .ok (.aload_n 0, 1) := by decide +kernel
theorem dX9_ranks_45 : decode cX9_ranks 45 = .ok (.getfield 7, 3) := by decide +kernel
theorem dX9_ranks_48 : decode cX9_ranks 48 = .ok (.iload_n 3, 1) := by decide +kernel
theorem dX9_ranks_49 : decode cX9_ranks 49 = .ok (.iaload, 1) := by decide +kernel
theorem dX9_ranks_50 : decode cX9_ranks 50 = .ok (.ifCond .ge 9, 3) := by decide +kernel
theorem dX9_ranks_53 : decode cX9_ranks 53 = .ok (.aload_n 0, 1) := by decide +kernel
theorem dX9_ranks_54 : decode cX9_ranks 54 = .ok (.iconst 1, 1) := by decide +kernel
theorem dX9_ranks_55 : decode cX9_ranks 55 = .ok (.invokevirtual 68, 3) := by decide +kernel
theorem dX9_ranks_58 : decode cX9_ranks 58 = .ok (.ireturn, 1) := by decide +kernel
theorem dX9_ranks_59 : decode cX9_ranks 59 = .ok (.iload 4, 2) := by decide +kernel
theorem dX9_ranks_61 : decode cX9_ranks 61 = .ok (.ifCond .lt 21, 3) := by decide +kernel
theorem dX9_ranks_64 : decode cX9_ranks 64 = .ok (.iload 4, 2) := by decide +kernel
theorem dX9_ranks_66 : decode cX9_ranks 66 = .ok (.i2l, 1) := by decide +kernel
theorem dX9_ranks_67 : decode cX9_ranks 67 = .ok (.iload 5, 2) := by decide +kernel
theorem dX9_ranks_69 : decode cX9_ranks 69 = .ok (.i2l, 1) := by decide +kernel
theorem dX9_ranks_70 : decode cX9_ranks 70 = .ok (.ladd, 1) := by decide +kernel
theorem dX9_ranks_71 : decode cX9_ranks 71 = .ok (.aload_n 0, 1) := by decide +kernel
theorem dX9_ranks_72 : decode cX9_ranks 72 = .ok (.getfield 13, 3) := by decide +kernel
theorem dX9_ranks_75 : decode cX9_ranks 75 = .ok (.iload_n 3, 1) := by decide +kernel
theorem dX9_ranks_76 : decode cX9_ranks 76 = .ok (.iaload, 1) := by decide +kernel
theorem dX9_ranks_77 : decode cX9_ranks 77 = .ok (.i2l, 1) := by decide +kernel
theorem dX9_ranks_78 : decode cX9_ranks 78 = .ok (.lcmp, 1) := by decide +kernel
theorem dX9_ranks_79 : decode cX9_ranks 79 = .ok (.ifCond .le 9, 3) := by decide +kernel
theorem dX9_ranks_82 : decode cX9_ranks 82 = .ok (.aload_n 0, 1) := by decide +kernel
theorem dX9_ranks_83 : decode cX9_ranks 83 = .ok (.iconst 2, 1) := by decide +kernel
theorem dX9_ranks_84 : decode cX9_ranks 84 = .ok (.invokevirtual 68, 3) := by decide +kernel
theorem dX9_ranks_87 : decode cX9_ranks 87 = .ok (.ireturn, 1) := by decide +kernel
theorem dX9_ranks_88 : decode cX9_ranks 88 = .ok (.aload_n 0, 1) := by decide +kernel
theorem dX9_ranks_89 : decode cX9_ranks 89 = .ok (.iconst 0, 1) := by decide +kernel
theorem dX9_ranks_90 : decode cX9_ranks 90 = .ok (.putfield 51, 3) := by decide +kernel
theorem dX9_ranks_93 : decode cX9_ranks 93 = .ok (.iconst 0, 1) := by decide +kernel
theorem dX9_ranks_94 : decode cX9_ranks 94 = .ok (.istore 6, 2) := by decide +kernel
theorem dX9_ranks_96 : decode cX9_ranks 96 = .ok (.iconst 0, 1) := by decide +kernel
theorem dX9_ranks_97 : decode cX9_ranks 97 = .ok (.istore 7, 2) := by decide +kernel
theorem dX9_ranks_99 : decode cX9_ranks 99 = .ok (.iload 7, 2) := by decide +kernel
theorem dX9_ranks_101 : decode cX9_ranks 101 = .ok (.bipush 10, 2) := by decide +kernel
theorem dX9_ranks_103 : decode cX9_ranks 103 = .ok (.if_icmp .ge 57, 3) := by decide +kernel
theorem dX9_ranks_106 : decode cX9_ranks 106 = .ok (.aload_n 0, 1) := by decide +kernel
theorem dX9_ranks_107 : decode cX9_ranks 107 = .ok (.invokevirtual 206, 3) := by decide +kernel
theorem dX9_ranks_110 : decode cX9_ranks 110 = .ok (.aload_n 0, 1) := by decide +kernel
theorem dX9_ranks_111 : decode cX9_ranks 111 = .ok (.getfield 25, 3) := by decide +kernel
theorem dX9_ranks_114 : decode cX9_ranks 114 = .ok (.iconst 4, 1) := by decide +kernel
theorem dX9_ranks_115 : decode cX9_ranks 115 = .ok (.iconst 5, 1) := by decide +kernel
theorem dX9_ranks_116 : decode cX9_ranks 116 = .ok (.iload_n 2, 1) := by decide +kernel
theorem dX9_ranks_117 : decode cX9_ranks 117 = .ok (.imul, 1) := by decide +kernel
theorem dX9_ranks_118 : decode cX9_ranks 118 = .ok (.iadd, 1) := by decide +kernel
theorem dX9_ranks_119 : decode cX9_ranks 119 = .ok (.iconst 1, 1) := by decide +kernel
theorem dX9_ranks_120 : decode cX9_ranks 120 = .ok (.iadd, 1) := by decide +kernel
theorem dX9_ranks_121 : decode cX9_ranks 121 = .ok (.iload 7, 2) := by decide +kernel
theorem dX9_ranks_123 : decode cX9_ranks 123 = .ok (.iastore, 1) := by decide +kernel
theorem dX9_ranks_124 : decode cX9_ranks 124 = .ok (.iload 6, 2) := by decide +kernel
theorem dX9_ranks_126 : decode cX9_ranks 126 = .ok (.aload_n 0, 1) := by decide +kernel
theorem dX9_ranks_127 : decode cX9_ranks 127 = .ok (.iload_n 1, 1) := by decide +kernel
theorem dX9_ranks_128 : decode cX9_ranks 128 = .ok (.bipush 40, 2) := by decide +kernel
theorem dX9_ranks_130 : decode cX9_ranks 130 = .ok (.iload_n 3, 1) := by decide +kernel
theorem dX9_ranks_131 : decode cX9_ranks 131 = .ok (.imul, 1) := by decide +kernel
theorem dX9_ranks_132 : decode cX9_ranks 132 = .ok (.iload 4, 2) := by decide +kernel
theorem dX9_ranks_134 : decode cX9_ranks 134 = .ok (.iadd, 1) := by decide +kernel
theorem dX9_ranks_135 : decode cX9_ranks 135 = .ok (.iload 5, 2) := by decide +kernel
theorem dX9_ranks_137 : decode cX9_ranks 137 = .ok (.invokevirtual 220, 3) := by decide +kernel
theorem dX9_ranks_140 : decode cX9_ranks 140 = .ok (.ifCond .eq 10, 3) := by decide +kernel
theorem dX9_ranks_143 : decode cX9_ranks 143 = .ok (.iconst 1, 1) := by decide +kernel
theorem dX9_ranks_144 : decode cX9_ranks 144 = .ok (.iload 7, 2) := by decide +kernel
theorem dX9_ranks_146 : decode cX9_ranks 146 = .ok (.ishl, 1) := by decide +kernel
theorem dX9_ranks_147 : decode cX9_ranks 147 = .ok (.goto 4, 3) := by decide +kernel
theorem dX9_ranks_150 : decode cX9_ranks 150 = .ok (.iconst 0, 1) := by decide +kernel
theorem dX9_ranks_151 : decode cX9_ranks 151 = .ok (.ior, 1) := by decide +kernel
theorem dX9_ranks_152 : decode cX9_ranks 152 = .ok (.istore 6, 2) := by decide +kernel
theorem dX9_ranks_154 : decode cX9_ranks 154 = .ok (.iinc 7 1, 3) := by decide +kernel
theorem dX9_ranks_157 : decode cX9_ranks 157 = .ok (.goto (-58), 3) := by decide +kernel
theorem dX9_ranks_160 : decode cX9_ranks 160 = .ok (.iload 6, 2) := by decide +kernel
theorem dX9_ranks_162 : decode cX9_ranks 162 = .ok (.ireturn, 1) := by decide +kernel
set_option maxRecDepth 20000 in
theorem ggX9_who_X9_isDoor : GoodIn wsX9_who wsX9_isDoor := goodIn_r _ [12, 13, 14, 15, 11, 16, 63, 64, 65, 66, 67, 68, 69, 70, 71, 72, 73, 74, 75, 76, 77, 78, 79, 80, 81, 82, 83, 84, 85, 86] (by decide +kernel) (by decide +kernel)
set_option maxRecDepth 20000 in
theorem gX9_who_X9_isDoor : GoodIn wsX9_who (wsV RX9 196 RX9 yX9_isDoor wsX9_isDoor) := goodIn_app (goodIn_of _ (by decide +kernel)) ggX9_who_X9_isDoor
set_option maxRecDepth 20000 in
theorem ggX9_who_X9_isPerson : GoodIn wsX9_who wsX9_isPerson := goodIn_r _ [20, 13, 14, 15, 11, 16, 63, 64, 65, 66, 67, 68, 69, 70, 71, 72, 73, 74, 75, 76, 77, 78, 79, 80, 81, 82, 83, 84, 85, 86] (by decide +kernel) (by decide +kernel)
set_option maxRecDepth 20000 in
theorem gX9_who_X9_isPerson : GoodIn wsX9_who (wsV RX9 193 RX9 yX9_isPerson wsX9_isPerson) := goodIn_app (goodIn_of _ (by decide +kernel)) ggX9_who_X9_isPerson
set_option maxRecDepth 20000 in
theorem ggX9_who_X9_isRow : GoodIn wsX9_who wsX9_isRow := goodIn_r _ [23, 24, 14, 15, 11, 16] (by decide +kernel) (by decide +kernel)
set_option maxRecDepth 20000 in
theorem gX9_who_X9_isRow : GoodIn wsX9_who (va_wsS RX9 61 yX9_isRow wsX9_isRow) := goodIn_app (goodIn_of _ (by decide +kernel)) ggX9_who_X9_isRow
set_option maxRecDepth 20000 in
theorem ggX9_who_X9_in : GoodIn wsX9_who wsX9_in := goodIn_r _ [16] (by decide +kernel) (by decide +kernel)
set_option maxRecDepth 20000 in
theorem gX9_who_X9_in : GoodIn wsX9_who (va_wsS RX9 57 yX9_in wsX9_in) := goodIn_app (goodIn_of _ (by decide +kernel)) ggX9_who_X9_in
set_option maxRecDepth 20000 in
theorem ggX9_who_X9_finding : GoodIn wsX9_who wsX9_finding := goodIn_r _ [28, 6, 29, 63, 64, 65, 66, 67, 68, 69, 70, 71, 72, 73, 74, 75, 76, 77, 78, 79, 80, 81, 82, 83, 84, 85, 86] (by decide +kernel) (by decide +kernel)
set_option maxRecDepth 20000 in
theorem gX9_who_X9_finding : GoodIn wsX9_who (wsV RX9 68 RX9 yX9_finding wsX9_finding) := goodIn_app (goodIn_of _ (by decide +kernel)) ggX9_who_X9_finding
set_option maxRecDepth 20000 in
theorem ggX9_who_X9_layThen : GoodIn wsX9_who wsX9_layThen := goodIn_r _ [33, 7, 13, 63, 64, 65, 66, 67, 68, 69, 70, 71, 72, 73, 74, 75, 76, 77, 78, 79, 80, 81, 82, 83, 84, 85, 86] (by decide +kernel) (by decide +kernel)
set_option maxRecDepth 20000 in
theorem gX9_who_X9_layThen : GoodIn wsX9_who (wsV RX9 206 RX9 yX9_layThen wsX9_layThen) := goodIn_app (goodIn_of _ (by decide +kernel)) ggX9_who_X9_layThen
set_option maxRecDepth 20000 in
theorem ggX9_who_X9_goSo : GoodIn wsX9_who wsX9_goSo := goodIn_r _ [37, 7, 38, 39, 40, 41, 11, 42, 43, 44, 45, 46, 47, 48, 49, 50, 51, 52, 53, 54, 55, 56, 57, 58, 59, 60, 61, 62, 63, 64, 65, 66, 67, 68, 69, 70, 71, 72, 73, 74, 75, 76, 77, 78, 79, 80, 81, 82, 83, 84, 85, 86] (by decide +kernel) (by decide +kernel)
set_option maxRecDepth 20000 in
theorem gX9_who_X9_goSo : GoodIn wsX9_who (wsV RX9 220 RX9 yX9_goSo wsX9_goSo) := goodIn_app (goodIn_of _ (by decide +kernel)) ggX9_who_X9_goSo
theorem dX9_who_0 : decode cX9_who 0 = .ok (.aload_n 0, 1) := by decide +kernel
theorem dX9_who_1 : decode cX9_who 1 = .ok (.iconst 0, 1) := by decide +kernel
theorem dX9_who_2 : decode cX9_who 2 = .ok (.putfield 47, 3) := by decide +kernel
theorem dX9_who_5 : decode cX9_who 5 = .ok (.aload_n 0, 1) := by decide +kernel
theorem dX9_who_6 : decode cX9_who 6 = .ok (.iload_n 1, 1) := by decide +kernel
theorem dX9_who_7 : decode cX9_who 7 = .ok (.invokevirtual 196, 3) := by decide +kernel
theorem dX9_who_10 : decode cX9_who 10 = .ok (.ifCond .eq 31, 3) := by decide +kernel
theorem dX9_who_13 : decode cX9_who 13 = .ok (.aload_n 0, 1) := by decide +kernel
theorem dX9_who_14 : decode cX9_who 14 = .ok (.iload_n 2, 1) := by decide +kernel
theorem dX9_who_15 : decode cX9_who 15 = .ok (.invokevirtual 193, 3) := by decide +kernel
theorem dX9_who_18 : decode cX9_who 18 = .ok (.ifCond .eq 23, 3) := by decide +kernel
theorem dX9_who_21 : decode cX9_who 21 = .ok (.iload_n 3, 1) := by decide +kernel
theorem dX9_who_22 : decode cX9_who 22 = .ok (.invokestatic 61, 3) := by decide +kernel
theorem dX9_who_25 : decode cX9_who 25 = .ok (.ifCond .eq 16, 3) := by decide +kernel
theorem dX9_who_28 : decode cX9_who 28 = .ok (.iload 5, 2) := by decide +kernel
theorem dX9_who_30 : decode cX9_who 30 = .ok (.i2l, 1) := by decide +kernel
theorem dX9_who_31 : decode cX9_who 31 = .ok (.lconst 1, 1) := by decide +kernel
theorem dX9_who_32 : decode cX9_who 32 = .ok (.ldc2_w 218, 3) := by decide +kernel
theorem dX9_who_35 : decode cX9_who 35 = .ok (.invokestatic 57, 3) := by decide +kernel
theorem dX9_who_38 : decode cX9_who 38 = .ok (.ifCond .ne 6, 3) := by decide +kernel
theorem dX9_who_41 : decode cX9_who 41 = .ok (.ldc 67, 2) := by decide +kernel
theorem dX9_who_43 : decode cX9_who 43 = .ok (.ireturn, 1) := by decide +kernel
theorem dX9_who_44 : decode cX9_who 44 = .ok (.aload_n 0, 1) := by decide +kernel
theorem dX9_who_45 : decode cX9_who 45 = .ok (.getfield 7, 3) := by decide +kernel
theorem dX9_who_48 : decode cX9_who 48 = .ok (.iload_n 3, 1) := by decide +kernel
theorem dX9_who_49 : decode cX9_who 49 = .ok (.iaload, 1) := by decide +kernel
theorem dX9_who_50 : decode cX9_who 50 = .ok (.ifCond .ge 9, 3) := by decide +kernel
theorem dX9_who_53 : decode cX9_who 53 = .ok (.aload_n 0, 1) := by decide +kernel
theorem dX9_who_54 : decode cX9_who 54 = .ok (.iconst 1, 1) := by decide +kernel
theorem dX9_who_55 : decode cX9_who 55 = .ok (.invokevirtual 68, 3) := by decide +kernel
theorem dX9_who_58 : decode cX9_who 58 = .ok (.ireturn, 1) := by decide +kernel
theorem dX9_who_59 : decode cX9_who 59 = .ok (.iload 4, 2) := by decide +kernel
theorem dX9_who_61 : decode cX9_who 61 = .ok (.ifCond .lt 21, 3) := by decide +kernel
theorem dX9_who_64 : decode cX9_who 64 = .ok (.iload 4, 2) := by decide +kernel
theorem dX9_who_66 : decode cX9_who 66 = .ok (.i2l, 1) := by decide +kernel
theorem dX9_who_67 : decode cX9_who 67 = .ok (.iload 5, 2) := by decide +kernel
theorem dX9_who_69 : decode cX9_who 69 = .ok (.i2l, 1) := by decide +kernel
theorem dX9_who_70 : decode cX9_who 70 = .ok (.ladd, 1) := by decide +kernel
theorem dX9_who_71 : decode cX9_who 71 = .ok (.aload_n 0, 1) := by decide +kernel
theorem dX9_who_72 : decode cX9_who 72 = .ok (.getfield 13, 3) := by decide +kernel
theorem dX9_who_75 : decode cX9_who 75 = .ok (.iload_n 3, 1) := by decide +kernel
theorem dX9_who_76 : decode cX9_who 76 = .ok (.iaload, 1) := by decide +kernel
theorem dX9_who_77 : decode cX9_who 77 = .ok (.i2l, 1) := by decide +kernel
theorem dX9_who_78 : decode cX9_who 78 = .ok (.lcmp, 1) := by decide +kernel
theorem dX9_who_79 : decode cX9_who 79 = .ok (.ifCond .le 9, 3) := by decide +kernel
theorem dX9_who_82 : decode cX9_who 82 = .ok (.aload_n 0, 1) := by decide +kernel
theorem dX9_who_83 : decode cX9_who 83 = .ok (.iconst 2, 1) := by decide +kernel
theorem dX9_who_84 : decode cX9_who 84 = .ok (.invokevirtual 68, 3) := by decide +kernel
theorem dX9_who_87 : decode cX9_who 87 = .ok (.ireturn, 1) := by decide +kernel
theorem dX9_who_88 : decode cX9_who 88 = .ok (.aload_n 0, 1) := by decide +kernel
theorem dX9_who_89 : decode cX9_who 89 = .ok (.iconst 0, 1) := by decide +kernel
theorem dX9_who_90 : decode cX9_who 90 = .ok (.putfield 51, 3) := by decide +kernel
theorem dX9_who_93 : decode cX9_who 93 = .ok (.iconst 0, 1) := by decide +kernel
theorem dX9_who_94 : decode cX9_who 94 = .ok (.istore 6, 2) := by decide +kernel
theorem dX9_who_96 : decode cX9_who 96 = .ok (.iconst 1, 1) := by decide +kernel
theorem dX9_who_97 : decode cX9_who 97 = .ok (.istore 7, 2) := by decide +kernel
theorem dX9_who_99 : decode cX9_who 99 = .ok (.iload 7, 2) := by decide +kernel
theorem dX9_who_101 : decode cX9_who 101 = .ok (.iconst 5, 1) := by decide +kernel
theorem dX9_who_102 : decode cX9_who 102 = .ok (.if_icmp .gt 57, 3) := by decide +kernel
theorem dX9_who_105 : decode cX9_who 105 = .ok (.aload_n 0, 1) := by decide +kernel
theorem dX9_who_106 : decode cX9_who 106 = .ok (.invokevirtual 206, 3) := by decide +kernel
theorem dX9_who_109 : decode cX9_who 109 = .ok (.aload_n 0, 1) := by decide +kernel
theorem dX9_who_110 : decode cX9_who 110 = .ok (.getfield 25, 3) := by decide +kernel
theorem dX9_who_113 : decode cX9_who 113 = .ok (.iconst 4, 1) := by decide +kernel
theorem dX9_who_114 : decode cX9_who 114 = .ok (.iconst 5, 1) := by decide +kernel
theorem dX9_who_115 : decode cX9_who 115 = .ok (.iload_n 2, 1) := by decide +kernel
theorem dX9_who_116 : decode cX9_who 116 = .ok (.imul, 1) := by decide +kernel
theorem dX9_who_117 : decode cX9_who 117 = .ok (.iadd, 1) := by decide +kernel
theorem dX9_who_118 : decode cX9_who 118 = .ok (.iconst 0, 1) := by decide +kernel
theorem dX9_who_119 : decode cX9_who 119 = .ok (.iadd, 1) := by decide +kernel
theorem dX9_who_120 : decode cX9_who 120 = .ok (.iload 7, 2) := by decide +kernel
theorem dX9_who_122 : decode cX9_who 122 = .ok (.iastore, 1) := by decide +kernel
theorem dX9_who_123 : decode cX9_who 123 = .ok (.iload 6, 2) := by decide +kernel
theorem dX9_who_125 : decode cX9_who 125 = .ok (.aload_n 0, 1) := by decide +kernel
theorem dX9_who_126 : decode cX9_who 126 = .ok (.iload_n 1, 1) := by decide +kernel
theorem dX9_who_127 : decode cX9_who 127 = .ok (.bipush 40, 2) := by decide +kernel
theorem dX9_who_129 : decode cX9_who 129 = .ok (.iload_n 3, 1) := by decide +kernel
theorem dX9_who_130 : decode cX9_who 130 = .ok (.imul, 1) := by decide +kernel
theorem dX9_who_131 : decode cX9_who 131 = .ok (.iload 4, 2) := by decide +kernel
theorem dX9_who_133 : decode cX9_who 133 = .ok (.iadd, 1) := by decide +kernel
theorem dX9_who_134 : decode cX9_who 134 = .ok (.iload 5, 2) := by decide +kernel
theorem dX9_who_136 : decode cX9_who 136 = .ok (.invokevirtual 220, 3) := by decide +kernel
theorem dX9_who_139 : decode cX9_who 139 = .ok (.ifCond .eq 10, 3) := by decide +kernel
theorem dX9_who_142 : decode cX9_who 142 = .ok (.iconst 1, 1) := by decide +kernel
theorem dX9_who_143 : decode cX9_who 143 = .ok (.iload 7, 2) := by decide +kernel
theorem dX9_who_145 : decode cX9_who 145 = .ok (.ishl, 1) := by decide +kernel
theorem dX9_who_146 : decode cX9_who 146 = .ok (.goto 4, 3) := by decide +kernel
theorem dX9_who_149 : decode cX9_who 149 = .ok (.iconst 0, 1) := by decide +kernel
theorem dX9_who_150 : decode cX9_who 150 = .ok (.ior, 1) := by decide +kernel
theorem dX9_who_151 : decode cX9_who 151 = .ok (.istore 6, 2) := by decide +kernel
theorem dX9_who_153 : decode cX9_who 153 = .ok (.iinc 7 1, 3) := by decide +kernel
theorem dX9_who_156 : decode cX9_who 156 = .ok (.goto (-57), 3) := by decide +kernel
theorem dX9_who_159 : decode cX9_who 159 = .ok (.iload 6, 2) := by decide +kernel
theorem dX9_who_161 : decode cX9_who 161 = .ok (.ireturn, 1) := by decide +kernel
set_option maxRecDepth 20000 in
theorem ggX9_precedence_X9_isThere : GoodIn wsX9_precedence wsX9_isThere := goodIn_r _ [10, 11, 46, 47, 48, 49, 50, 51, 52, 53, 54, 55, 56, 57, 58, 59, 60, 61, 62, 63, 64, 65, 66, 67, 68, 69] (by decide +kernel) (by decide +kernel)
set_option maxRecDepth 20000 in
theorem gX9_precedence_X9_isThere : GoodIn wsX9_precedence (wsV RX9 184 RX9 yX9_isThere wsX9_isThere) := goodIn_app (goodIn_of _ (by decide +kernel)) ggX9_precedence_X9_isThere
set_option maxRecDepth 20000 in
theorem ggX9_precedence_X9_isDoor : GoodIn wsX9_precedence wsX9_isDoor := goodIn_r _ [15, 11, 16, 17, 9, 18, 46, 47, 48, 49, 50, 51, 52, 53, 54, 55, 56, 57, 58, 59, 60, 61, 62, 63, 64, 65, 66, 67, 68, 69] (by decide +kernel) (by decide +kernel)
set_option maxRecDepth 20000 in
theorem gX9_precedence_X9_isDoor : GoodIn wsX9_precedence (wsV RX9 196 RX9 yX9_isDoor wsX9_isDoor) := goodIn_app (goodIn_of _ (by decide +kernel)) ggX9_precedence_X9_isDoor
set_option maxRecDepth 20000 in
theorem ggX9_precedence_X9_layThen : GoodIn wsX9_precedence wsX9_layThen := goodIn_r _ [22, 4, 11, 46, 47, 48, 49, 50, 51, 52, 53, 54, 55, 56, 57, 58, 59, 60, 61, 62, 63, 64, 65, 66, 67, 68, 69] (by decide +kernel) (by decide +kernel)
set_option maxRecDepth 20000 in
theorem gX9_precedence_X9_layThen : GoodIn wsX9_precedence (wsV RX9 206 RX9 yX9_layThen wsX9_layThen) := goodIn_app (goodIn_of _ (by decide +kernel)) ggX9_precedence_X9_layThen
set_option maxRecDepth 20000 in
theorem ggX9_precedence_X9_goesAt : GoodIn wsX9_precedence wsX9_goesAt := goodIn_r _ [25, 5, 26, 27, 9, 28, 29, 30, 31, 32, 33, 34, 35, 36, 37, 38, 39, 40] (by decide +kernel) (by decide +kernel)
set_option maxRecDepth 20000 in
theorem gX9_precedence_X9_goesAt : GoodIn wsX9_precedence (va_wsS RX9 168 yX9_goesAt wsX9_goesAt) := goodIn_app (goodIn_of _ (by decide +kernel)) ggX9_precedence_X9_goesAt
set_option maxRecDepth 20000 in
theorem ggX9_precedence_X9_step : GoodIn wsX9_precedence wsX9_step := goodIn_r _ [44, 45, 5, 23, 24, 9, 25, 26, 27, 28, 29, 30, 31, 32, 33, 34, 35, 36, 37, 38, 39, 40, 46, 47, 48, 49, 50, 51, 52, 53, 54, 55, 56, 57, 58, 59, 60, 61, 62, 63, 64, 65, 66, 67, 68, 69] (by decide +kernel) (by decide +kernel)
set_option maxRecDepth 20000 in
theorem gX9_precedence_X9_step : GoodIn wsX9_precedence (wsV RX9 171 RX9 yX9_step wsX9_step) := goodIn_app (goodIn_of _ (by decide +kernel)) ggX9_precedence_X9_step
theorem dX9_precedence_0 : decode cX9_precedence 0 = .ok (.aload_n 0, 1) := by decide +kernel
theorem dX9_precedence_1 : decode cX9_precedence 1 = .ok (.iconst 0, 1) := by decide +kernel
theorem dX9_precedence_2 : decode cX9_precedence 2 = .ok (.putfield 47, 3) := by decide +kernel
theorem dX9_precedence_5 : decode cX9_precedence 5 = .ok (.aload_n 0, 1) := by decide +kernel
theorem dX9_precedence_6 : decode cX9_precedence 6 = .ok (.invokevirtual 184, 3) := by decide +kernel
theorem dX9_precedence_9 : decode cX9_precedence 9 = .ok (.ifCond .ne 6, 3) := by decide +kernel
theorem dX9_precedence_12 : decode cX9_precedence 12 = .ok (.ldc 187, 2) := by decide +kernel
theorem dX9_precedence_14 : decode cX9_precedence 14 = .ok (.ireturn, 1) := by decide +kernel
theorem dX9_precedence_15 : decode cX9_precedence 15 = .ok (.aload_n 0, 1) := by decide +kernel
theorem dX9_precedence_16 : decode cX9_precedence 16 = .ok (.iload_n 1, 1) := by decide +kernel
theorem dX9_precedence_17 : decode cX9_precedence 17 = .ok (.invokevirtual 196, 3) := by decide +kernel
theorem dX9_precedence_20 : decode cX9_precedence 20 = .ok (.ifCond .eq 7, 3) := by decide +kernel
theorem dX9_precedence_23 : decode cX9_precedence 23 = .ok (.iload_n 2, 1) := by decide +kernel
theorem dX9_precedence_24 : decode cX9_precedence 24 = .ok (.ifCond .ge 6, 3) := by decide +kernel
theorem dX9_precedence_27 : decode cX9_precedence 27 = .ok (.ldc 67, 2) := by decide +kernel
theorem dX9_precedence_29 : decode cX9_precedence 29 = .ok (.ireturn, 1) := by decide +kernel
theorem dX9_precedence_30 : decode cX9_precedence 30 = .ok (.aload_n 0, 1) := by decide +kernel
theorem dX9_precedence_31 : decode cX9_precedence 31 = .ok (.invokevirtual 206, 3) := by decide +kernel
theorem dX9_precedence_34 : decode cX9_precedence 34 = .ok (.iconst 0, 1) := by decide +kernel
theorem dX9_precedence_35 : decode cX9_precedence 35 = .ok (.istore_n 3, 1) := by decide +kernel
theorem dX9_precedence_36 : decode cX9_precedence 36 = .ok (.iconst 0, 1) := by decide +kernel
theorem dX9_precedence_37 : decode cX9_precedence 37 = .ok (.istore 4, 2) := by decide +kernel
theorem dX9_precedence_39 : decode cX9_precedence 39 = .ok (.iload 4, 2) := by decide +kernel
theorem dX9_precedence_41 : decode cX9_precedence 41 = .ok (.bipush 60, 2) := by decide +kernel
theorem dX9_precedence_43 : decode cX9_precedence 43 = .ok (.if_icmp .ge 59, 3) := by decide +kernel
theorem dX9_precedence_46 : decode cX9_precedence 46 = .ok (.aload_n 0, 1) := by decide +kernel
theorem dX9_precedence_47 : decode cX9_precedence 47 = .ok (.getfield 25, 3) := by decide +kernel
theorem dX9_precedence_50 : decode cX9_precedence 50 = .ok (.iload_n 1, 1) := by decide +kernel
theorem dX9_precedence_51 : decode cX9_precedence 51 = .ok (.invokestatic 168, 3) := by decide +kernel
theorem dX9_precedence_54 : decode cX9_precedence 54 = .ok (.istore 5, 2) := by decide +kernel
theorem dX9_precedence_56 : decode cX9_precedence 56 = .ok (.iload 5, 2) := by decide +kernel
theorem dX9_precedence_58 : decode cX9_precedence 58 = .ok (.ldc 90, 2) := by decide +kernel
theorem dX9_precedence_60 : decode cX9_precedence 60 = .ok (.if_icmp .eq 11, 3) := by decide +kernel
theorem dX9_precedence_63 : decode cX9_precedence 63 = .ok (.iload_n 3, 1) := by decide +kernel
theorem dX9_precedence_64 : decode cX9_precedence 64 = .ok (.iload_n 2, 1) := by decide +kernel
theorem dX9_precedence_65 : decode cX9_precedence 65 = .ok (.if_icmp .ne 6, 3) := by decide +kernel
theorem dX9_precedence_68 : decode cX9_precedence 68 = .ok (.iload 5, 2) := by decide +kernel
theorem dX9_precedence_70 : decode cX9_precedence 70 = .ok (.ireturn, 1) := by decide +kernel
theorem dX9_precedence_71 : decode cX9_precedence 71 = .ok (.iload_n 3, 1) := by decide +kernel
theorem dX9_precedence_72 : decode cX9_precedence 72 = .ok (.iload 5, 2) := by decide +kernel
theorem dX9_precedence_74 : decode cX9_precedence 74 = .ok (.ldc 90, 2) := by decide +kernel
theorem dX9_precedence_76 : decode cX9_precedence 76 = .ok (.if_icmp .ne 7, 3) := by decide +kernel
theorem dX9_precedence_79 : decode cX9_precedence 79 = .ok (.iconst 0, 1) := by decide +kernel
theorem dX9_precedence_80 : decode cX9_precedence 80 = .ok (.goto 4, 3) := by decide +kernel
theorem dX9_precedence_83 : decode cX9_precedence 83 = .ok (.iconst 1, 1) := by decide +kernel
theorem dX9_precedence_84 : decode cX9_precedence 84 = .ok (.iadd, 1) := by decide +kernel
theorem dX9_precedence_85 : decode cX9_precedence 85 = .ok (.istore_n 3, 1) := by decide +kernel
theorem dX9_precedence_86 : decode cX9_precedence 86 = .ok (.aload_n 0, 1) := by decide +kernel
theorem dX9_precedence_87 : decode cX9_precedence 87 = .ok (.aload_n 0, 1) := by decide +kernel
theorem dX9_precedence_88 : decode cX9_precedence 88 = .ok (.getfield 25, 3) := by decide +kernel
theorem dX9_precedence_91 : decode cX9_precedence 91 = .ok (.invokevirtual 171, 3) := by decide +kernel
theorem dX9_precedence_94 : decode cX9_precedence 94 = .ok (.istore 6, 2) := by decide +kernel
theorem dX9_precedence_96 : decode cX9_precedence 96 = .ok (.iinc 4 1, 3) := by decide +kernel
theorem dX9_precedence_99 : decode cX9_precedence 99 = .ok (.goto (-60), 3) := by decide +kernel
theorem dX9_precedence_102 : decode cX9_precedence 102 = .ok (.ldc 90, 2) := by decide +kernel
theorem dX9_precedence_104 : decode cX9_precedence 104 = .ok (.ireturn, 1) := by decide +kernel
set_option maxRecDepth 20000 in
theorem ggX9_both_X9_isThere : GoodIn wsX9_both wsX9_isThere := goodIn_r _ [10, 5, 20, 21, 22, 23, 24, 25, 26, 27, 28, 29, 30, 31, 32, 33, 34, 35, 36, 37, 38, 39, 40, 41, 42, 43] (by decide +kernel) (by decide +kernel)
set_option maxRecDepth 20000 in
theorem gX9_both_X9_isThere : GoodIn wsX9_both (wsV RX9 184 RX9 yX9_isThere wsX9_isThere) := goodIn_app (goodIn_of _ (by decide +kernel)) ggX9_both_X9_isThere
set_option maxRecDepth 20000 in
theorem ggX9_both_X9_in : GoodIn wsX9_both wsX9_in := goodIn_r _ [13] (by decide +kernel) (by decide +kernel)
set_option maxRecDepth 20000 in
theorem gX9_both_X9_in : GoodIn wsX9_both (va_wsS RX9 57 yX9_in wsX9_in) := goodIn_app (goodIn_of _ (by decide +kernel)) ggX9_both_X9_in
set_option maxRecDepth 20000 in
theorem ggX9_both_X9_yields : GoodIn wsX9_both wsX9_yields := goodIn_r _ [16, 17, 18, 9, 19] (by decide +kernel) (by decide +kernel)
set_option maxRecDepth 20000 in
theorem gX9_both_X9_yields : GoodIn wsX9_both (va_wsS RX9 157 yX9_yields wsX9_yields) := goodIn_app (goodIn_of _ (by decide +kernel)) ggX9_both_X9_yields
theorem dX9_both_0 : decode cX9_both 0 = .ok (.aload_n 0, 1) := by decide +kernel
theorem dX9_both_1 : decode cX9_both 1 = .ok (.iconst 0, 1) := by decide +kernel
theorem dX9_both_2 : decode cX9_both 2 = .ok (.putfield 47, 3) := by decide +kernel
theorem dX9_both_5 : decode cX9_both 5 = .ok (.aload_n 0, 1) := by decide +kernel
theorem dX9_both_6 : decode cX9_both 6 = .ok (.invokevirtual 184, 3) := by decide +kernel
theorem dX9_both_9 : decode cX9_both 9 = .ok (.ifCond .ne 6, 3) := by decide +kernel
theorem dX9_both_12 : decode cX9_both 12 = .ok (.ldc 187, 2) := by decide +kernel
theorem dX9_both_14 : decode cX9_both 14 = .ok (.ireturn, 1) := by decide +kernel
theorem dX9_both_15 : decode cX9_both 15 = .ok (.iload_n 1, 1) := by decide +kernel
theorem dX9_both_16 : decode cX9_both 16 = .ok (.i2l, 1) := by decide +kernel
theorem dX9_both_17 : decode cX9_both 17 = .ok (.lconst 0, 1) := by decide +kernel
theorem dX9_both_18 : decode cX9_both 18 = .ok (.lconst 1, 1) := by decide +kernel
theorem dX9_both_19 : decode cX9_both 19 = .ok (.invokestatic 57, 3) := by decide +kernel
theorem dX9_both_22 : decode cX9_both 22 = .ok (.ifCond .ne 6, 3) := by decide +kernel
theorem dX9_both_25 : decode cX9_both 25 = .ok (.ldc 67, 2) := by decide +kernel
theorem dX9_both_27 : decode cX9_both 27 = .ok (.ireturn, 1) := by decide +kernel
theorem dX9_both_28 : decode cX9_both 28 = .ok (.iconst 0, 1) := by decide +kernel
theorem dX9_both_29 : decode cX9_both 29 = .ok (.istore_n 2, 1) := by decide +kernel
theorem dX9_both_30 : decode cX9_both 30 = .ok (.ldc 90, 2) := by decide +kernel
theorem dX9_both_32 : decode cX9_both 32 = .ok (.istore_n 3, 1) := by decide +kernel
theorem dX9_both_33 : decode cX9_both 33 = .ok (.aload_n 0, 1) := by decide +kernel
theorem dX9_both_34 : decode cX9_both 34 = .ok (.getfield 19, 3) := by decide +kernel
theorem dX9_both_37 : decode cX9_both 37 = .ok (.iconst 2, 1) := by decide +kernel
theorem dX9_both_38 : decode cX9_both 38 = .ok (.iaload, 1) := by decide +kernel
theorem dX9_both_39 : decode cX9_both 39 = .ok (.iconst 1, 1) := by decide +kernel
theorem dX9_both_40 : decode cX9_both 40 = .ok (.isub, 1) := by decide +kernel
theorem dX9_both_41 : decode cX9_both 41 = .ok (.istore 4, 2) := by decide +kernel
theorem dX9_both_43 : decode cX9_both 43 = .ok (.iload 4, 2) := by decide +kernel
theorem dX9_both_45 : decode cX9_both 45 = .ok (.ifCond .lt 98, 3) := by decide +kernel
theorem dX9_both_48 : decode cX9_both 48 = .ok (.aload_n 0, 1) := by decide +kernel
theorem dX9_both_49 : decode cX9_both 49 = .ok (.getfield 19, 3) := by decide +kernel
theorem dX9_both_52 : decode cX9_both 52 = .ok (.iconst 2, 1) := by decide +kernel
theorem dX9_both_53 : decode cX9_both 53 = .ok (.iaload, 1) := by decide +kernel
theorem dX9_both_54 : decode cX9_both 54 = .ok (.iconst 1, 1) := by decide +kernel
theorem dX9_both_55 : decode cX9_both 55 = .ok (.isub, 1) := by decide +kernel
theorem dX9_both_56 : decode cX9_both 56 = .ok (.istore 5, 2) := by decide +kernel
theorem dX9_both_58 : decode cX9_both 58 = .ok (.iload 5, 2) := by decide +kernel
theorem dX9_both_60 : decode cX9_both 60 = .ok (.iload 4, 2) := by decide +kernel
theorem dX9_both_62 : decode cX9_both 62 = .ok (.if_icmp .le 75, 3) := by decide +kernel
theorem dX9_both_65 : decode cX9_both 65 = .ok (.aload_n 0, 1) := by decide +kernel
theorem dX9_both_66 : decode cX9_both 66 = .ok (.getfield 19, 3) := by decide +kernel
theorem dX9_both_69 : decode cX9_both 69 = .ok (.iload 4, 2) := by decide +kernel
theorem dX9_both_71 : decode cX9_both 71 = .ok (.iload 5, 2) := by decide +kernel
theorem dX9_both_73 : decode cX9_both 73 = .ok (.invokestatic 157, 3) := by decide +kernel
theorem dX9_both_76 : decode cX9_both 76 = .ok (.ifCond .eq 21, 3) := by decide +kernel
theorem dX9_both_79 : decode cX9_both 79 = .ok (.aload_n 0, 1) := by decide +kernel
theorem dX9_both_80 : decode cX9_both 80 = .ok (.getfield 19, 3) := by decide +kernel
theorem dX9_both_83 : decode cX9_both 83 = .ok (.iload 5, 2) := by decide +kernel
theorem dX9_both_85 : decode cX9_both 85 = .ok (.iload 4, 2) := by decide +kernel
theorem dX9_both_87 : decode cX9_both 87 = .ok (.invokestatic 157, 3) := by decide +kernel
theorem dX9_both_90 : decode cX9_both 90 = .ok (.ifCond .eq 7, 3) := by decide +kernel
theorem dX9_both_93 : decode cX9_both 93 = .ok (.iconst 1, 1) := by decide +kernel
theorem dX9_both_94 : decode cX9_both 94 = .ok (.goto 4, 3) := by decide +kernel
theorem dX9_both_97 : decode cX9_both 97 = .ok (.iconst 0, 1) := by decide +kernel
theorem dX9_both_98 : decode cX9_both 98 = .ok (.istore 6, 2) := by decide +kernel
theorem dX9_both_100 : decode cX9_both 100 = .ok (.iload_n 2, 1) := by decide +kernel
theorem dX9_both_101 : decode cX9_both 101 = .ok (.iload 6, 2) := by decide +kernel
theorem dX9_both_103 : decode cX9_both 103 = .ok (.ifCond .eq 7, 3) := by decide +kernel
theorem dX9_both_106 : decode cX9_both 106 = .ok (.iconst 1, 1) := by decide +kernel
theorem dX9_both_107 : decode cX9_both 107 = .ok (.goto 4, 3) := by decide +kernel
theorem dX9_both_110 : decode cX9_both 110 = .ok (.iconst 0, 1) := by decide +kernel
theorem dX9_both_111 : decode cX9_both 111 = .ok (.iadd, 1) := by decide +kernel
theorem dX9_both_112 : decode cX9_both 112 = .ok (.istore_n 2, 1) := by decide +kernel
theorem dX9_both_113 : decode cX9_both 113 = .ok (.iload 6, 2) := by decide +kernel
theorem dX9_both_115 : decode cX9_both 115 = .ok (.ifCond .eq 14, 3) := by decide +kernel
theorem dX9_both_118 : decode cX9_both 118 = .ok (.bipush 10, 2) := by decide +kernel
theorem dX9_both_120 : decode cX9_both 120 = .ok (.iload 4, 2) := by decide +kernel
theorem dX9_both_122 : decode cX9_both 122 = .ok (.imul, 1) := by decide +kernel
theorem dX9_both_123 : decode cX9_both 123 = .ok (.iload 5, 2) := by decide +kernel
theorem dX9_both_125 : decode cX9_both 125 = .ok (.iadd, 1) := by decide +kernel
theorem dX9_both_126 : decode cX9_both 126 = .ok (.goto 4, 3) := by decide +kernel
theorem dX9_both_129 : decode cX9_both 129 = .ok (.iload_n 3, 1) := by decide +kernel
theorem dX9_both_130 : decode cX9_both 130 = .ok (.istore_n 3, 1) := by decide +kernel
theorem dX9_both_131 : decode cX9_both 131 = .ok (.iinc 5 (-1), 3) := by decide +kernel
theorem dX9_both_134 : decode cX9_both 134 = .ok (.goto (-76), 3) := by decide +kernel
theorem dX9_both_137 : decode cX9_both 137 = .ok (.iinc 4 (-1), 3) := by decide +kernel
theorem dX9_both_140 : decode cX9_both 140 = .ok (.goto (-97), 3) := by decide +kernel
theorem dX9_both_143 : decode cX9_both 143 = .ok (.iload_n 1, 1) := by decide +kernel
theorem dX9_both_144 : decode cX9_both 144 = .ok (.ifCond .ne 7, 3) := by decide +kernel
theorem dX9_both_147 : decode cX9_both 147 = .ok (.iload_n 2, 1) := by decide +kernel
theorem dX9_both_148 : decode cX9_both 148 = .ok (.goto 4, 3) := by decide +kernel
theorem dX9_both_151 : decode cX9_both 151 = .ok (.iload_n 3, 1) := by decide +kernel
theorem dX9_both_152 : decode cX9_both 152 = .ok (.ireturn, 1) := by decide +kernel
set_option maxRecDepth 20000 in
theorem ggX9_faint_X9_isThere : GoodIn wsX9_faint wsX9_isThere := goodIn_r _ [12, 5, 45, 46, 47, 48, 49, 50, 51, 52, 53, 54, 55, 56, 57, 58, 59, 60, 61, 62, 63, 64, 65, 66, 67, 68] (by decide +kernel) (by decide +kernel)
set_option maxRecDepth 20000 in
theorem gX9_faint_X9_isThere : GoodIn wsX9_faint (wsV RX9 184 RX9 yX9_isThere wsX9_isThere) := goodIn_app (goodIn_of _ (by decide +kernel)) ggX9_faint_X9_isThere
set_option maxRecDepth 20000 in
theorem ggX9_faint_X9_isDoor : GoodIn wsX9_faint wsX9_isDoor := goodIn_r _ [16, 5, 17, 18, 11, 19, 45, 46, 47, 48, 49, 50, 51, 52, 53, 54, 55, 56, 57, 58, 59, 60, 61, 62, 63, 64, 65, 66, 67, 68] (by decide +kernel) (by decide +kernel)
set_option maxRecDepth 20000 in
theorem gX9_faint_X9_isDoor : GoodIn wsX9_faint (wsV RX9 196 RX9 yX9_isDoor wsX9_isDoor) := goodIn_app (goodIn_of _ (by decide +kernel)) ggX9_faint_X9_isDoor
set_option maxRecDepth 20000 in
theorem ggX9_faint_X9_in : GoodIn wsX9_faint wsX9_in := goodIn_r _ [19] (by decide +kernel) (by decide +kernel)
set_option maxRecDepth 20000 in
theorem gX9_faint_X9_in : GoodIn wsX9_faint (va_wsS RX9 57 yX9_in wsX9_in) := goodIn_app (goodIn_of _ (by decide +kernel)) ggX9_faint_X9_in
set_option maxRecDepth 20000 in
theorem ggX9_faint_X9_waiting : GoodIn wsX9_faint wsX9_waiting := goodIn_r _ [22, 23, 24, 11, 25, 26, 27, 28] (by decide +kernel) (by decide +kernel)
set_option maxRecDepth 20000 in
theorem gX9_faint_X9_waiting : GoodIn wsX9_faint (va_wsS RX9 178 yX9_waiting wsX9_waiting) := goodIn_app (goodIn_of _ (by decide +kernel)) ggX9_faint_X9_waiting
set_option maxRecDepth 20000 in
theorem ggX9_faint_X9_layThen : GoodIn wsX9_faint wsX9_layThen := goodIn_r _ [32, 6, 5, 45, 46, 47, 48, 49, 50, 51, 52, 53, 54, 55, 56, 57, 58, 59, 60, 61, 62, 63, 64, 65, 66, 67, 68] (by decide +kernel) (by decide +kernel)
set_option maxRecDepth 20000 in
theorem gX9_faint_X9_layThen : GoodIn wsX9_faint (wsV RX9 206 RX9 yX9_layThen wsX9_layThen) := goodIn_app (goodIn_of _ (by decide +kernel)) ggX9_faint_X9_layThen
set_option maxRecDepth 20000 in
theorem ggX9_faint_X9_of : GoodIn wsX9_faint wsX9_of := goodIn_r _ [28] (by decide +kernel) (by decide +kernel)
set_option maxRecDepth 20000 in
theorem gX9_faint_X9_of : GoodIn wsX9_faint (va_wsS RX9 149 yX9_of wsX9_of) := goodIn_app (goodIn_of _ (by decide +kernel)) ggX9_faint_X9_of
set_option maxRecDepth 20000 in
theorem ggX9_faint_X9_goesAt : GoodIn wsX9_faint wsX9_goesAt := goodIn_r _ [35, 7, 23, 24, 11, 25, 26, 27, 28, 36, 37, 38, 39, 40, 41, 42, 43, 44] (by decide +kernel) (by decide +kernel)
set_option maxRecDepth 20000 in
theorem gX9_faint_X9_goesAt : GoodIn wsX9_faint (va_wsS RX9 168 yX9_goesAt wsX9_goesAt) := goodIn_app (goodIn_of _ (by decide +kernel)) ggX9_faint_X9_goesAt
theorem dX9_faint_0 : decode cX9_faint 0 = .ok (.aload_n 0, 1) := by decide +kernel
theorem dX9_faint_1 : decode cX9_faint 1 = .ok (.iconst 0, 1) := by decide +kernel
theorem dX9_faint_2 : decode cX9_faint 2 = .ok (.putfield 47, 3) := by decide +kernel
theorem dX9_faint_5 : decode cX9_faint 5 = .ok (.aload_n 0, 1) := by decide +kernel
theorem dX9_faint_6 : decode cX9_faint 6 = .ok (.invokevirtual 184, 3) := by decide +kernel
theorem dX9_faint_9 : decode cX9_faint 9 = .ok (.ifCond .ne 7, 3) := by decide +kernel
theorem dX9_faint_12 : decode cX9_faint 12 = .ok (.ldc2_w 224, 3) := by decide +kernel
theorem dX9_faint_15 : decode cX9_faint 15 = .ok (.lreturn, 1) := by decide +kernel
theorem dX9_faint_16 : decode cX9_faint 16 = .ok (.aload_n 0, 1) := by decide +kernel
theorem dX9_faint_17 : decode cX9_faint 17 = .ok (.iload_n 1, 1) := by decide +kernel
theorem dX9_faint_18 : decode cX9_faint 18 = .ok (.invokevirtual 196, 3) := by decide +kernel
theorem dX9_faint_21 : decode cX9_faint 21 = .ok (.ifCond .eq 25, 3) := by decide +kernel
theorem dX9_faint_24 : decode cX9_faint 24 = .ok (.iload_n 2, 1) := by decide +kernel
theorem dX9_faint_25 : decode cX9_faint 25 = .ok (.i2l, 1) := by decide +kernel
theorem dX9_faint_26 : decode cX9_faint 26 = .ok (.lconst 0, 1) := by decide +kernel
theorem dX9_faint_27 : decode cX9_faint 27 = .ok (.ldc2_w 226, 3) := by decide +kernel
theorem dX9_faint_30 : decode cX9_faint 30 = .ok (.invokestatic 57, 3) := by decide +kernel
theorem dX9_faint_33 : decode cX9_faint 33 = .ok (.ifCond .eq 13, 3) := by decide +kernel
theorem dX9_faint_36 : decode cX9_faint 36 = .ok (.iload_n 3, 1) := by decide +kernel
theorem dX9_faint_37 : decode cX9_faint 37 = .ok (.i2l, 1) := by decide +kernel
theorem dX9_faint_38 : decode cX9_faint 38 = .ok (.lconst 0, 1) := by decide +kernel
theorem dX9_faint_39 : decode cX9_faint 39 = .ok (.lconst 1, 1) := by decide +kernel
theorem dX9_faint_40 : decode cX9_faint 40 = .ok (.invokestatic 57, 3) := by decide +kernel
theorem dX9_faint_43 : decode cX9_faint 43 = .ok (.ifCond .ne 7, 3) := by decide +kernel
theorem dX9_faint_46 : decode cX9_faint 46 = .ok (.ldc2_w 228, 3) := by decide +kernel
theorem dX9_faint_49 : decode cX9_faint 49 = .ok (.lreturn, 1) := by decide +kernel
theorem dX9_faint_50 : decode cX9_faint 50 = .ok (.aload_n 0, 1) := by decide +kernel
theorem dX9_faint_51 : decode cX9_faint 51 = .ok (.getfield 19, 3) := by decide +kernel
theorem dX9_faint_54 : decode cX9_faint 54 = .ok (.iload_n 1, 1) := by decide +kernel
theorem dX9_faint_55 : decode cX9_faint 55 = .ok (.invokestatic 178, 3) := by decide +kernel
theorem dX9_faint_58 : decode cX9_faint 58 = .ok (.istore 4, 2) := by decide +kernel
theorem dX9_faint_60 : decode cX9_faint 60 = .ok (.lconst 0, 1) := by decide +kernel
theorem dX9_faint_61 : decode cX9_faint 61 = .ok (.lstore 5, 2) := by decide +kernel
theorem dX9_faint_63 : decode cX9_faint 63 = .ok (.lconst 0, 1) := by decide +kernel
theorem dX9_faint_64 : decode cX9_faint 64 = .ok (.lstore 7, 2) := by decide +kernel
theorem dX9_faint_66 : decode cX9_faint 66 = .ok (.iconst 0, 1) := by decide +kernel
theorem dX9_faint_67 : decode cX9_faint 67 = .ok (.istore 9, 2) := by decide +kernel
theorem dX9_faint_69 : decode cX9_faint 69 = .ok (.iload 9, 2) := by decide +kernel
theorem dX9_faint_71 : decode cX9_faint 71 = .ok (.iload 4, 2) := by decide +kernel
theorem dX9_faint_73 : decode cX9_faint 73 = .ok (.if_icmp .gt 156, 3) := by decide +kernel
theorem dX9_faint_76 : decode cX9_faint 76 = .ok (.iload 9, 2) := by decide +kernel
theorem dX9_faint_78 : decode cX9_faint 78 = .ok (.iload 4, 2) := by decide +kernel
theorem dX9_faint_80 : decode cX9_faint 80 = .ok (.iconst (-1), 1) := by decide +kernel
theorem dX9_faint_81 : decode cX9_faint 81 = .ok (.ixor, 1) := by decide +kernel
theorem dX9_faint_82 : decode cX9_faint 82 = .ok (.iand, 1) := by decide +kernel
theorem dX9_faint_83 : decode cX9_faint 83 = .ok (.ifCond .ne 140, 3) := by decide +kernel
theorem dX9_faint_86 : decode cX9_faint 86 = .ok (.aload_n 0, 1) := by decide +kernel
theorem dX9_faint_87 : decode cX9_faint 87 = .ok (.invokevirtual 206, 3) := by decide +kernel
theorem dX9_faint_90 : decode cX9_faint 90 = .ok (.lconst 1, 1) := by decide +kernel
theorem dX9_faint_91 : decode cX9_faint 91 = .ok (.lstore 10, 2) := by decide +kernel
theorem dX9_faint_93 : decode cX9_faint 93 = .ok (.iconst 0, 1) := by decide +kernel
theorem dX9_faint_94 : decode cX9_faint 94 = .ok (.istore 12, 2) := by decide +kernel
theorem dX9_faint_96 : decode cX9_faint 96 = .ok (.iload 12, 2) := by decide +kernel
theorem dX9_faint_98 : decode cX9_faint 98 = .ok (.aload_n 0, 1) := by decide +kernel
theorem dX9_faint_99 : decode cX9_faint 99 = .ok (.getfield 19, 3) := by decide +kernel
theorem dX9_faint_102 : decode cX9_faint 102 = .ok (.iconst 2, 1) := by decide +kernel
theorem dX9_faint_103 : decode cX9_faint 103 = .ok (.iaload, 1) := by decide +kernel
theorem dX9_faint_104 : decode cX9_faint 104 = .ok (.if_icmp .ge 88, 3) := by decide +kernel
theorem dX9_faint_107 : decode cX9_faint 107 = .ok (.lload 10, 2) := by decide +kernel
theorem dX9_faint_109 : decode cX9_faint 109 = .ok (.iload 4, 2) := by decide +kernel
theorem dX9_faint_111 : decode cX9_faint 111 = .ok (.iload 12, 2) := by decide +kernel
theorem dX9_faint_113 : decode cX9_faint 113 = .ok (.ishr, 1) := by decide +kernel
theorem dX9_faint_114 : decode cX9_faint 114 = .ok (.iconst 1, 1) := by decide +kernel
theorem dX9_faint_115 : decode cX9_faint 115 = .ok (.iand, 1) := by decide +kernel
theorem dX9_faint_116 : decode cX9_faint 116 = .ok (.ifCond .ne 7, 3) := by decide +kernel
theorem dX9_faint_119 : decode cX9_faint 119 = .ok (.lconst 1, 1) := by decide +kernel
theorem dX9_faint_120 : decode cX9_faint 120 = .ok (.goto 25, 3) := by decide +kernel
theorem dX9_faint_123 : decode cX9_faint 123 = .ok (.iload 9, 2) := by decide +kernel
theorem dX9_faint_125 : decode cX9_faint 125 = .ok (.iload 12, 2) := by decide +kernel
theorem dX9_faint_127 : decode cX9_faint 127 = .ok (.ishr, 1) := by decide +kernel
theorem dX9_faint_128 : decode cX9_faint 128 = .ok (.iconst 1, 1) := by decide +kernel
theorem dX9_faint_129 : decode cX9_faint 129 = .ok (.iand, 1) := by decide +kernel
theorem dX9_faint_130 : decode cX9_faint 130 = .ok (.iconst 1, 1) := by decide +kernel
theorem dX9_faint_131 : decode cX9_faint 131 = .ok (.if_icmp .ne 8, 3) := by decide +kernel
theorem dX9_faint_134 : decode cX9_faint 134 = .ok (.iload_n 2, 1) := by decide +kernel
theorem dX9_faint_135 : decode cX9_faint 135 = .ok (.i2l, 1) := by decide +kernel
theorem dX9_faint_136 : decode cX9_faint 136 = .ok (.goto 9, 3) := by decide +kernel
theorem dX9_faint_139 : decode cX9_faint 139 = .ok (.ldc2_w 226, 3) := by decide +kernel
theorem dX9_faint_142 : decode cX9_faint 142 = .ok (.iload_n 2, 1) := by decide +kernel
theorem dX9_faint_143 : decode cX9_faint 143 = .ok (.i2l, 1) := by decide +kernel
theorem dX9_faint_144 : decode cX9_faint 144 = .ok (.lsub, 1) := by decide +kernel
theorem dX9_faint_145 : decode cX9_faint 145 = .ok (.lmul, 1) := by decide +kernel
theorem dX9_faint_146 : decode cX9_faint 146 = .ok (.lstore 10, 2) := by decide +kernel
theorem dX9_faint_148 : decode cX9_faint 148 = .ok (.aload_n 0, 1) := by decide +kernel
theorem dX9_faint_149 : decode cX9_faint 149 = .ok (.getfield 25, 3) := by decide +kernel
theorem dX9_faint_152 : decode cX9_faint 152 = .ok (.iconst 4, 1) := by decide +kernel
theorem dX9_faint_153 : decode cX9_faint 153 = .ok (.iconst 5, 1) := by decide +kernel
theorem dX9_faint_154 : decode cX9_faint 154 = .ok (.iload 12, 2) := by decide +kernel
theorem dX9_faint_156 : decode cX9_faint 156 = .ok (.imul, 1) := by decide +kernel
theorem dX9_faint_157 : decode cX9_faint 157 = .ok (.iadd, 1) := by decide +kernel
theorem dX9_faint_158 : decode cX9_faint 158 = .ok (.iconst 3, 1) := by decide +kernel
theorem dX9_faint_159 : decode cX9_faint 159 = .ok (.iadd, 1) := by decide +kernel
theorem dX9_faint_160 : decode cX9_faint 160 = .ok (.iload 9, 2) := by decide +kernel
theorem dX9_faint_162 : decode cX9_faint 162 = .ok (.iload 12, 2) := by decide +kernel
theorem dX9_faint_164 : decode cX9_faint 164 = .ok (.ishr, 1) := by decide +kernel
theorem dX9_faint_165 : decode cX9_faint 165 = .ok (.iconst 1, 1) := by decide +kernel
theorem dX9_faint_166 : decode cX9_faint 166 = .ok (.iand, 1) := by decide +kernel
theorem dX9_faint_167 : decode cX9_faint 167 = .ok (.iconst 1, 1) := by decide +kernel
theorem dX9_faint_168 : decode cX9_faint 168 = .ok (.if_icmp .ne 7, 3) := by decide +kernel
theorem dX9_faint_171 : decode cX9_faint 171 = .ok (.iconst (-1), 1) := by decide +kernel
theorem dX9_faint_172 : decode cX9_faint 172 = .ok (.goto 13, 3) := by decide +kernel
theorem dX9_faint_175 : decode cX9_faint 175 = .ok (.aload_n 0, 1) := by decide +kernel
theorem dX9_faint_176 : decode cX9_faint 176 = .ok (.getfield 19, 3) := by decide +kernel
theorem dX9_faint_179 : decode cX9_faint 179 = .ok (.iload 12, 2) := by decide +kernel
theorem dX9_faint_181 : decode cX9_faint 181 = .ok (.iconst 3, 1) := by decide +kernel
theorem dX9_faint_182 : decode cX9_faint 182 = .ok (.invokestatic 149, 3) := by decide +kernel
theorem dX9_faint_185 : decode cX9_faint 185 = .ok (.iastore, 1) := by decide +kernel
theorem dX9_faint_186 : decode cX9_faint 186 = .ok (.iinc 12 1, 3) := by decide +kernel
theorem dX9_faint_189 : decode cX9_faint 189 = .ok (.goto (-93), 3) := by decide +kernel
theorem dX9_faint_192 : decode cX9_faint 192 = .ok (.lload 7, 2) := by decide +kernel
theorem dX9_faint_194 : decode cX9_faint 194 = .ok (.lload 10, 2) := by decide +kernel
theorem dX9_faint_196 : decode cX9_faint 196 = .ok (.ladd, 1) := by decide +kernel
theorem dX9_faint_197 : decode cX9_faint 197 = .ok (.lstore 7, 2) := by decide +kernel
theorem dX9_faint_199 : decode cX9_faint 199 = .ok (.lload 5, 2) := by decide +kernel
theorem dX9_faint_201 : decode cX9_faint 201 = .ok (.aload_n 0, 1) := by decide +kernel
theorem dX9_faint_202 : decode cX9_faint 202 = .ok (.getfield 25, 3) := by decide +kernel
theorem dX9_faint_205 : decode cX9_faint 205 = .ok (.iload_n 1, 1) := by decide +kernel
theorem dX9_faint_206 : decode cX9_faint 206 = .ok (.invokestatic 168, 3) := by decide +kernel
theorem dX9_faint_209 : decode cX9_faint 209 = .ok (.ldc 90, 2) := by decide +kernel
theorem dX9_faint_211 : decode cX9_faint 211 = .ok (.if_icmp .ne 7, 3) := by decide +kernel
theorem dX9_faint_214 : decode cX9_faint 214 = .ok (.lconst 0, 1) := by decide +kernel
theorem dX9_faint_215 : decode cX9_faint 215 = .ok (.goto 5, 3) := by decide +kernel
theorem dX9_faint_218 : decode cX9_faint 218 = .ok (.lload 10, 2) := by decide +kernel
theorem dX9_faint_220 : decode cX9_faint 220 = .ok (.ladd, 1) := by decide +kernel
theorem dX9_faint_221 : decode cX9_faint 221 = .ok (.lstore 5, 2) := by decide +kernel
theorem dX9_faint_223 : decode cX9_faint 223 = .ok (.iinc 9 1, 3) := by decide +kernel
theorem dX9_faint_226 : decode cX9_faint 226 = .ok (.goto (-157), 3) := by decide +kernel
theorem dX9_faint_229 : decode cX9_faint 229 = .ok (.lload 5, 2) := by decide +kernel
theorem dX9_faint_231 : decode cX9_faint 231 = .ok (.lstore 9, 2) := by decide +kernel
theorem dX9_faint_233 : decode cX9_faint 233 = .ok (.lload 7, 2) := by decide +kernel
theorem dX9_faint_235 : decode cX9_faint 235 = .ok (.lstore 11, 2) := by decide +kernel
theorem dX9_faint_237 : decode cX9_faint 237 = .ok (.lload 11, 2) := by decide +kernel
theorem dX9_faint_239 : decode cX9_faint 239 = .ok (.lconst 0, 1) := by decide +kernel
theorem dX9_faint_240 : decode cX9_faint 240 = .ok (.lcmp, 1) := by decide +kernel
theorem dX9_faint_241 : decode cX9_faint 241 = .ok (.ifCond .eq 21, 3) := by decide +kernel
theorem dX9_faint_244 : decode cX9_faint 244 = .ok (.lload 9, 2) := by decide +kernel
theorem dX9_faint_246 : decode cX9_faint 246 = .ok (.lload 11, 2) := by decide +kernel
theorem dX9_faint_248 : decode cX9_faint 248 = .ok (.lrem, 1) := by decide +kernel
theorem dX9_faint_249 : decode cX9_faint 249 = .ok (.lstore 13, 2) := by decide +kernel
theorem dX9_faint_251 : decode cX9_faint 251 = .ok (.lload 11, 2) := by decide +kernel
theorem dX9_faint_253 : decode cX9_faint 253 = .ok (.lstore 9, 2) := by decide +kernel
theorem dX9_faint_255 : decode cX9_faint 255 = .ok (.lload 13, 2) := by decide +kernel
theorem dX9_faint_257 : decode cX9_faint 257 = .ok (.lstore 11, 2) := by decide +kernel
theorem dX9_faint_259 : decode cX9_faint 259 = .ok (.goto (-22), 3) := by decide +kernel
theorem dX9_faint_262 : decode cX9_faint 262 = .ok (.iload_n 3, 1) := by decide +kernel
theorem dX9_faint_263 : decode cX9_faint 263 = .ok (.ifCond .ne 8, 3) := by decide +kernel
theorem dX9_faint_266 : decode cX9_faint 266 = .ok (.lload 5, 2) := by decide +kernel
theorem dX9_faint_268 : decode cX9_faint 268 = .ok (.goto 5, 3) := by decide +kernel
theorem dX9_faint_271 : decode cX9_faint 271 = .ok (.lload 7, 2) := by decide +kernel
theorem dX9_faint_273 : decode cX9_faint 273 = .ok (.lload 9, 2) := by decide +kernel
theorem dX9_faint_275 : decode cX9_faint 275 = .ok (.ldiv, 1) := by decide +kernel
theorem dX9_faint_276 : decode cX9_faint 276 = .ok (.lreturn, 1) := by decide +kernel
set_option maxRecDepth 20000 in
theorem ggX9_drawn_X9_isThere : GoodIn wsX9_drawn wsX9_isThere := goodIn_r _ [13, 14, 46, 47, 48, 49, 50, 51, 52, 53, 54, 55, 56, 57, 58, 59, 60, 61, 62, 63, 64, 65, 66, 67, 68, 69] (by decide +kernel) (by decide +kernel)
set_option maxRecDepth 20000 in
theorem gX9_drawn_X9_isThere : GoodIn wsX9_drawn (wsV RX9 184 RX9 yX9_isThere wsX9_isThere) := goodIn_app (goodIn_of _ (by decide +kernel)) ggX9_drawn_X9_isThere
set_option maxRecDepth 20000 in
theorem ggX9_drawn_X9_in : GoodIn wsX9_drawn wsX9_in := goodIn_r _ [17] (by decide +kernel) (by decide +kernel)
set_option maxRecDepth 20000 in
theorem gX9_drawn_X9_in : GoodIn wsX9_drawn (va_wsS RX9 57 yX9_in wsX9_in) := goodIn_app (goodIn_of _ (by decide +kernel)) ggX9_drawn_X9_in
set_option maxRecDepth 20000 in
theorem ggX9_drawn_X9_layThen : GoodIn wsX9_drawn wsX9_layThen := goodIn_r _ [21, 8, 14, 46, 47, 48, 49, 50, 51, 52, 53, 54, 55, 56, 57, 58, 59, 60, 61, 62, 63, 64, 65, 66, 67, 68, 69] (by decide +kernel) (by decide +kernel)
set_option maxRecDepth 20000 in
theorem gX9_drawn_X9_layThen : GoodIn wsX9_drawn (wsV RX9 206 RX9 yX9_layThen wsX9_layThen) := goodIn_app (goodIn_of _ (by decide +kernel)) ggX9_drawn_X9_layThen
set_option maxRecDepth 20000 in
theorem ggX9_drawn_X9_step : GoodIn wsX9_drawn wsX9_step := goodIn_r _ [25, 26, 27, 28, 29, 12, 30, 31, 32, 33, 34, 35, 36, 37, 38, 39, 40, 41, 42, 43, 44, 45, 46, 47, 48, 49, 50, 51, 52, 53, 54, 55, 56, 57, 58, 59, 60, 61, 62, 63, 64, 65, 66, 67, 68, 69] (by decide +kernel) (by decide +kernel)
set_option maxRecDepth 20000 in
theorem gX9_drawn_X9_step : GoodIn wsX9_drawn (wsV RX9 171 RX9 yX9_step wsX9_step) := goodIn_app (goodIn_of _ (by decide +kernel)) ggX9_drawn_X9_step
set_option maxRecDepth 20000 in
theorem ggX9_drawn_X9_of : GoodIn wsX9_drawn wsX9_of := goodIn_r _ [36] (by decide +kernel) (by decide +kernel)
set_option maxRecDepth 20000 in
theorem gX9_drawn_X9_of : GoodIn wsX9_drawn (va_wsS RX9 149 yX9_of wsX9_of) := goodIn_app (goodIn_of _ (by decide +kernel)) ggX9_drawn_X9_of
theorem dX9_drawn_0 : decode cX9_drawn 0 = .ok (.aload_n 0, 1) := by decide +kernel

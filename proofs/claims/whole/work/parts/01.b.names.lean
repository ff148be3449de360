set_option maxRecDepth 20000 in
theorem ggX0_init_X3_init : GoodIn wsX0_init wsX3_init := goodIn_r _ [11, 12, 2, 3, 13, 14, 15, 16, 17, 18, 19, 20, 21, 22, 26, 27, 28, 29, 30, 31, 32, 33, 34] (by decide +kernel) (by decide +kernel)
set_option maxRecDepth 20000 in
theorem gX0_init_X3_init_n24 : GoodIn wsX0_init (wsX3_init) := ggX0_init_X3_init
theorem dX0_init_0 : decode cX0_init 0 = .ok (.aload_n 0, 1) := by decide +kernel
theorem dX0_init_1 : decode cX0_init 1 = .ok (.invokespecial 3, 3) := by decide +kernel
theorem dX0_init_4 : decode cX0_init 4 = .ok (.aload_n 0, 1) := by decide +kernel
theorem dX0_init_5 : decode cX0_init 5 = .ok (.bipush 24, 2) := by decide +kernel
theorem dX0_init_7 : decode cX0_init 7 = .ok (.anewarray 9, 3) := by decide +kernel
theorem dX0_init_10 : decode cX0_init 10 = .ok (.putfield 11, 3) := by decide +kernel
theorem dX0_init_13 : decode cX0_init 13 = .ok (.aload_n 0, 1) := by decide +kernel
theorem dX0_init_14 : decode cX0_init 14 = .ok (.iconst 0, 1) := by decide +kernel
theorem dX0_init_15 : decode cX0_init 15 = .ok (.putfield 17, 3) := by decide +kernel
theorem dX0_init_18 : decode cX0_init 18 = .ok (.aload_n 0, 1) := by decide +kernel
theorem dX0_init_19 : decode cX0_init 19 = .ok (.iconst 0, 1) := by decide +kernel
theorem dX0_init_20 : decode cX0_init 20 = .ok (.putfield 21, 3) := by decide +kernel
theorem dX0_init_23 : decode cX0_init 23 = .ok (.iconst 0, 1) := by decide +kernel
theorem dX0_init_24 : decode cX0_init 24 = .ok (.istore_n 1, 1) := by decide +kernel
theorem dX0_init_25 : decode cX0_init 25 = .ok (.iload_n 1, 1) := by decide +kernel
theorem dX0_init_26 : decode cX0_init 26 = .ok (.bipush 24, 2) := by decide +kernel
theorem dX0_init_28 : decode cX0_init 28 = .ok (.if_icmp .ge 22, 3) := by decide +kernel
theorem dX0_init_31 : decode cX0_init 31 = .ok (.aload_n 0, 1) := by decide +kernel
theorem dX0_init_32 : decode cX0_init 32 = .ok (.getfield 11, 3) := by decide +kernel
theorem dX0_init_35 : decode cX0_init 35 = .ok (.iload_n 1, 1) := by decide +kernel
theorem dX0_init_36 : decode cX0_init 36 = .ok (.new 9, 3) := by decide +kernel
theorem dX0_init_39 : decode cX0_init 39 = .ok (.dup, 1) := by decide +kernel
theorem dX0_init_40 : decode cX0_init 40 = .ok (.invokespecial 24, 3) := by decide +kernel
theorem dX0_init_43 : decode cX0_init 43 = .ok (.aastore, 1) := by decide +kernel
theorem dX0_init_44 : decode cX0_init 44 = .ok (.iinc 1 1, 3) := by decide +kernel
theorem dX0_init_47 : decode cX0_init 47 = .ok (.goto (-22), 3) := by decide +kernel
theorem dX0_init_50 : decode cX0_init 50 = .ok (.return_, 1) := by decide +kernel
set_option maxRecDepth 20000 in
theorem ggX0_keep_X3_become : GoodIn wsX0_keep wsX3_become := goodIn_r _ [12, 13, 14, 15, 16, 17, 18, 19, 20, 21, 22, 23, 24, 25, 29, 30, 31, 32, 33, 34, 35, 36, 37] (by decide +kernel) (by decide +kernel)
set_option maxRecDepth 20000 in
theorem gX0_keep_X3_become : GoodIn wsX0_keep (wsV RX0 25 RX3 yX3_become wsX3_become) := goodIn_app (goodIn_of _ (by decide +kernel)) ggX0_keep_X3_become
theorem dX0_keep_0 : decode cX0_keep 0 = .ok (.aload_n 0, 1) := by decide +kernel
theorem dX0_keep_1 : decode cX0_keep 1 = .ok (.getfield 11, 3) := by decide +kernel
theorem dX0_keep_4 : decode cX0_keep 4 = .ok (.aload_n 0, 1) := by decide +kernel
theorem dX0_keep_5 : decode cX0_keep 5 = .ok (.getfield 17, 3) := by decide +kernel
theorem dX0_keep_8 : decode cX0_keep 8 = .ok (.aaload, 1) := by decide +kernel
theorem dX0_keep_9 : decode cX0_keep 9 = .ok (.aload_n 1, 1) := by decide +kernel
theorem dX0_keep_10 : decode cX0_keep 10 = .ok (.invokevirtual 25, 3) := by decide +kernel
theorem dX0_keep_13 : decode cX0_keep 13 = .ok (.aload_n 0, 1) := by decide +kernel
theorem dX0_keep_14 : decode cX0_keep 14 = .ok (.aload_n 0, 1) := by decide +kernel
theorem dX0_keep_15 : decode cX0_keep 15 = .ok (.getfield 17, 3) := by decide +kernel
theorem dX0_keep_18 : decode cX0_keep 18 = .ok (.iconst 1, 1) := by decide +kernel
theorem dX0_keep_19 : decode cX0_keep 19 = .ok (.iadd, 1) := by decide +kernel
theorem dX0_keep_20 : decode cX0_keep 20 = .ok (.bipush 24, 2) := by decide +kernel
theorem dX0_keep_22 : decode cX0_keep 22 = .ok (.irem, 1) := by decide +kernel
theorem dX0_keep_23 : decode cX0_keep 23 = .ok (.putfield 17, 3) := by decide +kernel
theorem dX0_keep_26 : decode cX0_keep 26 = .ok (.aload_n 0, 1) := by decide +kernel
theorem dX0_keep_27 : decode cX0_keep 27 = .ok (.bipush 24, 2) := by decide +kernel
theorem dX0_keep_29 : decode cX0_keep 29 = .ok (.aload_n 0, 1) := by decide +kernel
theorem dX0_keep_30 : decode cX0_keep 30 = .ok (.getfield 21, 3) := by decide +kernel
theorem dX0_keep_33 : decode cX0_keep 33 = .ok (.iconst 1, 1) := by decide +kernel
theorem dX0_keep_34 : decode cX0_keep 34 = .ok (.iadd, 1) := by decide +kernel
theorem dX0_keep_35 : decode cX0_keep 35 = .ok (.invokestatic 29, 3) := by decide +kernel
theorem dX0_keep_38 : decode cX0_keep 38 = .ok (.putfield 21, 3) := by decide +kernel
theorem dX0_keep_41 : decode cX0_keep 41 = .ok (.return_, 1) := by decide +kernel
set_option maxRecDepth 20000 in
theorem ggX0_takeBack_X3_become : GoodIn wsX0_takeBack wsX3_become := goodIn_r _ [8, 9, 10, 11, 12, 13, 14, 15, 16, 17, 18, 19, 20, 21, 25, 26, 27, 28, 29, 30, 31, 32, 33] (by decide +kernel) (by decide +kernel)
set_option maxRecDepth 20000 in
theorem gX0_takeBack_X3_become : GoodIn wsX0_takeBack (wsV RX0 25 RX3 yX3_become wsX3_become) := goodIn_app (goodIn_of _ (by decide +kernel)) ggX0_takeBack_X3_become
theorem dX0_takeBack_0 : decode cX0_takeBack 0 = .ok (.aload_n 0, 1) := by decide +kernel
theorem dX0_takeBack_1 : decode cX0_takeBack 1 = .ok (.getfield 21, 3) := by decide +kernel
theorem dX0_takeBack_4 : decode cX0_takeBack 4 = .ok (.ifCond .ne 4, 3) := by decide +kernel
theorem dX0_takeBack_7 : decode cX0_takeBack 7 = .ok (.return_, 1) := by decide +kernel
theorem dX0_takeBack_8 : decode cX0_takeBack 8 = .ok (.aload_n 0, 1) := by decide +kernel
theorem dX0_takeBack_9 : decode cX0_takeBack 9 = .ok (.aload_n 0, 1) := by decide +kernel
theorem dX0_takeBack_10 : decode cX0_takeBack 10 = .ok (.getfield 17, 3) := by decide +kernel
theorem dX0_takeBack_13 : decode cX0_takeBack 13 = .ok (.bipush 24, 2) := by decide +kernel
theorem dX0_takeBack_15 : decode cX0_takeBack 15 = .ok (.iadd, 1) := by decide +kernel
theorem dX0_takeBack_16 : decode cX0_takeBack 16 = .ok (.iconst 1, 1) := by decide +kernel
theorem dX0_takeBack_17 : decode cX0_takeBack 17 = .ok (.isub, 1) := by decide +kernel
theorem dX0_takeBack_18 : decode cX0_takeBack 18 = .ok (.bipush 24, 2) := by decide +kernel
theorem dX0_takeBack_20 : decode cX0_takeBack 20 = .ok (.irem, 1) := by decide +kernel
theorem dX0_takeBack_21 : decode cX0_takeBack 21 = .ok (.putfield 17, 3) := by decide +kernel
theorem dX0_takeBack_24 : decode cX0_takeBack 24 = .ok (.aload_n 0, 1) := by decide +kernel
theorem dX0_takeBack_25 : decode cX0_takeBack 25 = .ok (.dup, 1) := by decide +kernel
theorem dX0_takeBack_26 : decode cX0_takeBack 26 = .ok (.getfield 21, 3) := by decide +kernel
theorem dX0_takeBack_29 : decode cX0_takeBack 29 = .ok (.iconst 1, 1) := by decide +kernel
theorem dX0_takeBack_30 : decode cX0_takeBack 30 = .ok (.isub, 1) := by decide +kernel
theorem dX0_takeBack_31 : decode cX0_takeBack 31 = .ok (.putfield 21, 3) := by decide +kernel
theorem dX0_takeBack_34 : decode cX0_takeBack 34 = .ok (.aload_n 1, 1) := by decide +kernel
theorem dX0_takeBack_35 : decode cX0_takeBack 35 = .ok (.aload_n 0, 1) := by decide +kernel
theorem dX0_takeBack_36 : decode cX0_takeBack 36 = .ok (.getfield 11, 3) := by decide +kernel
theorem dX0_takeBack_39 : decode cX0_takeBack 39 = .ok (.aload_n 0, 1) := by decide +kernel
theorem dX0_takeBack_40 : decode cX0_takeBack 40 = .ok (.getfield 17, 3) := by decide +kernel
theorem dX0_takeBack_43 : decode cX0_takeBack 43 = .ok (.aaload, 1) := by decide +kernel
theorem dX0_takeBack_44 : decode cX0_takeBack 44 = .ok (.invokevirtual 25, 3) := by decide +kernel
theorem dX0_takeBack_47 : decode cX0_takeBack 47 = .ok (.return_, 1) := by decide +kernel
theorem dX0_forget_0 : decode cX0_forget 0 = .ok (.aload_n 0, 1) := by decide +kernel
theorem dX0_forget_1 : decode cX0_forget 1 = .ok (.iconst 0, 1) := by decide +kernel
theorem dX0_forget_2 : decode cX0_forget 2 = .ok (.putfield 21, 3) := by decide +kernel
theorem dX0_forget_5 : decode cX0_forget 5 = .ok (.return_, 1) := by decide +kernel
theorem dX1_init_0 : decode cX1_init 0 = .ok (.aload_n 0, 1) := by decide +kernel
theorem dX1_init_1 : decode cX1_init 1 = .ok (.invokespecial 3, 3) := by decide +kernel
theorem dX1_init_4 : decode cX1_init 4 = .ok (.aload_n 0, 1) := by decide +kernel
theorem dX1_init_5 : decode cX1_init 5 = .ok (.bipush 16, 2) := by decide +kernel
theorem dX1_init_7 : decode cX1_init 7 = .ok (.newarray .int, 2) := by decide +kernel
theorem dX1_init_9 : decode cX1_init 9 = .ok (.putfield 9, 3) := by decide +kernel
theorem dX1_init_12 : decode cX1_init 12 = .ok (.aload_n 0, 1) := by decide +kernel
theorem dX1_init_13 : decode cX1_init 13 = .ok (.iconst 0, 1) := by decide +kernel
theorem dX1_init_14 : decode cX1_init 14 = .ok (.putfield 15, 3) := by decide +kernel
theorem dX1_init_17 : decode cX1_init 17 = .ok (.return_, 1) := by decide +kernel
theorem dX1_begin_0 : decode cX1_begin 0 = .ok (.aload_n 0, 1) := by decide +kernel
theorem dX1_begin_1 : decode cX1_begin 1 = .ok (.iconst 0, 1) := by decide +kernel
theorem dX1_begin_2 : decode cX1_begin 2 = .ok (.putfield 15, 3) := by decide +kernel
theorem dX1_begin_5 : decode cX1_begin 5 = .ok (.return_, 1) := by decide +kernel
theorem dX1_leave_0 : decode cX1_leave 0 = .ok (.aload_n 0, 1) := by decide +kernel
theorem dX1_leave_1 : decode cX1_leave 1 = .ok (.getfield 15, 3) := by decide +kernel
theorem dX1_leave_4 : decode cX1_leave 4 = .ok (.bipush 16, 2) := by decide +kernel
theorem dX1_leave_6 : decode cX1_leave 6 = .ok (.if_icmp .ge 23, 3) := by decide +kernel
theorem dX1_leave_9 : decode cX1_leave 9 = .ok (.aload_n 0, 1) := by decide +kernel
theorem dX1_leave_10 : decode cX1_leave 10 = .ok (.getfield 9, 3) := by decide +kernel
theorem dX1_leave_13 : decode cX1_leave 13 = .ok (.aload_n 0, 1) := by decide +kernel
theorem dX1_leave_14 : decode cX1_leave 14 = .ok (.getfield 15, 3) := by decide +kernel
theorem dX1_leave_17 : decode cX1_leave 17 = .ok (.iload_n 1, 1) := by decide +kernel
theorem dX1_leave_18 : decode cX1_leave 18 = .ok (.iastore, 1) := by decide +kernel
theorem dX1_leave_19 : decode cX1_leave 19 = .ok (.aload_n 0, 1) := by decide +kernel
theorem dX1_leave_20 : decode cX1_leave 20 = .ok (.dup, 1) := by decide +kernel
theorem dX1_leave_21 : decode cX1_leave 21 = .ok (.getfield 15, 3) := by decide +kernel
theorem dX1_leave_24 : decode cX1_leave 24 = .ok (.iconst 1, 1) := by decide +kernel
theorem dX1_leave_25 : decode cX1_leave 25 = .ok (.iadd, 1) := by decide +kernel
theorem dX1_leave_26 : decode cX1_leave 26 = .ok (.putfield 15, 3) := by decide +kernel
theorem dX1_leave_29 : decode cX1_leave 29 = .ok (.return_, 1) := by decide +kernel
set_option maxRecDepth 20000 in
theorem ggX1_sizeOf_X1_size11 : GoodIn wsX1_sizeOf wsX1_size11 := goodIn_r _ [6, 7, 8, 9, 5, 10, 11, 12, 13, 14, 15, 16, 17, 18, 19, 20, 21, 1, 22, 23, 24, 25, 26, 27, 28, 29, 30, 48, 49, 39, 40, 41, 42, 43, 44, 45, 46, 47] (by decide +kernel) (by decide +kernel)
set_option maxRecDepth 20000 in
theorem gX1_sizeOf_X1_size11 : GoodIn wsX1_sizeOf (wsV RX1 24 RX1 yX1_size11 wsX1_size11) := goodIn_app (goodIn_of _ (by decide +kernel)) ggX1_sizeOf_X1_size11
set_option maxRecDepth 20000 in
theorem ggX1_sizeOf_X1_leave : GoodIn wsX1_sizeOf wsX1_leave := goodIn_r _ [10, 11, 12, 48, 49] (by decide +kernel) (by decide +kernel)
set_option maxRecDepth 20000 in
theorem gX1_sizeOf_X1_leave : GoodIn wsX1_sizeOf (wsV RX1 28 RX1 yX1_leave wsX1_leave) := goodIn_app (goodIn_of _ (by decide +kernel)) ggX1_sizeOf_X1_leave
set_option maxRecDepth 20000 in
theorem ggX1_sizeOf_X1_guestSize : GoodIn wsX1_sizeOf wsX1_guestSize := goodIn_r _ [34, 1, 35, 36, 37, 5, 38, 7, 8, 9, 10, 11, 12, 13, 14, 15, 16, 17, 39, 40, 41, 42, 43, 44, 45, 46, 47, 48, 49] (by decide +kernel) (by decide +kernel)
set_option maxRecDepth 20000 in
theorem gX1_sizeOf_X1_guestSize : GoodIn wsX1_sizeOf (wsV RX1 32 RX1 yX1_guestSize wsX1_guestSize) := goodIn_app (goodIn_of _ (by decide +kernel)) ggX1_sizeOf_X1_guestSize
theorem dX1_sizeOf_0 : decode cX1_sizeOf 0 = .ok (.aload_n 1, 1) := by decide +kernel
theorem dX1_sizeOf_1 : decode cX1_sizeOf 1 = .ok (.getfield 19, 3) := by decide +kernel
theorem dX1_sizeOf_4 : decode cX1_sizeOf 4 = .ok (.iload_n 2, 1) := by decide +kernel
theorem dX1_sizeOf_5 : decode cX1_sizeOf 5 = .ok (.iaload, 1) := by decide +kernel
theorem dX1_sizeOf_6 : decode cX1_sizeOf 6 = .ok (.tableswitch 48 1 3 #[26, 33, 26], 26) := by decide +kernel
theorem dX1_sizeOf_32 : decode cX1_sizeOf 32 = .ok (.aload_n 0, 1) := by decide +kernel
theorem dX1_sizeOf_33 : decode cX1_sizeOf 33 = .ok (.aload_n 1, 1) := by decide +kernel
theorem dX1_sizeOf_34 : decode cX1_sizeOf 34 = .ok (.iload_n 2, 1) := by decide +kernel
theorem dX1_sizeOf_35 : decode cX1_sizeOf 35 = .ok (.invokevirtual 24, 3) := by decide +kernel
theorem dX1_sizeOf_38 : decode cX1_sizeOf 38 = .ok (.ireturn, 1) := by decide +kernel
theorem dX1_sizeOf_39 : decode cX1_sizeOf 39 = .ok (.aload_n 0, 1) := by decide +kernel
theorem dX1_sizeOf_40 : decode cX1_sizeOf 40 = .ok (.bipush 12, 2) := by decide +kernel
theorem dX1_sizeOf_42 : decode cX1_sizeOf 42 = .ok (.invokevirtual 28, 3) := by decide +kernel
theorem dX1_sizeOf_45 : decode cX1_sizeOf 45 = .ok (.iconst 0, 1) := by decide +kernel
theorem dX1_sizeOf_46 : decode cX1_sizeOf 46 = .ok (.aload_n 0, 1) := by decide +kernel
theorem dX1_sizeOf_47 : decode cX1_sizeOf 47 = .ok (.aload_n 1, 1) := by decide +kernel
theorem dX1_sizeOf_48 : decode cX1_sizeOf 48 = .ok (.iload_n 2, 1) := by decide +kernel
theorem dX1_sizeOf_49 : decode cX1_sizeOf 49 = .ok (.invokevirtual 24, 3) := by decide +kernel
theorem dX1_sizeOf_52 : decode cX1_sizeOf 52 = .ok (.isub, 1) := by decide +kernel
theorem dX1_sizeOf_53 : decode cX1_sizeOf 53 = .ok (.ireturn, 1) := by decide +kernel
theorem dX1_sizeOf_54 : decode cX1_sizeOf 54 = .ok (.aload_n 0, 1) := by decide +kernel
theorem dX1_sizeOf_55 : decode cX1_sizeOf 55 = .ok (.aload_n 1, 1) := by decide +kernel
theorem dX1_sizeOf_56 : decode cX1_sizeOf 56 = .ok (.iload_n 2, 1) := by decide +kernel
theorem dX1_sizeOf_57 : decode cX1_sizeOf 57 = .ok (.invokevirtual 32, 3) := by decide +kernel
theorem dX1_sizeOf_60 : decode cX1_sizeOf 60 = .ok (.ireturn, 1) := by decide +kernel
set_option maxRecDepth 20000 in
theorem ggX1_markOf_X3_isOneOf : GoodIn wsX1_markOf wsX3_isOneOf := goodIn_r _ [5, 6, 7, 8, 9] (by decide +kernel) (by decide +kernel)
set_option maxRecDepth 20000 in
theorem gX1_markOf_X3_isOneOf : GoodIn wsX1_markOf (va_wsS RX1 35 yX3_isOneOf wsX3_isOneOf) := goodIn_app (goodIn_of _ (by decide +kernel)) ggX1_markOf_X3_isOneOf
set_option maxRecDepth 20000 in
theorem ggX1_markOf_X1_clerkMark : GoodIn wsX1_markOf wsX1_clerkMark := goodIn_r _ [14, 1, 15, 16, 17, 13, 18, 19, 20, 21, 22, 23, 24, 25, 26, 27, 28, 29, 47, 48, 49, 50, 51, 52, 53, 54, 55, 56, 57] (by decide +kernel) (by decide +kernel)
set_option maxRecDepth 20000 in
theorem gX1_markOf_X1_clerkMark : GoodIn wsX1_markOf (wsV RX1 39 RX1 yX1_clerkMark wsX1_clerkMark) := goodIn_app (goodIn_of _ (by decide +kernel)) ggX1_markOf_X1_clerkMark
set_option maxRecDepth 20000 in
theorem ggX1_markOf_X1_mark23 : GoodIn wsX1_markOf wsX1_mark23 := goodIn_r _ [33, 15, 16, 17, 13, 18, 19, 20, 26, 27, 28, 29, 34, 35, 36, 37, 1, 38, 39, 40, 41, 42, 43, 44, 45, 46, 56, 57, 47, 48, 49, 50, 51, 52, 53, 54, 55] (by decide +kernel) (by decide +kernel)
set_option maxRecDepth 20000 in
theorem gX1_markOf_X1_mark23 : GoodIn wsX1_markOf (wsV RX1 42 RX1 yX1_mark23 wsX1_mark23) := goodIn_app (goodIn_of _ (by decide +kernel)) ggX1_markOf_X1_mark23
theorem dX1_markOf_0 : decode cX1_markOf 0 = .ok (.aload_n 1, 1) := by decide +kernel
theorem dX1_markOf_1 : decode cX1_markOf 1 = .ok (.getfield 19, 3) := by decide +kernel
theorem dX1_markOf_4 : decode cX1_markOf 4 = .ok (.iload_n 2, 1) := by decide +kernel
theorem dX1_markOf_5 : decode cX1_markOf 5 = .ok (.iaload, 1) := by decide +kernel
theorem dX1_markOf_6 : decode cX1_markOf 6 = .ok (.iconst 1, 1) := by decide +kernel
theorem dX1_markOf_7 : decode cX1_markOf 7 = .ok (.invokestatic 35, 3) := by decide +kernel
theorem dX1_markOf_10 : decode cX1_markOf 10 = .ok (.ifCond .eq 12, 3) := by decide +kernel
theorem dX1_markOf_13 : decode cX1_markOf 13 = .ok (.aload_n 0, 1) := by decide +kernel
theorem dX1_markOf_14 : decode cX1_markOf 14 = .ok (.aload_n 1, 1) := by decide +kernel
theorem dX1_markOf_15 : decode cX1_markOf 15 = .ok (.iload_n 2, 1) := by decide +kernel
theorem dX1_markOf_16 : decode cX1_markOf 16 = .ok (.invokevirtual 39, 3) := by decide +kernel
theorem dX1_markOf_19 : decode cX1_markOf 19 = .ok (.goto 9, 3) := by decide +kernel
theorem dX1_markOf_22 : decode cX1_markOf 22 = .ok (.aload_n 0, 1) := by decide +kernel
theorem dX1_markOf_23 : decode cX1_markOf 23 = .ok (.aload_n 1, 1) := by decide +kernel
theorem dX1_markOf_24 : decode cX1_markOf 24 = .ok (.iload_n 2, 1) := by decide +kernel
theorem dX1_markOf_25 : decode cX1_markOf 25 = .ok (.invokevirtual 42, 3) := by decide +kernel
theorem dX1_markOf_28 : decode cX1_markOf 28 = .ok (.ireturn, 1) := by decide +kernel
set_option maxRecDepth 20000 in
theorem ggX1_guestSize_X1_size13 : GoodIn wsX1_guestSize wsX1_size13 := goodIn_r _ [6, 7, 8, 9, 5, 10, 11, 12, 13, 14, 15, 16, 17, 27, 28, 18, 19, 20, 21, 22, 23, 24, 25, 26] (by decide +kernel) (by decide +kernel)
set_option maxRecDepth 20000 in
theorem gX1_guestSize_X1_size13 : GoodIn wsX1_guestSize (wsV RX1 45 RX1 yX1_size13 wsX1_size13) := goodIn_app (goodIn_of _ (by decide +kernel)) ggX1_guestSize_X1_size13
set_option maxRecDepth 20000 in
theorem ggX1_guestSize_X1_leave : GoodIn wsX1_guestSize wsX1_leave := goodIn_r _ [10, 11, 12, 27, 28] (by decide +kernel) (by decide +kernel)
set_option maxRecDepth 20000 in
theorem gX1_guestSize_X1_leave : GoodIn wsX1_guestSize (wsV RX1 28 RX1 yX1_leave wsX1_leave) := goodIn_app (goodIn_of _ (by decide +kernel)) ggX1_guestSize_X1_leave
theorem dX1_guestSize_0 : decode cX1_guestSize 0 = .ok (.aload_n 1, 1) := by decide +kernel
theorem dX1_guestSize_1 : decode cX1_guestSize 1 = .ok (.getfield 19, 3) := by decide +kernel
theorem dX1_guestSize_4 : decode cX1_guestSize 4 = .ok (.iload_n 2, 1) := by decide +kernel
theorem dX1_guestSize_5 : decode cX1_guestSize 5 = .ok (.iaload, 1) := by decide +kernel
theorem dX1_guestSize_6 : decode cX1_guestSize 6 = .ok (.iconst 5, 1) := by decide +kernel
theorem dX1_guestSize_7 : decode cX1_guestSize 7 = .ok (.if_icmp .eq 10, 3) := by decide +kernel
theorem dX1_guestSize_10 : decode cX1_guestSize 10 = .ok (.aload_n 0, 1) := by decide +kernel
theorem dX1_guestSize_11 : decode cX1_guestSize 11 = .ok (.aload_n 1, 1) := by decide +kernel
theorem dX1_guestSize_12 : decode cX1_guestSize 12 = .ok (.iload_n 2, 1) := by decide +kernel
theorem dX1_guestSize_13 : decode cX1_guestSize 13 = .ok (.invokevirtual 45, 3) := by decide +kernel
theorem dX1_guestSize_16 : decode cX1_guestSize 16 = .ok (.ireturn, 1) := by decide +kernel
theorem dX1_guestSize_17 : decode cX1_guestSize 17 = .ok (.aload_n 0, 1) := by decide +kernel
theorem dX1_guestSize_18 : decode cX1_guestSize 18 = .ok (.bipush 14, 2) := by decide +kernel
theorem dX1_guestSize_20 : decode cX1_guestSize 20 = .ok (.invokevirtual 28, 3) := by decide +kernel
theorem dX1_guestSize_23 : decode cX1_guestSize 23 = .ok (.aload_n 0, 1) := by decide +kernel
theorem dX1_guestSize_24 : decode cX1_guestSize 24 = .ok (.aload_n 1, 1) := by decide +kernel
theorem dX1_guestSize_25 : decode cX1_guestSize 25 = .ok (.iload_n 2, 1) := by decide +kernel
theorem dX1_guestSize_26 : decode cX1_guestSize 26 = .ok (.invokevirtual 45, 3) := by decide +kernel
theorem dX1_guestSize_29 : decode cX1_guestSize 29 = .ok (.iconst 2, 1) := by decide +kernel
theorem dX1_guestSize_30 : decode cX1_guestSize 30 = .ok (.imul, 1) := by decide +kernel
theorem dX1_guestSize_31 : decode cX1_guestSize 31 = .ok (.ireturn, 1) := by decide +kernel
set_option maxRecDepth 20000 in
theorem ggX1_clerkMark_X1_leave : GoodIn wsX1_clerkMark wsX1_leave := goodIn_r _ [6, 7, 8, 27, 28] (by decide +kernel) (by decide +kernel)
set_option maxRecDepth 20000 in
theorem gX1_clerkMark_X1_leave : GoodIn wsX1_clerkMark (wsV RX1 28 RX1 yX1_leave wsX1_leave) := goodIn_app (goodIn_of _ (by decide +kernel)) ggX1_clerkMark_X1_leave
set_option maxRecDepth 20000 in
theorem ggX1_clerkMark_X1_mark21 : GoodIn wsX1_clerkMark wsX1_mark21 := goodIn_r _ [12, 13, 2, 3, 4, 5, 6, 7, 8, 14, 15, 16, 17, 18, 19, 20, 21, 22, 23, 24, 25, 26, 27, 28] (by decide +kernel) (by decide +kernel)
set_option maxRecDepth 20000 in
theorem gX1_clerkMark_X1_mark21 : GoodIn wsX1_clerkMark (wsV RX1 48 RX1 yX1_mark21 wsX1_mark21) := goodIn_app (goodIn_of _ (by decide +kernel)) ggX1_clerkMark_X1_mark21
theorem dX1_clerkMark_0 : decode cX1_clerkMark 0 = .ok (.aload_n 1, 1) := by decide +kernel
theorem dX1_clerkMark_1 : decode cX1_clerkMark 1 = .ok (.getfield 19, 3) := by decide +kernel
theorem dX1_clerkMark_4 : decode cX1_clerkMark 4 = .ok (.iload_n 2, 1) := by decide +kernel
theorem dX1_clerkMark_5 : decode cX1_clerkMark 5 = .ok (.iaload, 1) := by decide +kernel
theorem dX1_clerkMark_6 : decode cX1_clerkMark 6 = .ok (.lookupswitch 58 #[(2, 43), (3, 26)], 26) := by decide +kernel
theorem dX1_clerkMark_32 : decode cX1_clerkMark 32 = .ok (.aload_n 0, 1) := by decide +kernel
theorem dX1_clerkMark_33 : decode cX1_clerkMark 33 = .ok (.bipush 22, 2) := by decide +kernel
theorem dX1_clerkMark_35 : decode cX1_clerkMark 35 = .ok (.invokevirtual 28, 3) := by decide +kernel
theorem dX1_clerkMark_38 : decode cX1_clerkMark 38 = .ok (.aload_n 0, 1) := by decide +kernel
theorem dX1_clerkMark_39 : decode cX1_clerkMark 39 = .ok (.aload_n 1, 1) := by decide +kernel
theorem dX1_clerkMark_40 : decode cX1_clerkMark 40 = .ok (.iload_n 2, 1) := by decide +kernel
theorem dX1_clerkMark_41 : decode cX1_clerkMark 41 = .ok (.invokevirtual 48, 3) := by decide +kernel
theorem dX1_clerkMark_44 : decode cX1_clerkMark 44 = .ok (.sipush 1000, 3) := by decide +kernel
theorem dX1_clerkMark_47 : decode cX1_clerkMark 47 = .ok (.isub, 1) := by decide +kernel
theorem dX1_clerkMark_48 : decode cX1_clerkMark 48 = .ok (.ireturn, 1) := by decide +kernel
theorem dX1_clerkMark_49 : decode cX1_clerkMark 49 = .ok (.aload_n 0, 1) := by decide +kernel
theorem dX1_clerkMark_50 : decode cX1_clerkMark 50 = .ok (.bipush 24, 2) := by decide +kernel
theorem dX1_clerkMark_52 : decode cX1_clerkMark 52 = .ok (.invokevirtual 28, 3) := by decide +kernel
theorem dX1_clerkMark_55 : decode cX1_clerkMark 55 = .ok (.aload_n 0, 1) := by decide +kernel
theorem dX1_clerkMark_56 : decode cX1_clerkMark 56 = .ok (.aload_n 1, 1) := by decide +kernel
theorem dX1_clerkMark_57 : decode cX1_clerkMark 57 = .ok (.iload_n 2, 1) := by decide +kernel
theorem dX1_clerkMark_58 : decode cX1_clerkMark 58 = .ok (.invokevirtual 48, 3) := by decide +kernel
theorem dX1_clerkMark_61 : decode cX1_clerkMark 61 = .ok (.iconst 2, 1) := by decide +kernel
theorem dX1_clerkMark_62 : decode cX1_clerkMark 62 = .ok (.imul, 1) := by decide +kernel
theorem dX1_clerkMark_63 : decode cX1_clerkMark 63 = .ok (.ireturn, 1) := by decide +kernel
theorem dX1_clerkMark_64 : decode cX1_clerkMark 64 = .ok (.aload_n 0, 1) := by decide +kernel
theorem dX1_clerkMark_65 : decode cX1_clerkMark 65 = .ok (.aload_n 1, 1) := by decide +kernel
theorem dX1_clerkMark_66 : decode cX1_clerkMark 66 = .ok (.iload_n 2, 1) := by decide +kernel
theorem dX1_clerkMark_67 : decode cX1_clerkMark 67 = .ok (.invokevirtual 48, 3) := by decide +kernel
theorem dX1_clerkMark_70 : decode cX1_clerkMark 70 = .ok (.ireturn, 1) := by decide +kernel
set_option maxRecDepth 20000 in
theorem ggX1_size10_X1_leave : GoodIn wsX1_size10 wsX1_leave := goodIn_r _ [6, 7, 8, 18, 19] (by decide +kernel) (by decide +kernel)
set_option maxRecDepth 20000 in
theorem gX1_size10_X1_leave : GoodIn wsX1_size10 (wsV RX1 28 RX1 yX1_leave wsX1_leave) := goodIn_app (goodIn_of _ (by decide +kernel)) ggX1_size10_X1_leave
theorem dX1_size10_0 : decode cX1_size10 0 = .ok (.aload_n 0, 1) := by decide +kernel
theorem dX1_size10_1 : decode cX1_size10 1 = .ok (.bipush 10, 2) := by decide +kernel
theorem dX1_size10_3 : decode cX1_size10 3 = .ok (.invokevirtual 28, 3) := by decide +kernel
theorem dX1_size10_6 : decode cX1_size10 6 = .ok (.aload_n 1, 1) := by decide +kernel
theorem dX1_size10_7 : decode cX1_size10 7 = .ok (.getfield 51, 3) := by decide +kernel
theorem dX1_size10_10 : decode cX1_size10 10 = .ok (.iload_n 2, 1) := by decide +kernel
theorem dX1_size10_11 : decode cX1_size10 11 = .ok (.iaload, 1) := by decide +kernel
theorem dX1_size10_12 : decode cX1_size10 12 = .ok (.ireturn, 1) := by decide +kernel
set_option maxRecDepth 20000 in
theorem ggX1_size11_X1_leave : GoodIn wsX1_size11 wsX1_leave := goodIn_r _ [5, 6, 7, 27, 28] (by decide +kernel) (by decide +kernel)
set_option maxRecDepth 20000 in
theorem gX1_size11_X1_leave : GoodIn wsX1_size11 (wsV RX1 28 RX1 yX1_leave wsX1_leave) := goodIn_app (goodIn_of _ (by decide +kernel)) ggX1_size11_X1_leave
set_option maxRecDepth 20000 in
theorem ggX1_size11_X1_size10 : GoodIn wsX1_size11 wsX1_size10 := goodIn_r _ [11, 12, 1, 2, 3, 4, 5, 6, 7, 29, 30, 31, 32, 33, 34, 35, 36, 37, 27, 28] (by decide +kernel) (by decide +kernel)
set_option maxRecDepth 20000 in
theorem gX1_size11_X1_size10 : GoodIn wsX1_size11 (wsV RX1 54 RX1 yX1_size10 wsX1_size10) := goodIn_app (goodIn_of _ (by decide +kernel)) ggX1_size11_X1_size10
set_option maxRecDepth 20000 in
theorem ggX1_size11_X1_clerkMark : GoodIn wsX1_size11 wsX1_clerkMark := goodIn_r _ [16, 17, 1, 2, 3, 4, 5, 6, 7, 18, 19, 20, 21, 22, 23, 24, 25, 26, 29, 30, 31, 32, 33, 34, 35, 36, 37, 27, 28] (by decide +kernel) (by decide +kernel)
set_option maxRecDepth 20000 in
theorem gX1_size11_X1_clerkMark : GoodIn wsX1_size11 (wsV RX1 39 RX1 yX1_clerkMark wsX1_clerkMark) := goodIn_app (goodIn_of _ (by decide +kernel)) ggX1_size11_X1_clerkMark
theorem dX1_size11_0 : decode cX1_size11 0 = .ok (.aload_n 0, 1) := by decide +kernel
theorem dX1_size11_1 : decode cX1_size11 1 = .ok (.bipush 11, 2) := by decide +kernel
theorem dX1_size11_3 : decode cX1_size11 3 = .ok (.invokevirtual 28, 3) := by decide +kernel
theorem dX1_size11_6 : decode cX1_size11 6 = .ok (.aload_n 0, 1) := by decide +kernel
theorem dX1_size11_7 : decode cX1_size11 7 = .ok (.aload_n 1, 1) := by decide +kernel
theorem dX1_size11_8 : decode cX1_size11 8 = .ok (.iload_n 2, 1) := by decide +kernel
theorem dX1_size11_9 : decode cX1_size11 9 = .ok (.invokevirtual 54, 3) := by decide +kernel
theorem dX1_size11_12 : decode cX1_size11 12 = .ok (.istore_n 3, 1) := by decide +kernel
theorem dX1_size11_13 : decode cX1_size11 13 = .ok (.iload_n 3, 1) := by decide +kernel
theorem dX1_size11_14 : decode cX1_size11 14 = .ok (.aload_n 0, 1) := by decide +kernel
theorem dX1_size11_15 : decode cX1_size11 15 = .ok (.aload_n 1, 1) := by decide +kernel
theorem dX1_size11_16 : decode cX1_size11 16 = .ok (.iload_n 2, 1) := by decide +kernel
theorem dX1_size11_17 : decode cX1_size11 17 = .ok (.invokevirtual 39, 3) := by decide +kernel
theorem dX1_size11_20 : decode cX1_size11 20 = .ok (.iadd, 1) := by decide +kernel
theorem dX1_size11_21 : decode cX1_size11 21 = .ok (.ireturn, 1) := by decide +kernel
set_option maxRecDepth 20000 in
theorem ggX1_size13_X1_leave : GoodIn wsX1_size13 wsX1_leave := goodIn_r _ [5, 6, 7, 13, 14] (by decide +kernel) (by decide +kernel)
set_option maxRecDepth 20000 in
theorem gX1_size13_X1_leave : GoodIn wsX1_size13 (wsV RX1 28 RX1 yX1_leave wsX1_leave) := goodIn_app (goodIn_of _ (by decide +kernel)) ggX1_size13_X1_leave
set_option maxRecDepth 20000 in
theorem ggX1_size13_X1_size10 : GoodIn wsX1_size13 wsX1_size10 := goodIn_r _ [11, 12, 1, 2, 3, 4, 5, 6, 7, 15, 16, 17, 18, 19, 20, 21, 22, 23, 13, 14] (by decide +kernel) (by decide +kernel)
set_option maxRecDepth 20000 in
theorem gX1_size13_X1_size10 : GoodIn wsX1_size13 (wsV RX1 54 RX1 yX1_size10 wsX1_size10) := goodIn_app (goodIn_of _ (by decide +kernel)) ggX1_size13_X1_size10
theorem dX1_size13_0 : decode cX1_size13 0 = .ok (.aload_n 0, 1) := by decide +kernel
theorem dX1_size13_1 : decode cX1_size13 1 = .ok (.bipush 13, 2) := by decide +kernel
theorem dX1_size13_3 : decode cX1_size13 3 = .ok (.invokevirtual 28, 3) := by decide +kernel
theorem dX1_size13_6 : decode cX1_size13 6 = .ok (.aload_n 0, 1) := by decide +kernel
theorem dX1_size13_7 : decode cX1_size13 7 = .ok (.aload_n 1, 1) := by decide +kernel
theorem dX1_size13_8 : decode cX1_size13 8 = .ok (.iload_n 2, 1) := by decide +kernel
theorem dX1_size13_9 : decode cX1_size13 9 = .ok (.invokevirtual 54, 3) := by decide +kernel
theorem dX1_size13_12 : decode cX1_size13 12 = .ok (.bipush 100, 2) := by decide +kernel
theorem dX1_size13_14 : decode cX1_size13 14 = .ok (.isub, 1) := by decide +kernel
theorem dX1_size13_15 : decode cX1_size13 15 = .ok (.ireturn, 1) := by decide +kernel
set_option maxRecDepth 20000 in
theorem ggX1_mark20_X1_leave : GoodIn wsX1_mark20 wsX1_leave := goodIn_r _ [5, 6, 7, 8, 9] (by decide +kernel) (by decide +kernel)
set_option maxRecDepth 20000 in
theorem gX1_mark20_X1_leave : GoodIn wsX1_mark20 (wsV RX1 28 RX1 yX1_leave wsX1_leave) := goodIn_app (goodIn_of _ (by decide +kernel)) ggX1_mark20_X1_leave
theorem dX1_mark20_0 : decode cX1_mark20 0 = .ok (.aload_n 0, 1) := by decide +kernel
theorem dX1_mark20_1 : decode cX1_mark20 1 = .ok (.bipush 20, 2) := by decide +kernel
theorem dX1_mark20_3 : decode cX1_mark20 3 = .ok (.invokevirtual 28, 3) := by decide +kernel
theorem dX1_mark20_6 : decode cX1_mark20 6 = .ok (.iload_n 1, 1) := by decide +kernel
theorem dX1_mark20_7 : decode cX1_mark20 7 = .ok (.ireturn, 1) := by decide +kernel
set_option maxRecDepth 20000 in
theorem ggX1_mark21_X1_leave : GoodIn wsX1_mark21 wsX1_leave := goodIn_r _ [6, 7, 8, 22, 23] (by decide +kernel) (by decide +kernel)
set_option maxRecDepth 20000 in
theorem gX1_mark21_X1_leave : GoodIn wsX1_mark21 (wsV RX1 28 RX1 yX1_leave wsX1_leave) := goodIn_app (goodIn_of _ (by decide +kernel)) ggX1_mark21_X1_leave
set_option maxRecDepth 20000 in
theorem ggX1_mark21_X1_mark20 : GoodIn wsX1_mark21 wsX1_mark20 := goodIn_r _ [12, 2, 3, 4, 5, 6, 7, 8, 22, 23] (by decide +kernel) (by decide +kernel)
set_option maxRecDepth 20000 in
theorem gX1_mark21_X1_mark20 : GoodIn wsX1_mark21 (wsV RX1 57 RX1 yX1_mark20 wsX1_mark20) := goodIn_app (goodIn_of _ (by decide +kernel)) ggX1_mark21_X1_mark20
theorem dX1_mark21_0 : decode cX1_mark21 0 = .ok (.aload_n 0, 1) := by decide +kernel
theorem dX1_mark21_1 : decode cX1_mark21 1 = .ok (.bipush 21, 2) := by decide +kernel
theorem dX1_mark21_3 : decode cX1_mark21 3 = .ok (.invokevirtual 28, 3) := by decide +kernel
theorem dX1_mark21_6 : decode cX1_mark21 6 = .ok (.aload_n 0, 1) := by decide +kernel
theorem dX1_mark21_7 : decode cX1_mark21 7 = .ok (.iload_n 2, 1) := by decide +kernel
theorem dX1_mark21_8 : decode cX1_mark21 8 = .ok (.invokevirtual 57, 3) := by decide +kernel
theorem dX1_mark21_11 : decode cX1_mark21 11 = .ok (.aload_n 1, 1) := by decide +kernel
theorem dX1_mark21_12 : decode cX1_mark21 12 = .ok (.getfield 61, 3) := by decide +kernel
theorem dX1_mark21_15 : decode cX1_mark21 15 = .ok (.iload_n 2, 1) := by decide +kernel
theorem dX1_mark21_16 : decode cX1_mark21 16 = .ok (.iaload, 1) := by decide +kernel
theorem dX1_mark21_17 : decode cX1_mark21 17 = .ok (.iadd, 1) := by decide +kernel
theorem dX1_mark21_18 : decode cX1_mark21 18 = .ok (.ireturn, 1) := by decide +kernel
set_option maxRecDepth 20000 in
theorem ggX1_mark23_X1_leave : GoodIn wsX1_mark23 wsX1_leave := goodIn_r _ [5, 6, 7, 26, 27] (by decide +kernel) (by decide +kernel)
set_option maxRecDepth 20000 in
theorem gX1_mark23_X1_leave : GoodIn wsX1_mark23 (wsV RX1 28 RX1 yX1_leave wsX1_leave) := goodIn_app (goodIn_of _ (by decide +kernel)) ggX1_mark23_X1_leave
set_option maxRecDepth 20000 in
theorem ggX1_mark23_X1_mark20 : GoodIn wsX1_mark23 wsX1_mark20 := goodIn_r _ [11, 1, 2, 3, 4, 5, 6, 7, 26, 27] (by decide +kernel) (by decide +kernel)
set_option maxRecDepth 20000 in
theorem gX1_mark23_X1_mark20 : GoodIn wsX1_mark23 (wsV RX1 57 RX1 yX1_mark20 wsX1_mark20) := goodIn_app (goodIn_of _ (by decide +kernel)) ggX1_mark23_X1_mark20
set_option maxRecDepth 20000 in
theorem ggX1_mark23_X1_guestSize : GoodIn wsX1_mark23 wsX1_guestSize := goodIn_r _ [15, 16, 17, 18, 19, 4, 20, 1, 2, 3, 5, 6, 7, 21, 22, 23, 24, 25, 28, 29, 30, 31, 32, 33, 34, 35, 36, 26, 27] (by decide +kernel) (by decide +kernel)
set_option maxRecDepth 20000 in
theorem gX1_mark23_X1_guestSize : GoodIn wsX1_mark23 (wsV RX1 32 RX1 yX1_guestSize wsX1_guestSize) := goodIn_app (goodIn_of _ (by decide +kernel)) ggX1_mark23_X1_guestSize
theorem dX1_mark23_0 : decode cX1_mark23 0 = .ok (.aload_n 0, 1) := by decide +kernel
theorem dX1_mark23_1 : decode cX1_mark23 1 = .ok (.bipush 23, 2) := by decide +kernel
theorem dX1_mark23_3 : decode cX1_mark23 3 = .ok (.invokevirtual 28, 3) := by decide +kernel
theorem dX1_mark23_6 : decode cX1_mark23 6 = .ok (.aload_n 0, 1) := by decide +kernel
theorem dX1_mark23_7 : decode cX1_mark23 7 = .ok (.iload_n 2, 1) := by decide +kernel
theorem dX1_mark23_8 : decode cX1_mark23 8 = .ok (.invokevirtual 57, 3) := by decide +kernel
theorem dX1_mark23_11 : decode cX1_mark23 11 = .ok (.istore_n 3, 1) := by decide +kernel
theorem dX1_mark23_12 : decode cX1_mark23 12 = .ok (.iload_n 3, 1) := by decide +kernel
theorem dX1_mark23_13 : decode cX1_mark23 13 = .ok (.aload_n 0, 1) := by decide +kernel
theorem dX1_mark23_14 : decode cX1_mark23 14 = .ok (.aload_n 1, 1) := by decide +kernel
theorem dX1_mark23_15 : decode cX1_mark23 15 = .ok (.iload_n 2, 1) := by decide +kernel
theorem dX1_mark23_16 : decode cX1_mark23 16 = .ok (.invokevirtual 32, 3) := by decide +kernel
theorem dX1_mark23_19 : decode cX1_mark23 19 = .ok (.isub, 1) := by decide +kernel
theorem dX1_mark23_20 : decode cX1_mark23 20 = .ok (.ireturn, 1) := by decide +kernel
set_option maxRecDepth 20000 in
theorem ggX2_init_X3_init : GoodIn wsX2_init wsX3_init := goodIn_r _ [17, 18, 2, 3, 19, 20, 21, 22, 23, 24, 25, 26, 27, 28, 40, 41, 42, 43, 44, 45, 46, 47, 48] (by decide +kernel) (by decide +kernel)
set_option maxRecDepth 20000 in
theorem gX2_init_X3_init_n11 : GoodIn wsX2_init (wsX3_init) := ggX2_init_X3_init
set_option maxRecDepth 20000 in
theorem ggX2_init_X4_init : GoodIn wsX2_init wsX4_init := goodIn_r _ [30, 31, 2, 3, 23, 32, 52] (by decide +kernel) (by decide +kernel)
set_option maxRecDepth 20000 in
theorem gX2_init_X4_init_n20 : GoodIn wsX2_init (wsX4_init) := ggX2_init_X4_init
set_option maxRecDepth 20000 in
theorem ggX2_init_X5_init : GoodIn wsX2_init wsX5_init := goodIn_r _ [34, 35, 2, 3, 23, 36, 37, 38, 39, 53, 54, 55, 56] (by decide +kernel) (by decide +kernel)
set_option maxRecDepth 20000 in
theorem gX2_init_X5_init_n27 : GoodIn wsX2_init (wsX5_init) := ggX2_init_X5_init
theorem dX2_init_0 : decode cX2_init 0 = .ok (.aload_n 0, 1) := by decide +kernel
theorem dX2_init_1 : decode cX2_init 1 = .ok (.invokespecial 3, 3) := by decide +kernel
theorem dX2_init_4 : decode cX2_init 4 = .ok (.aload_n 0, 1) := by decide +kernel
theorem dX2_init_5 : decode cX2_init 5 = .ok (.new 9, 3) := by decide +kernel
theorem dX2_init_8 : decode cX2_init 8 = .ok (.dup, 1) := by decide +kernel
theorem dX2_init_9 : decode cX2_init 9 = .ok (.invokespecial 11, 3) := by decide +kernel
theorem dX2_init_12 : decode cX2_init 12 = .ok (.putfield 12, 3) := by decide +kernel
theorem dX2_init_15 : decode cX2_init 15 = .ok (.aload_n 0, 1) := by decide +kernel
theorem dX2_init_16 : decode cX2_init 16 = .ok (.new 18, 3) := by decide +kernel
theorem dX2_init_19 : decode cX2_init 19 = .ok (.dup, 1) := by decide +kernel
theorem dX2_init_20 : decode cX2_init 20 = .ok (.invokespecial 20, 3) := by decide +kernel
theorem dX2_init_23 : decode cX2_init 23 = .ok (.putfield 21, 3) := by decide +kernel
theorem dX2_init_26 : decode cX2_init 26 = .ok (.aload_n 0, 1) := by decide +kernel
theorem dX2_init_27 : decode cX2_init 27 = .ok (.new 25, 3) := by decide +kernel
theorem dX2_init_30 : decode cX2_init 30 = .ok (.dup, 1) := by decide +kernel
theorem dX2_init_31 : decode cX2_init 31 = .ok (.invokespecial 27, 3) := by decide +kernel
theorem dX2_init_34 : decode cX2_init 34 = .ok (.putfield 28, 3) := by decide +kernel
theorem dX2_init_37 : decode cX2_init 37 = .ok (.return_, 1) := by decide +kernel
set_option maxRecDepth 20000 in
theorem ggX2_lawOf_X4_read : GoodIn wsX2_lawOf wsX4_read := goodIn_r _ [6, 7, 8, 9, 10, 11, 12, 13, 14, 15, 16, 20, 21, 22, 23, 24, 25, 26, 27, 28, 29] (by decide +kernel) (by decide +kernel)
set_option maxRecDepth 20000 in
theorem gX2_lawOf_X4_read : GoodIn wsX2_lawOf (wsV RX2 32 RX4 yX4_read wsX4_read) := goodIn_app (goodIn_of _ (by decide +kernel)) ggX2_lawOf_X4_read
theorem dX2_lawOf_0 : decode cX2_lawOf 0 = .ok (.aload_n 0, 1) := by decide +kernel
theorem dX2_lawOf_1 : decode cX2_lawOf 1 = .ok (.getfield 21, 3) := by decide +kernel
theorem dX2_lawOf_4 : decode cX2_lawOf 4 = .ok (.aload_n 1, 1) := by decide +kernel
theorem dX2_lawOf_5 : decode cX2_lawOf 5 = .ok (.invokevirtual 32, 3) := by decide +kernel
theorem dX2_lawOf_8 : decode cX2_lawOf 8 = .ok (.aload_n 0, 1) := by decide +kernel
theorem dX2_lawOf_9 : decode cX2_lawOf 9 = .ok (.getfield 21, 3) := by decide +kernel
theorem dX2_lawOf_12 : decode cX2_lawOf 12 = .ok (.areturn, 1) := by decide +kernel
set_option maxRecDepth 20000 in
theorem ggX2_lineAt_X3_waitingAt : GoodIn wsX2_lineAt wsX3_waitingAt := goodIn_r _ [5, 6, 7, 59, 60, 61, 62, 63, 64, 65, 66, 67] (by decide +kernel) (by decide +kernel)
set_option maxRecDepth 20000 in
theorem gX2_lineAt_X3_waitingAt : GoodIn wsX2_lineAt (wsV RX2 36 RX3 yX3_waitingAt wsX3_waitingAt) := goodIn_app (goodIn_of _ (by decide +kernel)) ggX2_lineAt_X3_waitingAt
set_option maxRecDepth 20000 in
theorem ggX2_lineAt_X2_lineOf : GoodIn wsX2_lineAt wsX2_lineOf := goodIn_r _ [12, 13, 14, 15, 16, 17, 18, 19, 20, 21, 22, 23, 24, 4, 25, 26, 27, 28, 29, 30, 31, 32, 33, 34, 35, 36, 37, 38, 39, 40, 41, 42, 43, 44, 45, 46, 47, 48, 49, 50, 51, 52, 53, 54, 55, 56, 57, 58, 68, 69, 70, 71, 59, 60, 61, 62, 63, 64, 65, 66, 67, 72, 73, 74, 75] (by decide +kernel) (by decide +kernel)
set_option maxRecDepth 20000 in
theorem gX2_lineAt_X2_lineOf : GoodIn wsX2_lineAt (wsV RX2 40 RX2 yX2_lineOf wsX2_lineOf) := goodIn_app (goodIn_of _ (by decide +kernel)) ggX2_lineAt_X2_lineOf
theorem dX2_lineAt_0 : decode cX2_lineAt 0 = .ok (.aload_n 0, 1) := by decide +kernel
theorem dX2_lineAt_1 : decode cX2_lineAt 1 = .ok (.aload_n 1, 1) := by decide +kernel
theorem dX2_lineAt_2 : decode cX2_lineAt 2 = .ok (.aload_n 1, 1) := by decide +kernel
theorem dX2_lineAt_3 : decode cX2_lineAt 3 = .ok (.iload_n 2, 1) := by decide +kernel
theorem dX2_lineAt_4 : decode cX2_lineAt 4 = .ok (.invokevirtual 36, 3) := by decide +kernel
theorem dX2_lineAt_7 : decode cX2_lineAt 7 = .ok (.invokevirtual 40, 3) := by decide +kernel
theorem dX2_lineAt_10 : decode cX2_lineAt 10 = .ok (.areturn, 1) := by decide +kernel
set_option maxRecDepth 20000 in
theorem ggX2_lineOf_X4_read : GoodIn wsX2_lineOf wsX4_read := goodIn_r _ [7, 8, 9, 10, 11, 12, 13, 14, 15, 16, 17, 51, 52, 53, 54, 55, 56, 57, 58, 59, 60] (by decide +kernel) (by decide +kernel)
set_option maxRecDepth 20000 in
theorem gX2_lineOf_X4_read : GoodIn wsX2_lineOf (wsV RX2 32 RX4 yX4_read wsX4_read) := goodIn_app (goodIn_of _ (by decide +kernel)) ggX2_lineOf_X4_read
set_option maxRecDepth 20000 in
theorem ggX2_lineOf_X5_readNobodies : GoodIn wsX2_lineOf wsX5_readNobodies := goodIn_r _ [22, 23, 24, 25, 26, 27, 28, 52, 53, 54, 55, 56, 57, 58, 59, 60, 61, 62, 63, 64] (by decide +kernel) (by decide +kernel)
set_option maxRecDepth 20000 in
theorem gX2_lineOf_X5_readNobodies : GoodIn wsX2_lineOf (wsV RX2 44 RX5 yX5_readNobodies wsX5_readNobodies) := goodIn_app (goodIn_of _ (by decide +kernel)) ggX2_lineOf_X5_readNobodies
set_option maxRecDepth 20000 in
theorem ggX2_lineOf_X5_foretell : GoodIn wsX2_lineOf wsX5_foretell := goodIn_r _ [32, 33, 34, 35, 36, 37, 38, 21, 39, 24, 40, 41, 42, 6, 43, 44, 45, 46, 47, 8, 61, 62, 63, 64, 51] (by decide +kernel) (by decide +kernel)
set_option maxRecDepth 20000 in
theorem gX2_lineOf_X5_foretell : GoodIn wsX2_lineOf (wsV RX2 47 RX5 yX5_foretell wsX5_foretell) := goodIn_app (goodIn_of _ (by decide +kernel)) ggX2_lineOf_X5_foretell
theorem dX2_lineOf_0 : decode cX2_lineOf 0 = .ok (.aload_n 0, 1) := by decide +kernel
theorem dX2_lineOf_1 : decode cX2_lineOf 1 = .ok (.getfield 21, 3) := by decide +kernel
theorem dX2_lineOf_4 : decode cX2_lineOf 4 = .ok (.aload_n 1, 1) := by decide +kernel
theorem dX2_lineOf_5 : decode cX2_lineOf 5 = .ok (.invokevirtual 32, 3) := by decide +kernel
theorem dX2_lineOf_8 : decode cX2_lineOf 8 = .ok (.aload_n 0, 1) := by decide +kernel
theorem dX2_lineOf_9 : decode cX2_lineOf 9 = .ok (.getfield 28, 3) := by decide +kernel
theorem dX2_lineOf_12 : decode cX2_lineOf 12 = .ok (.aload_n 1, 1) := by decide +kernel
theorem dX2_lineOf_13 : decode cX2_lineOf 13 = .ok (.invokevirtual 44, 3) := by decide +kernel
theorem dX2_lineOf_16 : decode cX2_lineOf 16 = .ok (.aload_n 0, 1) := by decide +kernel
theorem dX2_lineOf_17 : decode cX2_lineOf 17 = .ok (.getfield 28, 3) := by decide +kernel
theorem dX2_lineOf_20 : decode cX2_lineOf 20 = .ok (.aload_n 0, 1) := by decide +kernel
theorem dX2_lineOf_21 : decode cX2_lineOf 21 = .ok (.getfield 21, 3) := by decide +kernel
theorem dX2_lineOf_24 : decode cX2_lineOf 24 = .ok (.iload_n 2, 1) := by decide +kernel
theorem dX2_lineOf_25 : decode cX2_lineOf 25 = .ok (.invokevirtual 47, 3) := by decide +kernel
theorem dX2_lineOf_28 : decode cX2_lineOf 28 = .ok (.aload_n 0, 1) := by decide +kernel
theorem dX2_lineOf_29 : decode cX2_lineOf 29 = .ok (.getfield 28, 3) := by decide +kernel
theorem dX2_lineOf_32 : decode cX2_lineOf 32 = .ok (.areturn, 1) := by decide +kernel
set_option maxRecDepth 20000 in
theorem ggX2_whenThrough_X2_lineAt : GoodIn wsX2_whenThrough wsX2_lineAt := goodIn_r _ [6, 7, 8, 9, 10, 11, 12, 13, 14, 15, 16, 5, 17, 18, 19, 20, 21, 22, 23, 24, 25, 26, 27, 28, 29, 30, 31, 32, 33, 34, 35, 36, 37, 38, 39, 40, 41, 42, 43, 44, 45, 46, 47, 48, 49, 50, 51, 52, 53, 54, 55, 56, 57, 58, 59, 60, 61, 62, 63, 72, 73, 74, 75, 76, 77, 78, 79, 80, 81, 82, 83, 84, 85, 86, 87, 88] (by decide +kernel) (by decide +kernel)
set_option maxRecDepth 20000 in
theorem gX2_whenThrough_X2_lineAt : GoodIn wsX2_whenThrough (wsV RX2 55 RX2 yX2_lineAt wsX2_lineAt) := goodIn_app (goodIn_of _ (by decide +kernel)) ggX2_whenThrough_X2_lineAt
set_option maxRecDepth 20000 in
theorem ggX2_whenThrough_X5_whenGone : GoodIn wsX2_whenThrough wsX5_whenGone := goodIn_r _ [67, 50, 68, 69, 70, 37, 71, 51, 85, 86, 87, 88] (by decide +kernel) (by decide +kernel)
set_option maxRecDepth 20000 in
theorem gX2_whenThrough_X5_whenGone : GoodIn wsX2_whenThrough (wsV RX2 58 RX5 yX5_whenGone wsX5_whenGone) := goodIn_app (goodIn_of _ (by decide +kernel)) ggX2_whenThrough_X5_whenGone
theorem dX2_whenThrough_0 : decode cX2_whenThrough 0 = .ok (.aload_n 1, 1) := by decide +kernel
theorem dX2_whenThrough_1 : decode cX2_whenThrough 1 = .ok (.getfield 51, 3) := by decide +kernel
theorem dX2_whenThrough_4 : decode cX2_whenThrough 4 = .ok (.iload_n 2, 1) := by decide +kernel
theorem dX2_whenThrough_5 : decode cX2_whenThrough 5 = .ok (.iaload, 1) := by decide +kernel
theorem dX2_whenThrough_6 : decode cX2_whenThrough 6 = .ok (.istore_n 3, 1) := by decide +kernel
theorem dX2_whenThrough_7 : decode cX2_whenThrough 7 = .ok (.iload_n 3, 1) := by decide +kernel
theorem dX2_whenThrough_8 : decode cX2_whenThrough 8 = .ok (.iconst (-1), 1) := by decide +kernel
theorem dX2_whenThrough_9 : decode cX2_whenThrough 9 = .ok (.if_icmp .ne 7, 3) := by decide +kernel
theorem dX2_whenThrough_12 : decode cX2_whenThrough 12 = .ok (.iconst 0, 1) := by decide +kernel
theorem dX2_whenThrough_13 : decode cX2_whenThrough 13 = .ok (.goto 13, 3) := by decide +kernel
theorem dX2_whenThrough_16 : decode cX2_whenThrough 16 = .ok (.aload_n 0, 1) := by decide +kernel
theorem dX2_whenThrough_17 : decode cX2_whenThrough 17 = .ok (.aload_n 1, 1) := by decide +kernel
theorem dX2_whenThrough_18 : decode cX2_whenThrough 18 = .ok (.iload_n 3, 1) := by decide +kernel
theorem dX2_whenThrough_19 : decode cX2_whenThrough 19 = .ok (.invokevirtual 55, 3) := by decide +kernel
theorem dX2_whenThrough_22 : decode cX2_whenThrough 22 = .ok (.iload_n 2, 1) := by decide +kernel
theorem dX2_whenThrough_23 : decode cX2_whenThrough 23 = .ok (.invokevirtual 58, 3) := by decide +kernel
theorem dX2_whenThrough_26 : decode cX2_whenThrough 26 = .ok (.ireturn, 1) := by decide +kernel
set_option maxRecDepth 20000 in
theorem ggX2_whenAt_X3_waitingAt : GoodIn wsX2_whenAt wsX3_waitingAt := goodIn_r _ [5, 6, 7, 67, 68, 69, 70, 71, 72, 73, 74, 75] (by decide +kernel) (by decide +kernel)
set_option maxRecDepth 20000 in
theorem gX2_whenAt_X3_waitingAt : GoodIn wsX2_whenAt (wsV RX2 36 RX3 yX3_waitingAt wsX3_waitingAt) := goodIn_app (goodIn_of _ (by decide +kernel)) ggX2_whenAt_X3_waitingAt
set_option maxRecDepth 20000 in
theorem ggX2_whenAt_X2_lineOf : GoodIn wsX2_whenAt wsX2_lineOf := goodIn_r _ [12, 13, 14, 15, 16, 17, 18, 19, 20, 21, 22, 23, 24, 4, 25, 26, 27, 28, 29, 30, 31, 32, 33, 34, 35, 36, 37, 38, 39, 40, 41, 42, 43, 44, 45, 46, 47, 48, 49, 50, 51, 52, 53, 54, 55, 56, 57, 58, 76, 77, 78, 79, 67, 68, 69, 70, 71, 72, 73, 74, 75, 80, 81, 82, 83] (by decide +kernel) (by decide +kernel)
set_option maxRecDepth 20000 in
theorem gX2_whenAt_X2_lineOf : GoodIn wsX2_whenAt (wsV RX2 40 RX2 yX2_lineOf wsX2_lineOf) := goodIn_app (goodIn_of _ (by decide +kernel)) ggX2_whenAt_X2_lineOf
set_option maxRecDepth 20000 in
theorem ggX2_whenAt_X5_whenGone : GoodIn wsX2_whenAt wsX5_whenGone := goodIn_r _ [62, 45, 63, 64, 65, 32, 66, 46, 80, 81, 82, 83] (by decide +kernel) (by decide +kernel)
set_option maxRecDepth 20000 in
theorem gX2_whenAt_X5_whenGone : GoodIn wsX2_whenAt (wsV RX2 58 RX5 yX5_whenGone wsX5_whenGone) := goodIn_app (goodIn_of _ (by decide +kernel)) ggX2_whenAt_X5_whenGone
theorem dX2_whenAt_0 : decode cX2_whenAt 0 = .ok (.iload_n 3, 1) := by decide +kernel
theorem dX2_whenAt_1 : decode cX2_whenAt 1 = .ok (.ifCond .ge 7, 3) := by decide +kernel
theorem dX2_whenAt_4 : decode cX2_whenAt 4 = .ok (.iconst (-1), 1) := by decide +kernel
theorem dX2_whenAt_5 : decode cX2_whenAt 5 = .ok (.goto 21, 3) := by decide +kernel
theorem dX2_whenAt_8 : decode cX2_whenAt 8 = .ok (.aload_n 0, 1) := by decide +kernel
theorem dX2_whenAt_9 : decode cX2_whenAt 9 = .ok (.aload_n 1, 1) := by decide +kernel
theorem dX2_whenAt_10 : decode cX2_whenAt 10 = .ok (.aload_n 1, 1) := by decide +kernel
theorem dX2_whenAt_11 : decode cX2_whenAt 11 = .ok (.iload_n 3, 1) := by decide +kernel
theorem dX2_whenAt_12 : decode cX2_whenAt 12 = .ok (.invokevirtual 36, 3) := by decide +kernel
theorem dX2_whenAt_15 : decode cX2_whenAt 15 = .ok (.iconst 1, 1) := by decide +kernel
theorem dX2_whenAt_16 : decode cX2_whenAt 16 = .ok (.iload_n 2, 1) := by decide +kernel
theorem dX2_whenAt_17 : decode cX2_whenAt 17 = .ok (.ishl, 1) := by decide +kernel
theorem dX2_whenAt_18 : decode cX2_whenAt 18 = .ok (.ior, 1) := by decide +kernel
theorem dX2_whenAt_19 : decode cX2_whenAt 19 = .ok (.invokevirtual 40, 3) := by decide +kernel
theorem dX2_whenAt_22 : decode cX2_whenAt 22 = .ok (.iload_n 2, 1) := by decide +kernel
theorem dX2_whenAt_23 : decode cX2_whenAt 23 = .ok (.invokevirtual 58, 3) := by decide +kernel
theorem dX2_whenAt_26 : decode cX2_whenAt 26 = .ok (.ireturn, 1) := by decide +kernel
set_option maxRecDepth 20000 in
theorem ggX2_soonestDoor_X2_whenAt : GoodIn wsX2_soonestDoor wsX2_whenAt := goodIn_r _ [6, 7, 8, 9, 10, 11, 12, 13, 14, 15, 16, 5, 17, 18, 19, 20, 21, 22, 23, 24, 25, 26, 27, 28, 29, 30, 31, 32, 33, 34, 35, 36, 37, 38, 39, 40, 41, 42, 43, 44, 45, 46, 47, 48, 49, 50, 51, 52, 53, 54, 55, 56, 57, 58, 59, 60, 61, 62, 63, 64, 65, 66, 67, 68, 69, 70, 71, 72, 73, 74, 75, 76, 77, 78, 79, 80, 81, 82, 83, 84, 85, 86, 87, 88] (by decide +kernel) (by decide +kernel)
set_option maxRecDepth 20000 in
theorem gX2_soonestDoor_X2_whenAt : GoodIn wsX2_soonestDoor (wsV RX2 65 RX2 yX2_whenAt wsX2_whenAt) := goodIn_app (goodIn_of _ (by decide +kernel)) ggX2_soonestDoor_X2_whenAt
theorem dX2_soonestDoor_0 : decode cX2_soonestDoor 0 = .ok (.iconst (-1), 1) := by decide +kernel
theorem dX2_soonestDoor_1 : decode cX2_soonestDoor 1 = .ok (.istore_n 3, 1) := by decide +kernel
theorem dX2_soonestDoor_2 : decode cX2_soonestDoor 2 = .ok (.bipush 61, 2) := by decide +kernel
theorem dX2_soonestDoor_4 : decode cX2_soonestDoor 4 = .ok (.istore 4, 2) := by decide +kernel
theorem dX2_soonestDoor_6 : decode cX2_soonestDoor 6 = .ok (.iconst 0, 1) := by decide +kernel
theorem dX2_soonestDoor_7 : decode cX2_soonestDoor 7 = .ok (.istore 5, 2) := by decide +kernel
theorem dX2_soonestDoor_9 : decode cX2_soonestDoor 9 = .ok (.iload 5, 2) := by decide +kernel
theorem dX2_soonestDoor_11 : decode cX2_soonestDoor 11 = .ok (.aload_n 1, 1) := by decide +kernel
theorem dX2_soonestDoor_12 : decode cX2_soonestDoor 12 = .ok (.getfield 61, 3) := by decide +kernel
theorem dX2_soonestDoor_15 : decode cX2_soonestDoor 15 = .ok (.if_icmp .ge 38, 3) := by decide +kernel
theorem dX2_soonestDoor_18 : decode cX2_soonestDoor 18 = .ok (.aload_n 0, 1) := by decide +kernel
theorem dX2_soonestDoor_19 : decode cX2_soonestDoor 19 = .ok (.aload_n 1, 1) := by decide +kernel
theorem dX2_soonestDoor_20 : decode cX2_soonestDoor 20 = .ok (.iload_n 2, 1) := by decide +kernel
theorem dX2_soonestDoor_21 : decode cX2_soonestDoor 21 = .ok (.iload 5, 2) := by decide +kernel
theorem dX2_soonestDoor_23 : decode cX2_soonestDoor 23 = .ok (.invokevirtual 65, 3) := by decide +kernel
theorem dX2_soonestDoor_26 : decode cX2_soonestDoor 26 = .ok (.istore 6, 2) := by decide +kernel
theorem dX2_soonestDoor_28 : decode cX2_soonestDoor 28 = .ok (.iload 6, 2) := by decide +kernel
theorem dX2_soonestDoor_30 : decode cX2_soonestDoor 30 = .ok (.ifCond .lt 17, 3) := by decide +kernel
theorem dX2_soonestDoor_33 : decode cX2_soonestDoor 33 = .ok (.iload 6, 2) := by decide +kernel
theorem dX2_soonestDoor_35 : decode cX2_soonestDoor 35 = .ok (.iload 4, 2) := by decide +kernel
theorem dX2_soonestDoor_37 : decode cX2_soonestDoor 37 = .ok (.if_icmp .ge 10, 3) := by decide +kernel
theorem dX2_soonestDoor_40 : decode cX2_soonestDoor 40 = .ok (.iload 5, 2) := by decide +kernel
theorem dX2_soonestDoor_42 : decode cX2_soonestDoor 42 = .ok (.istore_n 3, 1) := by decide +kernel
theorem dX2_soonestDoor_43 : decode cX2_soonestDoor 43 = .ok (.iload 6, 2) := by decide +kernel
theorem dX2_soonestDoor_45 : decode cX2_soonestDoor 45 = .ok (.istore 4, 2) := by decide +kernel
theorem dX2_soonestDoor_47 : decode cX2_soonestDoor 47 = .ok (.iinc 5 1, 3) := by decide +kernel
theorem dX2_soonestDoor_50 : decode cX2_soonestDoor 50 = .ok (.goto (-41), 3) := by decide +kernel
theorem dX2_soonestDoor_53 : decode cX2_soonestDoor 53 = .ok (.iload_n 3, 1) := by decide +kernel
theorem dX2_soonestDoor_54 : decode cX2_soonestDoor 54 = .ok (.ireturn, 1) := by decide +kernel
set_option maxRecDepth 20000 in
theorem ggX2_leftWith_X3_waitingAt : GoodIn wsX2_leftWith wsX3_waitingAt := goodIn_r _ [6, 7, 8, 71, 72, 73, 74, 75, 76, 77, 78, 79] (by decide +kernel) (by decide +kernel)
set_option maxRecDepth 20000 in
theorem gX2_leftWith_X3_waitingAt : GoodIn wsX2_leftWith (wsV RX2 36 RX3 yX3_waitingAt wsX3_waitingAt) := goodIn_app (goodIn_of _ (by decide +kernel)) ggX2_leftWith_X3_waitingAt
set_option maxRecDepth 20000 in
theorem ggX2_leftWith_X2_lineOf : GoodIn wsX2_leftWith wsX2_lineOf := goodIn_r _ [13, 14, 15, 16, 17, 18, 19, 20, 21, 22, 23, 24, 25, 5, 26, 27, 28, 29, 30, 31, 32, 33, 34, 35, 36, 37, 38, 39, 40, 41, 42, 43, 44, 45, 46, 47, 48, 49, 50, 51, 52, 53, 54, 55, 56, 57, 58, 59, 80, 81, 82, 83, 71, 72, 73, 74, 75, 76, 77, 78, 79, 67, 68, 69, 70] (by decide +kernel) (by decide +kernel)
set_option maxRecDepth 20000 in
theorem gX2_leftWith_X2_lineOf : GoodIn wsX2_leftWith (wsV RX2 40 RX2 yX2_lineOf wsX2_lineOf) := goodIn_app (goodIn_of _ (by decide +kernel)) ggX2_leftWith_X2_lineOf
set_option maxRecDepth 20000 in
theorem ggX2_leftWith_J6_bitCount_0f7a4 : GoodIn wsX2_leftWith wsJ6_bitCount_0f7a4 := goodIn_r _ [63, 64, 65, 66] (by decide +kernel) (by decide +kernel)
set_option maxRecDepth 20000 in
theorem gX2_leftWith_J6_bitCount_0f7a4 : GoodIn wsX2_leftWith (va_wsS RX2 72 yJ6_bitCount_0f7a4 wsJ6_bitCount_0f7a4) := goodIn_app (goodIn_of _ (by decide +kernel)) ggX2_leftWith_J6_bitCount_0f7a4
theorem dX2_leftWith_0 : decode cX2_leftWith 0 = .ok (.iload_n 3, 1) := by decide +kernel
theorem dX2_leftWith_1 : decode cX2_leftWith 1 = .ok (.ifCond .ge 7, 3) := by decide +kernel
theorem dX2_leftWith_4 : decode cX2_leftWith 4 = .ok (.iconst (-1), 1) := by decide +kernel
theorem dX2_leftWith_5 : decode cX2_leftWith 5 = .ok (.goto 23, 3) := by decide +kernel
theorem dX2_leftWith_8 : decode cX2_leftWith 8 = .ok (.aload_n 0, 1) := by decide +kernel
theorem dX2_leftWith_9 : decode cX2_leftWith 9 = .ok (.aload_n 1, 1) := by decide +kernel
theorem dX2_leftWith_10 : decode cX2_leftWith 10 = .ok (.aload_n 1, 1) := by decide +kernel
theorem dX2_leftWith_11 : decode cX2_leftWith 11 = .ok (.iload_n 2, 1) := by decide +kernel
theorem dX2_leftWith_12 : decode cX2_leftWith 12 = .ok (.invokevirtual 36, 3) := by decide +kernel
theorem dX2_leftWith_15 : decode cX2_leftWith 15 = .ok (.iconst 1, 1) := by decide +kernel
theorem dX2_leftWith_16 : decode cX2_leftWith 16 = .ok (.iload_n 3, 1) := by decide +kernel
theorem dX2_leftWith_17 : decode cX2_leftWith 17 = .ok (.ishl, 1) := by decide +kernel
theorem dX2_leftWith_18 : decode cX2_leftWith 18 = .ok (.ior, 1) := by decide +kernel
theorem dX2_leftWith_19 : decode cX2_leftWith 19 = .ok (.invokevirtual 40, 3) := by decide +kernel
theorem dX2_leftWith_22 : decode cX2_leftWith 22 = .ok (.getfield 69, 3) := by decide +kernel
theorem dX2_leftWith_25 : decode cX2_leftWith 25 = .ok (.invokestatic 72, 3) := by decide +kernel
theorem dX2_leftWith_28 : decode cX2_leftWith 28 = .ok (.ireturn, 1) := by decide +kernel
set_option maxRecDepth 20000 in
theorem ggX2_bestThird_X2_leftWith : GoodIn wsX2_bestThird wsX2_leftWith := goodIn_r _ [7, 8, 9, 10, 11, 12, 13, 14, 15, 16, 17, 18, 6, 19, 20, 21, 22, 23, 24, 25, 26, 27, 28, 29, 30, 31, 32, 33, 34, 35, 36, 37, 38, 39, 40, 41, 42, 43, 44, 45, 46, 47, 48, 49, 50, 51, 52, 53, 54, 55, 56, 57, 58, 59, 60, 61, 62, 63, 64, 65, 66, 67, 68, 69, 70, 71, 72, 82, 83, 84, 85, 73, 74, 75, 76, 77, 78, 79, 80, 81, 86, 87, 88, 89] (by decide +kernel) (by decide +kernel)
set_option maxRecDepth 20000 in
theorem gX2_bestThird_X2_leftWith : GoodIn wsX2_bestThird (wsV RX2 80 RX2 yX2_leftWith wsX2_leftWith) := goodIn_app (goodIn_of _ (by decide +kernel)) ggX2_bestThird_X2_leftWith
theorem dX2_bestThird_0 : decode cX2_bestThird 0 = .ok (.iconst (-1), 1) := by decide +kernel
theorem dX2_bestThird_1 : decode cX2_bestThird 1 = .ok (.istore_n 3, 1) := by decide +kernel
theorem dX2_bestThird_2 : decode cX2_bestThird 2 = .ok (.bipush 8, 2) := by decide +kernel
theorem dX2_bestThird_4 : decode cX2_bestThird 4 = .ok (.istore 4, 2) := by decide +kernel
theorem dX2_bestThird_6 : decode cX2_bestThird 6 = .ok (.iconst 0, 1) := by decide +kernel
theorem dX2_bestThird_7 : decode cX2_bestThird 7 = .ok (.istore 5, 2) := by decide +kernel
theorem dX2_bestThird_9 : decode cX2_bestThird 9 = .ok (.iload 5, 2) := by decide +kernel
theorem dX2_bestThird_11 : decode cX2_bestThird 11 = .ok (.aload_n 1, 1) := by decide +kernel
theorem dX2_bestThird_12 : decode cX2_bestThird 12 = .ok (.getfield 77, 3) := by decide +kernel
theorem dX2_bestThird_15 : decode cX2_bestThird 15 = .ok (.if_icmp .ge 44, 3) := by decide +kernel
theorem dX2_bestThird_18 : decode cX2_bestThird 18 = .ok (.aload_n 1, 1) := by decide +kernel
theorem dX2_bestThird_19 : decode cX2_bestThird 19 = .ok (.getfield 51, 3) := by decide +kernel
theorem dX2_bestThird_22 : decode cX2_bestThird 22 = .ok (.iload 5, 2) := by decide +kernel
theorem dX2_bestThird_24 : decode cX2_bestThird 24 = .ok (.iaload, 1) := by decide +kernel
theorem dX2_bestThird_25 : decode cX2_bestThird 25 = .ok (.iload_n 2, 1) := by decide +kernel
theorem dX2_bestThird_26 : decode cX2_bestThird 26 = .ok (.if_icmp .eq 27, 3) := by decide +kernel
theorem dX2_bestThird_29 : decode cX2_bestThird 29 = .ok (.aload_n 0, 1) := by decide +kernel
theorem dX2_bestThird_30 : decode cX2_bestThird 30 = .ok (.aload_n 1, 1) := by decide +kernel
theorem dX2_bestThird_31 : decode cX2_bestThird 31 = .ok (.iload_n 2, 1) := by decide +kernel
theorem dX2_bestThird_32 : decode cX2_bestThird 32 = .ok (.iload 5, 2) := by decide +kernel
theorem dX2_bestThird_34 : decode cX2_bestThird 34 = .ok (.invokevirtual 80, 3) := by decide +kernel
theorem dX2_bestThird_37 : decode cX2_bestThird 37 = .ok (.istore 6, 2) := by decide +kernel
theorem dX2_bestThird_39 : decode cX2_bestThird 39 = .ok (.iload 6, 2) := by decide +kernel
theorem dX2_bestThird_41 : decode cX2_bestThird 41 = .ok (.iload 4, 2) := by decide +kernel
theorem dX2_bestThird_43 : decode cX2_bestThird 43 = .ok (.if_icmp .ge 10, 3) := by decide +kernel
theorem dX2_bestThird_46 : decode cX2_bestThird 46 = .ok (.iload 5, 2) := by decide +kernel
theorem dX2_bestThird_48 : decode cX2_bestThird 48 = .ok (.istore_n 3, 1) := by decide +kernel
theorem dX2_bestThird_49 : decode cX2_bestThird 49 = .ok (.iload 6, 2) := by decide +kernel
theorem dX2_bestThird_51 : decode cX2_bestThird 51 = .ok (.istore 4, 2) := by decide +kernel
theorem dX2_bestThird_53 : decode cX2_bestThird 53 = .ok (.iinc 5 1, 3) := by decide +kernel
theorem dX2_bestThird_56 : decode cX2_bestThird 56 = .ok (.goto (-47), 3) := by decide +kernel
theorem dX2_bestThird_59 : decode cX2_bestThird 59 = .ok (.iload_n 3, 1) := by decide +kernel
theorem dX2_bestThird_60 : decode cX2_bestThird 60 = .ok (.ireturn, 1) := by decide +kernel
set_option maxRecDepth 20000 in
theorem ggX2_leastRing_X4_read : GoodIn wsX2_leastRing wsX4_read := goodIn_r _ [6, 7, 8, 9, 10, 11, 12, 13, 14, 15, 16, 46, 47, 48, 49, 50, 51, 52, 53, 54, 55] (by decide +kernel) (by decide +kernel)
set_option maxRecDepth 20000 in
theorem gX2_leastRing_X4_read : GoodIn wsX2_leastRing (wsV RX2 32 RX4 yX4_read wsX4_read) := goodIn_app (goodIn_of _ (by decide +kernel)) ggX2_leastRing_X4_read
set_option maxRecDepth 20000 in
theorem ggX2_leastRing_X3_waitingAt : GoodIn wsX2_leastRing wsX3_waitingAt := goodIn_r _ [20, 21, 22, 47, 48, 49, 50, 51, 52, 53, 54, 55] (by decide +kernel) (by decide +kernel)
set_option maxRecDepth 20000 in
theorem gX2_leastRing_X3_waitingAt : GoodIn wsX2_leastRing (wsV RX2 36 RX3 yX3_waitingAt wsX3_waitingAt) := goodIn_app (goodIn_of _ (by decide +kernel)) ggX2_leastRing_X3_waitingAt
set_option maxRecDepth 20000 in
theorem ggX2_leastRing_X3_nobodies : GoodIn wsX2_leastRing wsX3_nobodies := goodIn_r _ [26, 21, 27, 47, 48, 49, 50, 51, 52, 53, 54, 55] (by decide +kernel) (by decide +kernel)
set_option maxRecDepth 20000 in
theorem gX2_leastRing_X3_nobodies : GoodIn wsX2_leastRing (wsV RX2 83 RX3 yX3_nobodies wsX3_nobodies) := goodIn_app (goodIn_of _ (by decide +kernel)) ggX2_leastRing_X3_nobodies
set_option maxRecDepth 20000 in
theorem ggX2_leastRing_X2_isSmaller : GoodIn wsX2_leastRing wsX2_isSmaller := goodIn_r _ [31, 32, 33, 34, 35, 36, 37, 38] (by decide +kernel) (by decide +kernel)
set_option maxRecDepth 20000 in
theorem gX2_leastRing_X2_isSmaller : GoodIn wsX2_leastRing (va_wsS RX2 87 yX2_isSmaller wsX2_isSmaller) := goodIn_app (goodIn_of _ (by decide +kernel)) ggX2_leastRing_X2_isSmaller
set_option maxRecDepth 20000 in
theorem ggX2_leastRing_X4_holdsFast : GoodIn wsX2_leastRing wsX4_holdsFast := goodIn_r _ [42, 7, 46] (by decide +kernel) (by decide +kernel)
set_option maxRecDepth 20000 in
theorem gX2_leastRing_X4_holdsFast : GoodIn wsX2_leastRing (wsV RX2 91 RX4 yX4_holdsFast wsX4_holdsFast) := goodIn_app (goodIn_of _ (by decide +kernel)) ggX2_leastRing_X4_holdsFast
theorem dX2_leastRing_0 : decode cX2_leastRing 0 = .ok (.aload_n 0, 1) := by decide +kernel
theorem dX2_leastRing_1 : decode cX2_leastRing 1 = .ok (.getfield 21, 3) := by decide +kernel
theorem dX2_leastRing_4 : decode cX2_leastRing 4 = .ok (.aload_n 1, 1) := by decide +kernel
theorem dX2_leastRing_5 : decode cX2_leastRing 5 = .ok (.invokevirtual 32, 3) := by decide +kernel
theorem dX2_leastRing_8 : decode cX2_leastRing 8 = .ok (.aload_n 1, 1) := by decide +kernel
theorem dX2_leastRing_9 : decode cX2_leastRing 9 = .ok (.iload_n 2, 1) := by decide +kernel
theorem dX2_leastRing_10 : decode cX2_leastRing 10 = .ok (.invokevirtual 36, 3) := by decide +kernel
theorem dX2_leastRing_13 : decode cX2_leastRing 13 = .ok (.aload_n 1, 1) := by decide +kernel
theorem dX2_leastRing_14 : decode cX2_leastRing 14 = .ok (.invokevirtual 83, 3) := by decide +kernel
theorem dX2_leastRing_17 : decode cX2_leastRing 17 = .ok (.iconst (-1), 1) := by decide +kernel
theorem dX2_leastRing_18 : decode cX2_leastRing 18 = .ok (.ixor, 1) := by decide +kernel
theorem dX2_leastRing_19 : decode cX2_leastRing 19 = .ok (.iand, 1) := by decide +kernel
theorem dX2_leastRing_20 : decode cX2_leastRing 20 = .ok (.istore_n 3, 1) := by decide +kernel
theorem dX2_leastRing_21 : decode cX2_leastRing 21 = .ok (.iconst (-1), 1) := by decide +kernel
theorem dX2_leastRing_22 : decode cX2_leastRing 22 = .ok (.istore 4, 2) := by decide +kernel
theorem dX2_leastRing_24 : decode cX2_leastRing 24 = .ok (.iconst 1, 1) := by decide +kernel
theorem dX2_leastRing_25 : decode cX2_leastRing 25 = .ok (.istore 5, 2) := by decide +kernel
theorem dX2_leastRing_27 : decode cX2_leastRing 27 = .ok (.iload 5, 2) := by decide +kernel
theorem dX2_leastRing_29 : decode cX2_leastRing 29 = .ok (.sipush 128, 3) := by decide +kernel
theorem dX2_leastRing_32 : decode cX2_leastRing 32 = .ok (.if_icmp .ge 44, 3) := by decide +kernel
theorem dX2_leastRing_35 : decode cX2_leastRing 35 = .ok (.iload 5, 2) := by decide +kernel
theorem dX2_leastRing_37 : decode cX2_leastRing 37 = .ok (.iload_n 3, 1) := by decide +kernel
theorem dX2_leastRing_38 : decode cX2_leastRing 38 = .ok (.iconst (-1), 1) := by decide +kernel
theorem dX2_leastRing_39 : decode cX2_leastRing 39 = .ok (.ixor, 1) := by decide +kernel
theorem dX2_leastRing_40 : decode cX2_leastRing 40 = .ok (.iand, 1) := by decide +kernel
theorem dX2_leastRing_41 : decode cX2_leastRing 41 = .ok (.ifCond .ne 29, 3) := by decide +kernel
theorem dX2_leastRing_44 : decode cX2_leastRing 44 = .ok (.iload 5, 2) := by decide +kernel
theorem dX2_leastRing_46 : decode cX2_leastRing 46 = .ok (.iload 4, 2) := by decide +kernel
theorem dX2_leastRing_48 : decode cX2_leastRing 48 = .ok (.invokestatic 87, 3) := by decide +kernel
theorem dX2_leastRing_51 : decode cX2_leastRing 51 = .ok (.ifCond .eq 19, 3) := by decide +kernel
theorem dX2_leastRing_54 : decode cX2_leastRing 54 = .ok (.aload_n 0, 1) := by decide +kernel
theorem dX2_leastRing_55 : decode cX2_leastRing 55 = .ok (.getfield 21, 3) := by decide +kernel
theorem dX2_leastRing_58 : decode cX2_leastRing 58 = .ok (.iload 5, 2) := by decide +kernel
theorem dX2_leastRing_60 : decode cX2_leastRing 60 = .ok (.invokevirtual 91, 3) := by decide +kernel
theorem dX2_leastRing_63 : decode cX2_leastRing 63 = .ok (.ifCond .eq 7, 3) := by decide +kernel
theorem dX2_leastRing_66 : decode cX2_leastRing 66 = .ok (.iload 5, 2) := by decide +kernel
theorem dX2_leastRing_68 : decode cX2_leastRing 68 = .ok (.istore 4, 2) := by decide +kernel
theorem dX2_leastRing_70 : decode cX2_leastRing 70 = .ok (.iinc 5 1, 3) := by decide +kernel
theorem dX2_leastRing_73 : decode cX2_leastRing 73 = .ok (.goto (-46), 3) := by decide +kernel
theorem dX2_leastRing_76 : decode cX2_leastRing 76 = .ok (.iload 4, 2) := by decide +kernel
theorem dX2_leastRing_78 : decode cX2_leastRing 78 = .ok (.ireturn, 1) := by decide +kernel
set_option maxRecDepth 20000 in
theorem ggX2_fewestBows_X4_read : GoodIn wsX2_fewestBows wsX4_read := goodIn_r _ [6, 7, 8, 9, 10, 11, 12, 13, 14, 15, 16, 76, 77, 78, 79, 80, 81, 82, 83, 84, 85] (by decide +kernel) (by decide +kernel)
set_option maxRecDepth 20000 in
theorem gX2_fewestBows_X4_read : GoodIn wsX2_fewestBows (wsV RX2 32 RX4 yX4_read wsX4_read) := goodIn_app (goodIn_of _ (by decide +kernel)) ggX2_fewestBows_X4_read
set_option maxRecDepth 20000 in
theorem ggX2_fewestBows_X3_waitingAt : GoodIn wsX2_fewestBows wsX3_waitingAt := goodIn_r _ [20, 21, 22, 77, 78, 79, 80, 81, 82, 83, 84, 85] (by decide +kernel) (by decide +kernel)
set_option maxRecDepth 20000 in
theorem gX2_fewestBows_X3_waitingAt : GoodIn wsX2_fewestBows (wsV RX2 36 RX3 yX3_waitingAt wsX3_waitingAt) := goodIn_app (goodIn_of _ (by decide +kernel)) ggX2_fewestBows_X3_waitingAt
set_option maxRecDepth 20000 in
theorem ggX2_fewestBows_X2_isSmaller : GoodIn wsX2_fewestBows wsX2_isSmaller := goodIn_r _ [26, 27, 28, 29, 30, 31, 32, 33] (by decide +kernel) (by decide +kernel)
set_option maxRecDepth 20000 in
theorem gX2_fewestBows_X2_isSmaller : GoodIn wsX2_fewestBows (va_wsS RX2 87 yX2_isSmaller wsX2_isSmaller) := goodIn_app (goodIn_of _ (by decide +kernel)) ggX2_fewestBows_X2_isSmaller
set_option maxRecDepth 20000 in
theorem ggX2_fewestBows_X2_clearsIfBow : GoodIn wsX2_fewestBows wsX2_clearsIfBow := goodIn_r _ [37, 38, 39, 40, 41, 1, 42, 43, 44, 45, 46, 47, 48, 49, 50, 51, 52, 53, 54, 55, 56, 57, 58, 59, 60, 61, 62, 63, 64, 65, 66, 67, 5, 68, 69, 70, 71, 72, 7, 73, 74, 75, 77, 78, 79, 80, 81, 82, 83, 84, 85, 86, 87, 88, 89, 76] (by decide +kernel) (by decide +kernel)
set_option maxRecDepth 20000 in
theorem gX2_fewestBows_X2_clearsIfBow : GoodIn wsX2_fewestBows (wsV RX2 95 RX2 yX2_clearsIfBow wsX2_clearsIfBow) := goodIn_app (goodIn_of _ (by decide +kernel)) ggX2_fewestBows_X2_clearsIfBow
theorem dX2_fewestBows_0 : decode cX2_fewestBows 0 = .ok (.aload_n 0, 1) := by decide +kernel
theorem dX2_fewestBows_1 : decode cX2_fewestBows 1 = .ok (.getfield 21, 3) := by decide +kernel
theorem dX2_fewestBows_4 : decode cX2_fewestBows 4 = .ok (.aload_n 1, 1) := by decide +kernel
theorem dX2_fewestBows_5 : decode cX2_fewestBows 5 = .ok (.invokevirtual 32, 3) := by decide +kernel
theorem dX2_fewestBows_8 : decode cX2_fewestBows 8 = .ok (.aload_n 1, 1) := by decide +kernel
theorem dX2_fewestBows_9 : decode cX2_fewestBows 9 = .ok (.iload_n 2, 1) := by decide +kernel
theorem dX2_fewestBows_10 : decode cX2_fewestBows 10 = .ok (.invokevirtual 36, 3) := by decide +kernel
theorem dX2_fewestBows_13 : decode cX2_fewestBows 13 = .ok (.istore_n 3, 1) := by decide +kernel
theorem dX2_fewestBows_14 : decode cX2_fewestBows 14 = .ok (.iconst (-1), 1) := by decide +kernel
theorem dX2_fewestBows_15 : decode cX2_fewestBows 15 = .ok (.istore 4, 2) := by decide +kernel
theorem dX2_fewestBows_17 : decode cX2_fewestBows 17 = .ok (.iconst 0, 1) := by decide +kernel
theorem dX2_fewestBows_18 : decode cX2_fewestBows 18 = .ok (.istore 5, 2) := by decide +kernel
theorem dX2_fewestBows_20 : decode cX2_fewestBows 20 = .ok (.iload 5, 2) := by decide +kernel
theorem dX2_fewestBows_22 : decode cX2_fewestBows 22 = .ok (.sipush 128, 3) := by decide +kernel
theorem dX2_fewestBows_25 : decode cX2_fewestBows 25 = .ok (.if_icmp .ge 43, 3) := by decide +kernel
theorem dX2_fewestBows_28 : decode cX2_fewestBows 28 = .ok (.iload 5, 2) := by decide +kernel
theorem dX2_fewestBows_30 : decode cX2_fewestBows 30 = .ok (.iload_n 3, 1) := by decide +kernel
theorem dX2_fewestBows_31 : decode cX2_fewestBows 31 = .ok (.iconst (-1), 1) := by decide +kernel
theorem dX2_fewestBows_32 : decode cX2_fewestBows 32 = .ok (.ixor, 1) := by decide +kernel
theorem dX2_fewestBows_33 : decode cX2_fewestBows 33 = .ok (.iand, 1) := by decide +kernel
theorem dX2_fewestBows_34 : decode cX2_fewestBows 34 = .ok (.ifCond .ne 28, 3) := by decide +kernel
theorem dX2_fewestBows_37 : decode cX2_fewestBows 37 = .ok (.iload 5, 2) := by decide +kernel
theorem dX2_fewestBows_39 : decode cX2_fewestBows 39 = .ok (.iload 4, 2) := by decide +kernel
theorem dX2_fewestBows_41 : decode cX2_fewestBows 41 = .ok (.invokestatic 87, 3) := by decide +kernel
theorem dX2_fewestBows_44 : decode cX2_fewestBows 44 = .ok (.ifCond .eq 18, 3) := by decide +kernel
theorem dX2_fewestBows_47 : decode cX2_fewestBows 47 = .ok (.aload_n 0, 1) := by decide +kernel
theorem dX2_fewestBows_48 : decode cX2_fewestBows 48 = .ok (.aload_n 1, 1) := by decide +kernel
theorem dX2_fewestBows_49 : decode cX2_fewestBows 49 = .ok (.iload_n 3, 1) := by decide +kernel
theorem dX2_fewestBows_50 : decode cX2_fewestBows 50 = .ok (.iload 5, 2) := by decide +kernel
theorem dX2_fewestBows_52 : decode cX2_fewestBows 52 = .ok (.invokevirtual 95, 3) := by decide +kernel
theorem dX2_fewestBows_55 : decode cX2_fewestBows 55 = .ok (.ifCond .eq 7, 3) := by decide +kernel
theorem dX2_fewestBows_58 : decode cX2_fewestBows 58 = .ok (.iload 5, 2) := by decide +kernel
theorem dX2_fewestBows_60 : decode cX2_fewestBows 60 = .ok (.istore 4, 2) := by decide +kernel
theorem dX2_fewestBows_62 : decode cX2_fewestBows 62 = .ok (.iinc 5 1, 3) := by decide +kernel
theorem dX2_fewestBows_65 : decode cX2_fewestBows 65 = .ok (.goto (-45), 3) := by decide +kernel
theorem dX2_fewestBows_68 : decode cX2_fewestBows 68 = .ok (.iload 4, 2) := by decide +kernel
theorem dX2_fewestBows_70 : decode cX2_fewestBows 70 = .ok (.ireturn, 1) := by decide +kernel
set_option maxRecDepth 20000 in
theorem ggX2_isSmaller_J6_bitCount_0f7a4 : GoodIn wsX2_isSmaller wsJ6_bitCount_0f7a4 := goodIn_r _ [4, 5, 6, 7] (by decide +kernel) (by decide +kernel)
set_option maxRecDepth 20000 in
theorem gX2_isSmaller_J6_bitCount_0f7a4 : GoodIn wsX2_isSmaller (va_wsS RX2 72 yJ6_bitCount_0f7a4 wsJ6_bitCount_0f7a4) := goodIn_app (goodIn_of _ (by decide +kernel)) ggX2_isSmaller_J6_bitCount_0f7a4
theorem dX2_isSmaller_0 : decode cX2_isSmaller 0 = .ok (.iload_n 1, 1) := by decide +kernel
theorem dX2_isSmaller_1 : decode cX2_isSmaller 1 = .ok (.ifCond .lt 14, 3) := by decide +kernel
theorem dX2_isSmaller_4 : decode cX2_isSmaller 4 = .ok (.iload_n 0, 1) := by decide +kernel
theorem dX2_isSmaller_5 : decode cX2_isSmaller 5 = .ok (.invokestatic 72, 3) := by decide +kernel
theorem dX2_isSmaller_8 : decode cX2_isSmaller 8 = .ok (.iload_n 1, 1) := by decide +kernel
theorem dX2_isSmaller_9 : decode cX2_isSmaller 9 = .ok (.invokestatic 72, 3) := by decide +kernel
theorem dX2_isSmaller_12 : decode cX2_isSmaller 12 = .ok (.if_icmp .ge 7, 3) := by decide +kernel
theorem dX2_isSmaller_15 : decode cX2_isSmaller 15 = .ok (.iconst 1, 1) := by decide +kernel
theorem dX2_isSmaller_16 : decode cX2_isSmaller 16 = .ok (.goto 4, 3) := by decide +kernel
theorem dX2_isSmaller_19 : decode cX2_isSmaller 19 = .ok (.iconst 0, 1) := by decide +kernel
theorem dX2_isSmaller_20 : decode cX2_isSmaller 20 = .ok (.ireturn, 1) := by decide +kernel
set_option maxRecDepth 20000 in
theorem ggX2_clearsIfBow_X5_readNobodies : GoodIn wsX2_clearsIfBow wsX5_readNobodies := goodIn_r _ [11, 12, 13, 14, 15, 16, 17, 42, 43, 44, 45, 46, 47, 48, 49, 50, 51, 52, 53, 54] (by decide +kernel) (by decide +kernel)
set_option maxRecDepth 20000 in
theorem gX2_clearsIfBow_X5_readNobodies : GoodIn wsX2_clearsIfBow (wsV RX2 44 RX5 yX5_readNobodies wsX5_readNobodies) := goodIn_app (goodIn_of _ (by decide +kernel)) ggX2_clearsIfBow_X5_readNobodies
set_option maxRecDepth 20000 in
theorem ggX2_clearsIfBow_X5_foretell : GoodIn wsX2_clearsIfBow wsX5_foretell := goodIn_r _ [21, 22, 23, 24, 25, 26, 27, 10, 28, 13, 29, 30, 31, 32, 33, 34, 35, 36, 37, 38, 51, 52, 53, 54, 55] (by decide +kernel) (by decide +kernel)
set_option maxRecDepth 20000 in
theorem gX2_clearsIfBow_X5_foretell : GoodIn wsX2_clearsIfBow (wsV RX2 47 RX5 yX5_foretell wsX5_foretell) := goodIn_app (goodIn_of _ (by decide +kernel)) ggX2_clearsIfBow_X5_foretell
theorem dX2_clearsIfBow_0 : decode cX2_clearsIfBow 0 = .ok (.aload_n 0, 1) := by decide +kernel
theorem dX2_clearsIfBow_1 : decode cX2_clearsIfBow 1 = .ok (.getfield 28, 3) := by decide +kernel
theorem dX2_clearsIfBow_4 : decode cX2_clearsIfBow 4 = .ok (.aload_n 1, 1) := by decide +kernel
theorem dX2_clearsIfBow_5 : decode cX2_clearsIfBow 5 = .ok (.invokevirtual 44, 3) := by decide +kernel
theorem dX2_clearsIfBow_8 : decode cX2_clearsIfBow 8 = .ok (.iconst 0, 1) := by decide +kernel
theorem dX2_clearsIfBow_9 : decode cX2_clearsIfBow 9 = .ok (.istore 4, 2) := by decide +kernel
theorem dX2_clearsIfBow_11 : decode cX2_clearsIfBow 11 = .ok (.iload 4, 2) := by decide +kernel
theorem dX2_clearsIfBow_13 : decode cX2_clearsIfBow 13 = .ok (.aload_n 1, 1) := by decide +kernel
theorem dX2_clearsIfBow_14 : decode cX2_clearsIfBow 14 = .ok (.getfield 77, 3) := by decide +kernel
theorem dX2_clearsIfBow_17 : decode cX2_clearsIfBow 17 = .ok (.if_icmp .ge 32, 3) := by decide +kernel
theorem dX2_clearsIfBow_20 : decode cX2_clearsIfBow 20 = .ok (.iload_n 3, 1) := by decide +kernel
theorem dX2_clearsIfBow_21 : decode cX2_clearsIfBow 21 = .ok (.iload 4, 2) := by decide +kernel
theorem dX2_clearsIfBow_23 : decode cX2_clearsIfBow 23 = .ok (.ishr, 1) := by decide +kernel
theorem dX2_clearsIfBow_24 : decode cX2_clearsIfBow 24 = .ok (.iconst 1, 1) := by decide +kernel
theorem dX2_clearsIfBow_25 : decode cX2_clearsIfBow 25 = .ok (.iand, 1) := by decide +kernel
theorem dX2_clearsIfBow_26 : decode cX2_clearsIfBow 26 = .ok (.ifCond .eq 17, 3) := by decide +kernel
theorem dX2_clearsIfBow_29 : decode cX2_clearsIfBow 29 = .ok (.aload_n 0, 1) := by decide +kernel
theorem dX2_clearsIfBow_30 : decode cX2_clearsIfBow 30 = .ok (.getfield 28, 3) := by decide +kernel
theorem dX2_clearsIfBow_33 : decode cX2_clearsIfBow 33 = .ok (.getfield 99, 3) := by decide +kernel
theorem dX2_clearsIfBow_36 : decode cX2_clearsIfBow 36 = .ok (.iload 4, 2) := by decide +kernel
theorem dX2_clearsIfBow_38 : decode cX2_clearsIfBow 38 = .ok (.aload_n 1, 1) := by decide +kernel
theorem dX2_clearsIfBow_39 : decode cX2_clearsIfBow 39 = .ok (.getfield 102, 3) := by decide +kernel
theorem dX2_clearsIfBow_42 : decode cX2_clearsIfBow 42 = .ok (.iastore, 1) := by decide +kernel
theorem dX2_clearsIfBow_43 : decode cX2_clearsIfBow 43 = .ok (.iinc 4 1, 3) := by decide +kernel
theorem dX2_clearsIfBow_46 : decode cX2_clearsIfBow 46 = .ok (.goto (-35), 3) := by decide +kernel
theorem dX2_clearsIfBow_49 : decode cX2_clearsIfBow 49 = .ok (.aload_n 0, 1) := by decide +kernel
theorem dX2_clearsIfBow_50 : decode cX2_clearsIfBow 50 = .ok (.getfield 28, 3) := by decide +kernel
theorem dX2_clearsIfBow_53 : decode cX2_clearsIfBow 53 = .ok (.aload_n 0, 1) := by decide +kernel
theorem dX2_clearsIfBow_54 : decode cX2_clearsIfBow 54 = .ok (.getfield 21, 3) := by decide +kernel
theorem dX2_clearsIfBow_57 : decode cX2_clearsIfBow 57 = .ok (.iload_n 2, 1) := by decide +kernel
theorem dX2_clearsIfBow_58 : decode cX2_clearsIfBow 58 = .ok (.invokevirtual 47, 3) := by decide +kernel
theorem dX2_clearsIfBow_61 : decode cX2_clearsIfBow 61 = .ok (.aload_n 0, 1) := by decide +kernel
theorem dX2_clearsIfBow_62 : decode cX2_clearsIfBow 62 = .ok (.getfield 28, 3) := by decide +kernel
theorem dX2_clearsIfBow_65 : decode cX2_clearsIfBow 65 = .ok (.getfield 69, 3) := by decide +kernel
theorem dX2_clearsIfBow_68 : decode cX2_clearsIfBow 68 = .ok (.ifCond .ne 7, 3) := by decide +kernel
theorem dX2_clearsIfBow_71 : decode cX2_clearsIfBow 71 = .ok (.iconst 1, 1) := by decide +kernel
theorem dX2_clearsIfBow_72 : decode cX2_clearsIfBow 72 = .ok (.goto 4, 3) := by decide +kernel
theorem dX2_clearsIfBow_75 : decode cX2_clearsIfBow 75 = .ok (.iconst 0, 1) := by decide +kernel
theorem dX2_clearsIfBow_76 : decode cX2_clearsIfBow 76 = .ok (.ireturn, 1) := by decide +kernel
set_option maxRecDepth 20000 in
theorem ggX2_leastRaise_X2_lineAt : GoodIn wsX2_leastRaise wsX2_lineAt := goodIn_r _ [9, 10, 11, 12, 13, 14, 15, 16, 17, 18, 19, 8, 20, 21, 22, 23, 24, 25, 26, 27, 28, 29, 30, 31, 32, 33, 34, 35, 36, 37, 38, 39, 40, 41, 42, 43, 44, 45, 46, 47, 48, 49, 50, 51, 52, 53, 54, 55, 56, 57, 58, 59, 60, 61, 62, 63, 64, 65, 66, 92, 93, 94, 95, 96, 97, 98, 99, 100, 89, 90, 91, 101, 85, 86, 87, 88] (by decide +kernel) (by decide +kernel)
set_option maxRecDepth 20000 in
theorem gX2_leastRaise_X2_lineAt : GoodIn wsX2_leastRaise (wsV RX2 55 RX2 yX2_lineAt wsX2_lineAt) := goodIn_app (goodIn_of _ (by decide +kernel)) ggX2_leastRaise_X2_lineAt
set_option maxRecDepth 20000 in
theorem ggX2_leastRaise_X3_become : GoodIn wsX2_leastRaise wsX3_become := goodIn_r _ [70, 71, 72, 15, 73, 34, 74, 45, 46, 47, 35, 36, 16, 75, 92, 93, 94, 95, 96, 97, 98, 99, 100] (by decide +kernel) (by decide +kernel)
set_option maxRecDepth 20000 in
theorem gX2_leastRaise_X3_become : GoodIn wsX2_leastRaise (wsV RX2 105 RX3 yX3_become wsX3_become) := goodIn_app (goodIn_of _ (by decide +kernel)) ggX2_leastRaise_X3_become
set_option maxRecDepth 20000 in
theorem ggX2_leastRaise_X2_leastRaiseOf : GoodIn wsX2_leastRaise wsX2_leastRaiseOf := goodIn_r _ [79, 80, 81, 82, 83, 84, 2, 1, 10, 11, 12, 13, 14, 15, 16, 17, 18, 19, 8, 20, 21, 22, 23, 24, 25, 26, 27, 28, 29, 30, 31, 32, 33, 34, 35, 36, 37, 38, 39, 40, 41, 42, 43, 44, 45, 46, 47, 48, 49, 50, 51, 52, 53, 54, 55, 56, 57, 58, 59, 60, 61, 62, 63, 64, 65, 66, 92, 93, 94, 95, 96, 97, 98, 99, 100, 89, 90, 91, 85, 86, 87, 88, 101] (by decide +kernel) (by decide +kernel)
set_option maxRecDepth 20000 in
theorem gX2_leastRaise_X2_leastRaiseOf : GoodIn wsX2_leastRaise (wsV RX2 108 RX2 yX2_leastRaiseOf wsX2_leastRaiseOf) := goodIn_app (goodIn_of _ (by decide +kernel)) ggX2_leastRaise_X2_leastRaiseOf
theorem dX2_leastRaise_0 : decode cX2_leastRaise 0 = .ok (.aload_n 0, 1) := by decide +kernel
theorem dX2_leastRaise_1 : decode cX2_leastRaise 1 = .ok (.aload_n 1, 1) := by decide +kernel
theorem dX2_leastRaise_2 : decode cX2_leastRaise 2 = .ok (.iload_n 2, 1) := by decide +kernel
theorem dX2_leastRaise_3 : decode cX2_leastRaise 3 = .ok (.invokevirtual 55, 3) := by decide +kernel
theorem dX2_leastRaise_6 : decode cX2_leastRaise 6 = .ok (.getfield 69, 3) := by decide +kernel
theorem dX2_leastRaise_9 : decode cX2_leastRaise 9 = .ok (.ifCond .ne 5, 3) := by decide +kernel
theorem dX2_leastRaise_12 : decode cX2_leastRaise 12 = .ok (.iconst 0, 1) := by decide +kernel
theorem dX2_leastRaise_13 : decode cX2_leastRaise 13 = .ok (.ireturn, 1) := by decide +kernel
theorem dX2_leastRaise_14 : decode cX2_leastRaise 14 = .ok (.iconst (-1), 1) := by decide +kernel
theorem dX2_leastRaise_15 : decode cX2_leastRaise 15 = .ok (.istore_n 3, 1) := by decide +kernel
theorem dX2_leastRaise_16 : decode cX2_leastRaise 16 = .ok (.aload_n 0, 1) := by decide +kernel
theorem dX2_leastRaise_17 : decode cX2_leastRaise 17 = .ok (.getfield 12, 3) := by decide +kernel
theorem dX2_leastRaise_20 : decode cX2_leastRaise 20 = .ok (.aload_n 1, 1) := by decide +kernel
theorem dX2_leastRaise_21 : decode cX2_leastRaise 21 = .ok (.invokevirtual 105, 3) := by decide +kernel
theorem dX2_leastRaise_24 : decode cX2_leastRaise 24 = .ok (.iconst 0, 1) := by decide +kernel
theorem dX2_leastRaise_25 : decode cX2_leastRaise 25 = .ok (.istore 4, 2) := by decide +kernel
theorem dX2_leastRaise_27 : decode cX2_leastRaise 27 = .ok (.iload 4, 2) := by decide +kernel
theorem dX2_leastRaise_29 : decode cX2_leastRaise 29 = .ok (.aload_n 1, 1) := by decide +kernel
theorem dX2_leastRaise_30 : decode cX2_leastRaise 30 = .ok (.getfield 77, 3) := by decide +kernel
theorem dX2_leastRaise_33 : decode cX2_leastRaise 33 = .ok (.if_icmp .ge 48, 3) := by decide +kernel
theorem dX2_leastRaise_36 : decode cX2_leastRaise 36 = .ok (.aload_n 1, 1) := by decide +kernel
theorem dX2_leastRaise_37 : decode cX2_leastRaise 37 = .ok (.getfield 51, 3) := by decide +kernel
theorem dX2_leastRaise_40 : decode cX2_leastRaise 40 = .ok (.iload 4, 2) := by decide +kernel
theorem dX2_leastRaise_42 : decode cX2_leastRaise 42 = .ok (.iaload, 1) := by decide +kernel
theorem dX2_leastRaise_43 : decode cX2_leastRaise 43 = .ok (.iload_n 2, 1) := by decide +kernel
theorem dX2_leastRaise_44 : decode cX2_leastRaise 44 = .ok (.if_icmp .ne 31, 3) := by decide +kernel
theorem dX2_leastRaise_47 : decode cX2_leastRaise 47 = .ok (.aload_n 0, 1) := by decide +kernel
theorem dX2_leastRaise_48 : decode cX2_leastRaise 48 = .ok (.aload_n 1, 1) := by decide +kernel
theorem dX2_leastRaise_49 : decode cX2_leastRaise 49 = .ok (.iload_n 2, 1) := by decide +kernel
theorem dX2_leastRaise_50 : decode cX2_leastRaise 50 = .ok (.iload 4, 2) := by decide +kernel
theorem dX2_leastRaise_52 : decode cX2_leastRaise 52 = .ok (.invokevirtual 108, 3) := by decide +kernel
theorem dX2_leastRaise_55 : decode cX2_leastRaise 55 = .ok (.istore 5, 2) := by decide +kernel
theorem dX2_leastRaise_57 : decode cX2_leastRaise 57 = .ok (.iload 5, 2) := by decide +kernel
theorem dX2_leastRaise_59 : decode cX2_leastRaise 59 = .ok (.ifCond .lt 16, 3) := by decide +kernel
theorem dX2_leastRaise_62 : decode cX2_leastRaise 62 = .ok (.iload_n 3, 1) := by decide +kernel
theorem dX2_leastRaise_63 : decode cX2_leastRaise 63 = .ok (.ifCond .lt 9, 3) := by decide +kernel
theorem dX2_leastRaise_66 : decode cX2_leastRaise 66 = .ok (.iload 5, 2) := by decide +kernel
theorem dX2_leastRaise_68 : decode cX2_leastRaise 68 = .ok (.iload_n 3, 1) := by decide +kernel
theorem dX2_leastRaise_69 : decode cX2_leastRaise 69 = .ok (.if_icmp .ge 6, 3) := by decide +kernel
theorem dX2_leastRaise_72 : decode cX2_leastRaise 72 = .ok (.iload 5, 2) := by decide +kernel
theorem dX2_leastRaise_74 : decode cX2_leastRaise 74 = .ok (.istore_n 3, 1) := by decide +kernel
theorem dX2_leastRaise_75 : decode cX2_leastRaise 75 = .ok (.iinc 4 1, 3) := by decide +kernel
theorem dX2_leastRaise_78 : decode cX2_leastRaise 78 = .ok (.goto (-51), 3) := by decide +kernel
theorem dX2_leastRaise_81 : decode cX2_leastRaise 81 = .ok (.iload_n 3, 1) := by decide +kernel
theorem dX2_leastRaise_82 : decode cX2_leastRaise 82 = .ok (.ireturn, 1) := by decide +kernel
set_option maxRecDepth 20000 in
theorem ggX2_leastRaiseOf_X3_waitingAt : GoodIn wsX2_leastRaiseOf wsX3_waitingAt := goodIn_r _ [12, 13, 14, 66, 67, 68, 69, 70, 71, 72, 73, 74] (by decide +kernel) (by decide +kernel)
set_option maxRecDepth 20000 in
theorem gX2_leastRaiseOf_X3_waitingAt : GoodIn wsX2_leastRaiseOf (wsV RX2 36 RX3 yX3_waitingAt wsX3_waitingAt) := goodIn_app (goodIn_of _ (by decide +kernel)) ggX2_leastRaiseOf_X3_waitingAt
set_option maxRecDepth 20000 in
theorem ggX2_leastRaiseOf_X2_lineOf : GoodIn wsX2_leastRaiseOf wsX2_lineOf := goodIn_r _ [19, 20, 21, 22, 23, 24, 25, 26, 27, 28, 29, 30, 31, 11, 32, 33, 34, 35, 36, 37, 38, 39, 40, 41, 42, 43, 44, 45, 46, 47, 48, 49, 50, 51, 52, 53, 54, 55, 56, 57, 58, 59, 60, 61, 62, 63, 64, 65, 75, 76, 77, 82, 66, 67, 68, 69, 70, 71, 72, 73, 74, 78, 79, 80, 81] (by decide +kernel) (by decide +kernel)
set_option maxRecDepth 20000 in
theorem gX2_leastRaiseOf_X2_lineOf : GoodIn wsX2_leastRaiseOf (wsV RX2 40 RX2 yX2_lineOf wsX2_lineOf) := goodIn_app (goodIn_of _ (by decide +kernel)) ggX2_leastRaiseOf_X2_lineOf
theorem dX2_leastRaiseOf_0 : decode cX2_leastRaiseOf 0 = .ok (.aload_n 1, 1) := by decide +kernel
theorem dX2_leastRaiseOf_1 : decode cX2_leastRaiseOf 1 = .ok (.getfield 111, 3) := by decide +kernel
theorem dX2_leastRaiseOf_4 : decode cX2_leastRaiseOf 4 = .ok (.iload_n 3, 1) := by decide +kernel
theorem dX2_leastRaiseOf_5 : decode cX2_leastRaiseOf 5 = .ok (.iaload, 1) := by decide +kernel
theorem dX2_leastRaiseOf_6 : decode cX2_leastRaiseOf 6 = .ok (.istore 4, 2) := by decide +kernel
theorem dX2_leastRaiseOf_8 : decode cX2_leastRaiseOf 8 = .ok (.iconst (-1), 1) := by decide +kernel
theorem dX2_leastRaiseOf_9 : decode cX2_leastRaiseOf 9 = .ok (.istore 5, 2) := by decide +kernel
theorem dX2_leastRaiseOf_11 : decode cX2_leastRaiseOf 11 = .ok (.iconst 0, 1) := by decide +kernel
theorem dX2_leastRaiseOf_12 : decode cX2_leastRaiseOf 12 = .ok (.istore 6, 2) := by decide +kernel
theorem dX2_leastRaiseOf_14 : decode cX2_leastRaiseOf 14 = .ok (.iload 6, 2) := by decide +kernel
theorem dX2_leastRaiseOf_16 : decode cX2_leastRaiseOf 16 = .ok (.bipush 9, 2) := by decide +kernel
theorem dX2_leastRaiseOf_18 : decode cX2_leastRaiseOf 18 = .ok (.if_icmp .gt 86, 3) := by decide +kernel
theorem dX2_leastRaiseOf_21 : decode cX2_leastRaiseOf 21 = .ok (.bipush 100, 2) := by decide +kernel
theorem dX2_leastRaiseOf_23 : decode cX2_leastRaiseOf 23 = .ok (.iload 6, 2) := by decide +kernel
theorem dX2_leastRaiseOf_25 : decode cX2_leastRaiseOf 25 = .ok (.iload 4, 2) := by decide +kernel
theorem dX2_leastRaiseOf_27 : decode cX2_leastRaiseOf 27 = .ok (.isub, 1) := by decide +kernel
theorem dX2_leastRaiseOf_28 : decode cX2_leastRaiseOf 28 = .ok (.invokestatic 114, 3) := by decide +kernel
theorem dX2_leastRaiseOf_31 : decode cX2_leastRaiseOf 31 = .ok (.imul, 1) := by decide +kernel
theorem dX2_leastRaiseOf_32 : decode cX2_leastRaiseOf 32 = .ok (.bipush 10, 2) := by decide +kernel
theorem dX2_leastRaiseOf_34 : decode cX2_leastRaiseOf 34 = .ok (.iload_n 3, 1) := by decide +kernel
theorem dX2_leastRaiseOf_35 : decode cX2_leastRaiseOf 35 = .ok (.imul, 1) := by decide +kernel
theorem dX2_leastRaiseOf_36 : decode cX2_leastRaiseOf 36 = .ok (.iadd, 1) := by decide +kernel
theorem dX2_leastRaiseOf_37 : decode cX2_leastRaiseOf 37 = .ok (.iload 6, 2) := by decide +kernel
theorem dX2_leastRaiseOf_39 : decode cX2_leastRaiseOf 39 = .ok (.iadd, 1) := by decide +kernel
theorem dX2_leastRaiseOf_40 : decode cX2_leastRaiseOf 40 = .ok (.istore 7, 2) := by decide +kernel
theorem dX2_leastRaiseOf_42 : decode cX2_leastRaiseOf 42 = .ok (.iload 6, 2) := by decide +kernel
theorem dX2_leastRaiseOf_44 : decode cX2_leastRaiseOf 44 = .ok (.iload 4, 2) := by decide +kernel
theorem dX2_leastRaiseOf_46 : decode cX2_leastRaiseOf 46 = .ok (.if_icmp .eq 52, 3) := by decide +kernel
theorem dX2_leastRaiseOf_49 : decode cX2_leastRaiseOf 49 = .ok (.iload 5, 2) := by decide +kernel
theorem dX2_leastRaiseOf_51 : decode cX2_leastRaiseOf 51 = .ok (.ifCond .lt 10, 3) := by decide +kernel
theorem dX2_leastRaiseOf_54 : decode cX2_leastRaiseOf 54 = .ok (.iload 7, 2) := by decide +kernel
theorem dX2_leastRaiseOf_56 : decode cX2_leastRaiseOf 56 = .ok (.iload 5, 2) := by decide +kernel
theorem dX2_leastRaiseOf_58 : decode cX2_leastRaiseOf 58 = .ok (.if_icmp .ge 40, 3) := by decide +kernel
theorem dX2_leastRaiseOf_61 : decode cX2_leastRaiseOf 61 = .ok (.aload_n 0, 1) := by decide +kernel
theorem dX2_leastRaiseOf_62 : decode cX2_leastRaiseOf 62 = .ok (.getfield 12, 3) := by decide +kernel
theorem dX2_leastRaiseOf_65 : decode cX2_leastRaiseOf 65 = .ok (.getfield 111, 3) := by decide +kernel
theorem dX2_leastRaiseOf_68 : decode cX2_leastRaiseOf 68 = .ok (.iload_n 3, 1) := by decide +kernel
theorem dX2_leastRaiseOf_69 : decode cX2_leastRaiseOf 69 = .ok (.iload 6, 2) := by decide +kernel
theorem dX2_leastRaiseOf_71 : decode cX2_leastRaiseOf 71 = .ok (.iastore, 1) := by decide +kernel
theorem dX2_leastRaiseOf_72 : decode cX2_leastRaiseOf 72 = .ok (.aload_n 0, 1) := by decide +kernel
theorem dX2_leastRaiseOf_73 : decode cX2_leastRaiseOf 73 = .ok (.aload_n 0, 1) := by decide +kernel
theorem dX2_leastRaiseOf_74 : decode cX2_leastRaiseOf 74 = .ok (.getfield 12, 3) := by decide +kernel
theorem dX2_leastRaiseOf_77 : decode cX2_leastRaiseOf 77 = .ok (.aload_n 0, 1) := by decide +kernel
theorem dX2_leastRaiseOf_78 : decode cX2_leastRaiseOf 78 = .ok (.getfield 12, 3) := by decide +kernel
theorem dX2_leastRaiseOf_81 : decode cX2_leastRaiseOf 81 = .ok (.iload_n 2, 1) := by decide +kernel
theorem dX2_leastRaiseOf_82 : decode cX2_leastRaiseOf 82 = .ok (.invokevirtual 36, 3) := by decide +kernel
theorem dX2_leastRaiseOf_85 : decode cX2_leastRaiseOf 85 = .ok (.invokevirtual 40, 3) := by decide +kernel
theorem dX2_leastRaiseOf_88 : decode cX2_leastRaiseOf 88 = .ok (.getfield 69, 3) := by decide +kernel
theorem dX2_leastRaiseOf_91 : decode cX2_leastRaiseOf 91 = .ok (.ifCond .ne 7, 3) := by decide +kernel
theorem dX2_leastRaiseOf_94 : decode cX2_leastRaiseOf 94 = .ok (.iload 7, 2) := by decide +kernel
theorem dX2_leastRaiseOf_96 : decode cX2_leastRaiseOf 96 = .ok (.istore 5, 2) := by decide +kernel
theorem dX2_leastRaiseOf_98 : decode cX2_leastRaiseOf 98 = .ok (.iinc 6 1, 3) := by decide +kernel
theorem dX2_leastRaiseOf_101 : decode cX2_leastRaiseOf 101 = .ok (.goto (-87), 3) := by decide +kernel
theorem dX2_leastRaiseOf_104 : decode cX2_leastRaiseOf 104 = .ok (.aload_n 0, 1) := by decide +kernel
theorem dX2_leastRaiseOf_105 : decode cX2_leastRaiseOf 105 = .ok (.getfield 12, 3) := by decide +kernel
theorem dX2_leastRaiseOf_108 : decode cX2_leastRaiseOf 108 = .ok (.getfield 111, 3) := by decide +kernel
theorem dX2_leastRaiseOf_111 : decode cX2_leastRaiseOf 111 = .ok (.iload_n 3, 1) := by decide +kernel
theorem dX2_leastRaiseOf_112 : decode cX2_leastRaiseOf 112 = .ok (.iload 4, 2) := by decide +kernel
theorem dX2_leastRaiseOf_114 : decode cX2_leastRaiseOf 114 = .ok (.iastore, 1) := by decide +kernel
theorem dX2_leastRaiseOf_115 : decode cX2_leastRaiseOf 115 = .ok (.iload 5, 2) := by decide +kernel
theorem dX2_leastRaiseOf_117 : decode cX2_leastRaiseOf 117 = .ok (.ireturn, 1) := by decide +kernel
set_option maxRecDepth 20000 in
theorem ggX2_ranksSeen_X3_become : GoodIn wsX2_ranksSeen wsX3_become := goodIn_r _ [7, 8, 9, 10, 11, 12, 13, 14, 15, 16, 17, 18, 19, 20, 88, 89, 90, 91, 92, 93, 94, 95, 96] (by decide +kernel) (by decide +kernel)
set_option maxRecDepth 20000 in
theorem gX2_ranksSeen_X3_become : GoodIn wsX2_ranksSeen (wsV RX2 105 RX3 yX3_become wsX3_become) := goodIn_app (goodIn_of _ (by decide +kernel)) ggX2_ranksSeen_X3_become
set_option maxRecDepth 20000 in
theorem ggX2_ranksSeen_X2_isSeen : GoodIn wsX2_ranksSeen wsX2_isSeen := goodIn_r _ [25, 1, 26, 27, 28, 29, 30, 6, 31, 10, 19, 32, 33, 34, 24, 35, 36, 37, 38, 39, 40, 41, 42, 43, 44, 45, 46, 47, 12, 17, 18, 48, 49, 50, 51, 52, 53, 54, 55, 14, 15, 16, 56, 57, 58, 59, 60, 61, 62, 63, 64, 65, 66, 67, 68, 69, 70, 71, 72, 73, 74, 75, 76, 77, 78, 79, 80, 81, 82, 83, 84, 85, 86, 87, 97, 98, 99, 88, 89, 90, 91, 92, 93, 94, 95, 96, 100, 101, 102, 103, 104] (by decide +kernel) (by decide +kernel)
set_option maxRecDepth 20000 in
theorem gX2_ranksSeen_X2_isSeen : GoodIn wsX2_ranksSeen (wsV RX2 119 RX2 yX2_isSeen wsX2_isSeen) := goodIn_app (goodIn_of _ (by decide +kernel)) ggX2_ranksSeen_X2_isSeen
theorem dX2_ranksSeen_0 : decode cX2_ranksSeen 0 = .ok (.iconst 0, 1) := by decide +kernel
theorem dX2_ranksSeen_1 : decode cX2_ranksSeen 1 = .ok (.istore 7, 2) := by decide +kernel
theorem dX2_ranksSeen_3 : decode cX2_ranksSeen 3 = .ok (.aload_n 0, 1) := by decide +kernel
theorem dX2_ranksSeen_4 : decode cX2_ranksSeen 4 = .ok (.getfield 12, 3) := by decide +kernel
theorem dX2_ranksSeen_7 : decode cX2_ranksSeen 7 = .ok (.aload_n 1, 1) := by decide +kernel
theorem dX2_ranksSeen_8 : decode cX2_ranksSeen 8 = .ok (.invokevirtual 105, 3) := by decide +kernel
theorem dX2_ranksSeen_11 : decode cX2_ranksSeen 11 = .ok (.iconst 0, 1) := by decide +kernel
theorem dX2_ranksSeen_12 : decode cX2_ranksSeen 12 = .ok (.istore 8, 2) := by decide +kernel
theorem dX2_ranksSeen_14 : decode cX2_ranksSeen 14 = .ok (.iload 8, 2) := by decide +kernel
theorem dX2_ranksSeen_16 : decode cX2_ranksSeen 16 = .ok (.bipush 9, 2) := by decide +kernel
theorem dX2_ranksSeen_18 : decode cX2_ranksSeen 18 = .ok (.if_icmp .gt 43, 3) := by decide +kernel
theorem dX2_ranksSeen_21 : decode cX2_ranksSeen 21 = .ok (.aload_n 0, 1) := by decide +kernel
theorem dX2_ranksSeen_22 : decode cX2_ranksSeen 22 = .ok (.getfield 12, 3) := by decide +kernel
theorem dX2_ranksSeen_25 : decode cX2_ranksSeen 25 = .ok (.getfield 111, 3) := by decide +kernel
theorem dX2_ranksSeen_28 : decode cX2_ranksSeen 28 = .ok (.iload_n 3, 1) := by decide +kernel
theorem dX2_ranksSeen_29 : decode cX2_ranksSeen 29 = .ok (.iload 8, 2) := by decide +kernel
theorem dX2_ranksSeen_31 : decode cX2_ranksSeen 31 = .ok (.iastore, 1) := by decide +kernel
theorem dX2_ranksSeen_32 : decode cX2_ranksSeen 32 = .ok (.aload_n 0, 1) := by decide +kernel
theorem dX2_ranksSeen_33 : decode cX2_ranksSeen 33 = .ok (.iload_n 2, 1) := by decide +kernel
theorem dX2_ranksSeen_34 : decode cX2_ranksSeen 34 = .ok (.aload 4, 2) := by decide +kernel
theorem dX2_ranksSeen_36 : decode cX2_ranksSeen 36 = .ok (.iload 5, 2) := by decide +kernel
theorem dX2_ranksSeen_38 : decode cX2_ranksSeen 38 = .ok (.iload 6, 2) := by decide +kernel
theorem dX2_ranksSeen_40 : decode cX2_ranksSeen 40 = .ok (.invokevirtual 119, 3) := by decide +kernel
theorem dX2_ranksSeen_43 : decode cX2_ranksSeen 43 = .ok (.ifCond .eq 12, 3) := by decide +kernel
theorem dX2_ranksSeen_46 : decode cX2_ranksSeen 46 = .ok (.iload 7, 2) := by decide +kernel
theorem dX2_ranksSeen_48 : decode cX2_ranksSeen 48 = .ok (.iconst 1, 1) := by decide +kernel
theorem dX2_ranksSeen_49 : decode cX2_ranksSeen 49 = .ok (.iload 8, 2) := by decide +kernel
theorem dX2_ranksSeen_51 : decode cX2_ranksSeen 51 = .ok (.ishl, 1) := by decide +kernel
theorem dX2_ranksSeen_52 : decode cX2_ranksSeen 52 = .ok (.ior, 1) := by decide +kernel
theorem dX2_ranksSeen_53 : decode cX2_ranksSeen 53 = .ok (.istore 7, 2) := by decide +kernel
theorem dX2_ranksSeen_55 : decode cX2_ranksSeen 55 = .ok (.iinc 8 1, 3) := by decide +kernel
theorem dX2_ranksSeen_58 : decode cX2_ranksSeen 58 = .ok (.goto (-44), 3) := by decide +kernel
theorem dX2_ranksSeen_61 : decode cX2_ranksSeen 61 = .ok (.iload 7, 2) := by decide +kernel
theorem dX2_ranksSeen_63 : decode cX2_ranksSeen 63 = .ok (.ireturn, 1) := by decide +kernel
set_option maxRecDepth 20000 in
theorem ggX2_kindsSeen_X3_become : GoodIn wsX2_kindsSeen wsX3_become := goodIn_r _ [7, 8, 9, 10, 11, 12, 13, 14, 15, 16, 17, 18, 19, 20, 88, 89, 90, 91, 92, 93, 94, 95, 96] (by decide +kernel) (by decide +kernel)
set_option maxRecDepth 20000 in
theorem gX2_kindsSeen_X3_become : GoodIn wsX2_kindsSeen (wsV RX2 105 RX3 yX3_become wsX3_become) := goodIn_app (goodIn_of _ (by decide +kernel)) ggX2_kindsSeen_X3_become
set_option maxRecDepth 20000 in
theorem ggX2_kindsSeen_X2_isSeen : GoodIn wsX2_kindsSeen wsX2_isSeen := goodIn_r _ [25, 1, 26, 27, 28, 29, 30, 6, 31, 10, 19, 32, 33, 34, 24, 35, 36, 37, 38, 39, 40, 41, 42, 43, 44, 45, 46, 47, 12, 17, 18, 48, 49, 50, 51, 52, 53, 54, 55, 14, 15, 16, 56, 57, 58, 59, 60, 61, 62, 63, 64, 65, 66, 67, 68, 69, 70, 71, 72, 73, 74, 75, 76, 77, 78, 79, 80, 81, 82, 83, 84, 85, 86, 87, 97, 98, 99, 88, 89, 90, 91, 92, 93, 94, 95, 96, 100, 101, 102, 103, 104] (by decide +kernel) (by decide +kernel)
set_option maxRecDepth 20000 in
theorem gX2_kindsSeen_X2_isSeen : GoodIn wsX2_kindsSeen (wsV RX2 119 RX2 yX2_isSeen wsX2_isSeen) := goodIn_app (goodIn_of _ (by decide +kernel)) ggX2_kindsSeen_X2_isSeen
theorem dX2_kindsSeen_0 : decode cX2_kindsSeen 0 = .ok (.iconst 0, 1) := by decide +kernel
theorem dX2_kindsSeen_1 : decode cX2_kindsSeen 1 = .ok (.istore 7, 2) := by decide +kernel
theorem dX2_kindsSeen_3 : decode cX2_kindsSeen 3 = .ok (.aload_n 0, 1) := by decide +kernel
theorem dX2_kindsSeen_4 : decode cX2_kindsSeen 4 = .ok (.getfield 12, 3) := by decide +kernel
theorem dX2_kindsSeen_7 : decode cX2_kindsSeen 7 = .ok (.aload_n 1, 1) := by decide +kernel
theorem dX2_kindsSeen_8 : decode cX2_kindsSeen 8 = .ok (.invokevirtual 105, 3) := by decide +kernel
theorem dX2_kindsSeen_11 : decode cX2_kindsSeen 11 = .ok (.iconst 1, 1) := by decide +kernel
theorem dX2_kindsSeen_12 : decode cX2_kindsSeen 12 = .ok (.istore 8, 2) := by decide +kernel
theorem dX2_kindsSeen_14 : decode cX2_kindsSeen 14 = .ok (.iload 8, 2) := by decide +kernel
theorem dX2_kindsSeen_16 : decode cX2_kindsSeen 16 = .ok (.iconst 5, 1) := by decide +kernel
theorem dX2_kindsSeen_17 : decode cX2_kindsSeen 17 = .ok (.if_icmp .gt 43, 3) := by decide +kernel
theorem dX2_kindsSeen_20 : decode cX2_kindsSeen 20 = .ok (.aload_n 0, 1) := by decide +kernel
theorem dX2_kindsSeen_21 : decode cX2_kindsSeen 21 = .ok (.getfield 12, 3) := by decide +kernel
theorem dX2_kindsSeen_24 : decode cX2_kindsSeen 24 = .ok (.getfield 123, 3) := by decide +kernel
theorem dX2_kindsSeen_27 : decode cX2_kindsSeen 27 = .ok (.iload_n 3, 1) := by decide +kernel
theorem dX2_kindsSeen_28 : decode cX2_kindsSeen 28 = .ok (.iload 8, 2) := by decide +kernel
theorem dX2_kindsSeen_30 : decode cX2_kindsSeen 30 = .ok (.iastore, 1) := by decide +kernel
theorem dX2_kindsSeen_31 : decode cX2_kindsSeen 31 = .ok (.aload_n 0, 1) := by decide +kernel
theorem dX2_kindsSeen_32 : decode cX2_kindsSeen 32 = .ok (.iload_n 2, 1) := by decide +kernel
theorem dX2_kindsSeen_33 : decode cX2_kindsSeen 33 = .ok (.aload 4, 2) := by decide +kernel
theorem dX2_kindsSeen_35 : decode cX2_kindsSeen 35 = .ok (.iload 5, 2) := by decide +kernel
theorem dX2_kindsSeen_37 : decode cX2_kindsSeen 37 = .ok (.iload 6, 2) := by decide +kernel
theorem dX2_kindsSeen_39 : decode cX2_kindsSeen 39 = .ok (.invokevirtual 119, 3) := by decide +kernel
theorem dX2_kindsSeen_42 : decode cX2_kindsSeen 42 = .ok (.ifCond .eq 12, 3) := by decide +kernel
theorem dX2_kindsSeen_45 : decode cX2_kindsSeen 45 = .ok (.iload 7, 2) := by decide +kernel
theorem dX2_kindsSeen_47 : decode cX2_kindsSeen 47 = .ok (.iconst 1, 1) := by decide +kernel
theorem dX2_kindsSeen_48 : decode cX2_kindsSeen 48 = .ok (.iload 8, 2) := by decide +kernel
theorem dX2_kindsSeen_50 : decode cX2_kindsSeen 50 = .ok (.ishl, 1) := by decide +kernel
theorem dX2_kindsSeen_51 : decode cX2_kindsSeen 51 = .ok (.ior, 1) := by decide +kernel
theorem dX2_kindsSeen_52 : decode cX2_kindsSeen 52 = .ok (.istore 7, 2) := by decide +kernel
theorem dX2_kindsSeen_54 : decode cX2_kindsSeen 54 = .ok (.iinc 8 1, 3) := by decide +kernel
theorem dX2_kindsSeen_57 : decode cX2_kindsSeen 57 = .ok (.goto (-43), 3) := by decide +kernel
theorem dX2_kindsSeen_60 : decode cX2_kindsSeen 60 = .ok (.iload 7, 2) := by decide +kernel
theorem dX2_kindsSeen_62 : decode cX2_kindsSeen 62 = .ok (.ireturn, 1) := by decide +kernel
set_option maxRecDepth 20000 in
theorem ggX2_isSeen_X3_waitingAt : GoodIn wsX2_isSeen wsX3_waitingAt := goodIn_r _ [8, 9, 10, 77, 78, 79, 80, 81, 82, 83, 84, 85] (by decide +kernel) (by decide +kernel)
set_option maxRecDepth 20000 in
theorem gX2_isSeen_X3_waitingAt : GoodIn wsX2_isSeen (wsV RX2 36 RX3 yX3_waitingAt wsX3_waitingAt) := goodIn_app (goodIn_of _ (by decide +kernel)) ggX2_isSeen_X3_waitingAt
set_option maxRecDepth 20000 in
theorem ggX2_isSeen_X2_lineOf : GoodIn wsX2_isSeen wsX2_lineOf := goodIn_r _ [15, 16, 3, 17, 18, 19, 20, 21, 22, 23, 24, 25, 26, 7, 27, 28, 29, 30, 31, 32, 33, 34, 35, 36, 37, 38, 39, 40, 41, 42, 43, 44, 45, 46, 47, 48, 49, 50, 51, 52, 53, 54, 55, 56, 57, 58, 59, 60, 71, 72, 73, 86, 77, 78, 79, 80, 81, 82, 83, 84, 85, 87, 88, 89, 90] (by decide +kernel) (by decide +kernel)
set_option maxRecDepth 20000 in
theorem gX2_isSeen_X2_lineOf : GoodIn wsX2_isSeen (wsV RX2 40 RX2 yX2_lineOf wsX2_lineOf) := goodIn_app (goodIn_of _ (by decide +kernel)) ggX2_isSeen_X2_lineOf
set_option maxRecDepth 20000 in
theorem ggX2_isSeen_X6_holds : GoodIn wsX2_isSeen wsX6_holds := goodIn_r _ [65, 66, 74, 75, 76] (by decide +kernel) (by decide +kernel)
set_option maxRecDepth 20000 in
theorem gX2_isSeen_X6_holds : GoodIn wsX2_isSeen (wsV RX2 126 RX6 yX6_holds wsX6_holds) := goodIn_app (goodIn_of _ (by decide +kernel)) ggX2_isSeen_X6_holds
set_option maxRecDepth 20000 in
theorem ggX2_isSeen_X5_goingIn : GoodIn wsX2_isSeen wsX5_goingIn := goodIn_r _ [70, 47, 48, 87, 88, 89, 90] (by decide +kernel) (by decide +kernel)
set_option maxRecDepth 20000 in
theorem gX2_isSeen_X5_goingIn : GoodIn wsX2_isSeen (wsV RX2 134 RX5 yX5_goingIn wsX5_goingIn) := goodIn_app (goodIn_of _ (by decide +kernel)) ggX2_isSeen_X5_goingIn
theorem dX2_isSeen_0 : decode cX2_isSeen 0 = .ok (.aload_n 0, 1) := by decide +kernel
theorem dX2_isSeen_1 : decode cX2_isSeen 1 = .ok (.aload_n 0, 1) := by decide +kernel
theorem dX2_isSeen_2 : decode cX2_isSeen 2 = .ok (.getfield 12, 3) := by decide +kernel
theorem dX2_isSeen_5 : decode cX2_isSeen 5 = .ok (.aload_n 0, 1) := by decide +kernel
theorem dX2_isSeen_6 : decode cX2_isSeen 6 = .ok (.getfield 12, 3) := by decide +kernel
theorem dX2_isSeen_9 : decode cX2_isSeen 9 = .ok (.iload_n 1, 1) := by decide +kernel
theorem dX2_isSeen_10 : decode cX2_isSeen 10 = .ok (.invokevirtual 36, 3) := by decide +kernel
theorem dX2_isSeen_13 : decode cX2_isSeen 13 = .ok (.invokevirtual 40, 3) := by decide +kernel
theorem dX2_isSeen_16 : decode cX2_isSeen 16 = .ok (.pop, 1) := by decide +kernel
theorem dX2_isSeen_17 : decode cX2_isSeen 17 = .ok (.iconst 0, 1) := by decide +kernel
theorem dX2_isSeen_18 : decode cX2_isSeen 18 = .ok (.istore 5, 2) := by decide +kernel
theorem dX2_isSeen_20 : decode cX2_isSeen 20 = .ok (.iload 5, 2) := by decide +kernel
theorem dX2_isSeen_22 : decode cX2_isSeen 22 = .ok (.iload 4, 2) := by decide +kernel
theorem dX2_isSeen_24 : decode cX2_isSeen 24 = .ok (.if_icmp .ge 44, 3) := by decide +kernel
theorem dX2_isSeen_27 : decode cX2_isSeen 27 = .ok (.aload_n 2, 1) := by decide +kernel
theorem dX2_isSeen_28 : decode cX2_isSeen 28 = .ok (.iload_n 3, 1) := by decide +kernel
theorem dX2_isSeen_29 : decode cX2_isSeen 29 = .ok (.iload 5, 2) := by decide +kernel
theorem dX2_isSeen_31 : decode cX2_isSeen 31 = .ok (.iadd, 1) := by decide +kernel
theorem dX2_isSeen_32 : decode cX2_isSeen 32 = .ok (.iconst 1, 1) := by decide +kernel
theorem dX2_isSeen_33 : decode cX2_isSeen 33 = .ok (.invokevirtual 126, 3) := by decide +kernel
theorem dX2_isSeen_36 : decode cX2_isSeen 36 = .ok (.ifCond .eq 24, 3) := by decide +kernel
theorem dX2_isSeen_39 : decode cX2_isSeen 39 = .ok (.aload_n 2, 1) := by decide +kernel
theorem dX2_isSeen_40 : decode cX2_isSeen 40 = .ok (.getfield 131, 3) := by decide +kernel
theorem dX2_isSeen_43 : decode cX2_isSeen 43 = .ok (.iload_n 3, 1) := by decide +kernel
theorem dX2_isSeen_44 : decode cX2_isSeen 44 = .ok (.iload 5, 2) := by decide +kernel
theorem dX2_isSeen_46 : decode cX2_isSeen 46 = .ok (.iadd, 1) := by decide +kernel
theorem dX2_isSeen_47 : decode cX2_isSeen 47 = .ok (.iaload, 1) := by decide +kernel
theorem dX2_isSeen_48 : decode cX2_isSeen 48 = .ok (.aload_n 0, 1) := by decide +kernel
theorem dX2_isSeen_49 : decode cX2_isSeen 49 = .ok (.getfield 28, 3) := by decide +kernel
theorem dX2_isSeen_52 : decode cX2_isSeen 52 = .ok (.iload 5, 2) := by decide +kernel
theorem dX2_isSeen_54 : decode cX2_isSeen 54 = .ok (.invokevirtual 134, 3) := by decide +kernel
theorem dX2_isSeen_57 : decode cX2_isSeen 57 = .ok (.if_icmp .eq 5, 3) := by decide +kernel
theorem dX2_isSeen_60 : decode cX2_isSeen 60 = .ok (.iconst 0, 1) := by decide +kernel
theorem dX2_isSeen_61 : decode cX2_isSeen 61 = .ok (.ireturn, 1) := by decide +kernel
theorem dX2_isSeen_62 : decode cX2_isSeen 62 = .ok (.iinc 5 1, 3) := by decide +kernel
theorem dX2_isSeen_65 : decode cX2_isSeen 65 = .ok (.goto (-45), 3) := by decide +kernel
theorem dX2_isSeen_68 : decode cX2_isSeen 68 = .ok (.iconst 1, 1) := by decide +kernel
theorem dX2_isSeen_69 : decode cX2_isSeen 69 = .ok (.ireturn, 1) := by decide +kernel
set_option maxRecDepth 20000 in
theorem ggX2_pairs_X2_isPair : GoodIn wsX2_pairs wsX2_isPair := goodIn_r _ [5, 6, 7, 8, 9, 10, 11, 12, 13, 14, 15, 16, 17, 18, 19, 20, 21, 22] (by decide +kernel) (by decide +kernel)
set_option maxRecDepth 20000 in
theorem gX2_pairs_X2_isPair : GoodIn wsX2_pairs (va_wsS RX2 137 yX2_isPair wsX2_isPair) := goodIn_app (goodIn_of _ (by decide +kernel)) ggX2_pairs_X2_isPair
theorem dX2_pairs_0 : decode cX2_pairs 0 = .ok (.iconst 0, 1) := by decide +kernel
theorem dX2_pairs_1 : decode cX2_pairs 1 = .ok (.istore_n 2, 1) := by decide +kernel
theorem dX2_pairs_2 : decode cX2_pairs 2 = .ok (.iconst 0, 1) := by decide +kernel
theorem dX2_pairs_3 : decode cX2_pairs 3 = .ok (.istore_n 3, 1) := by decide +kernel
theorem dX2_pairs_4 : decode cX2_pairs 4 = .ok (.iload_n 3, 1) := by decide +kernel
theorem dX2_pairs_5 : decode cX2_pairs 5 = .ok (.aload_n 1, 1) := by decide +kernel
theorem dX2_pairs_6 : decode cX2_pairs 6 = .ok (.getfield 77, 3) := by decide +kernel
theorem dX2_pairs_9 : decode cX2_pairs 9 = .ok (.if_icmp .ge 42, 3) := by decide +kernel
theorem dX2_pairs_12 : decode cX2_pairs 12 = .ok (.iload_n 3, 1) := by decide +kernel
theorem dX2_pairs_13 : decode cX2_pairs 13 = .ok (.iconst 1, 1) := by decide +kernel
theorem dX2_pairs_14 : decode cX2_pairs 14 = .ok (.iadd, 1) := by decide +kernel
theorem dX2_pairs_15 : decode cX2_pairs 15 = .ok (.istore 4, 2) := by decide +kernel
theorem dX2_pairs_17 : decode cX2_pairs 17 = .ok (.iload 4, 2) := by decide +kernel
theorem dX2_pairs_19 : decode cX2_pairs 19 = .ok (.aload_n 1, 1) := by decide +kernel
theorem dX2_pairs_20 : decode cX2_pairs 20 = .ok (.getfield 77, 3) := by decide +kernel
theorem dX2_pairs_23 : decode cX2_pairs 23 = .ok (.if_icmp .ge 22, 3) := by decide +kernel
theorem dX2_pairs_26 : decode cX2_pairs 26 = .ok (.aload_n 1, 1) := by decide +kernel
theorem dX2_pairs_27 : decode cX2_pairs 27 = .ok (.iload_n 3, 1) := by decide +kernel
theorem dX2_pairs_28 : decode cX2_pairs 28 = .ok (.iload 4, 2) := by decide +kernel
theorem dX2_pairs_30 : decode cX2_pairs 30 = .ok (.invokestatic 137, 3) := by decide +kernel
theorem dX2_pairs_33 : decode cX2_pairs 33 = .ok (.ifCond .eq 6, 3) := by decide +kernel
theorem dX2_pairs_36 : decode cX2_pairs 36 = .ok (.iinc 2 1, 3) := by decide +kernel
theorem dX2_pairs_39 : decode cX2_pairs 39 = .ok (.iinc 4 1, 3) := by decide +kernel
theorem dX2_pairs_42 : decode cX2_pairs 42 = .ok (.goto (-25), 3) := by decide +kernel
theorem dX2_pairs_45 : decode cX2_pairs 45 = .ok (.iinc 3 1, 3) := by decide +kernel
theorem dX2_pairs_48 : decode cX2_pairs 48 = .ok (.goto (-44), 3) := by decide +kernel
theorem dX2_pairs_51 : decode cX2_pairs 51 = .ok (.iload_n 2, 1) := by decide +kernel
theorem dX2_pairs_52 : decode cX2_pairs 52 = .ok (.ireturn, 1) := by decide +kernel
set_option maxRecDepth 20000 in
theorem ggX2_isPair_X3_yields : GoodIn wsX2_isPair wsX3_yields := goodIn_r _ [5, 6, 7, 8, 9, 10, 11, 12, 13, 14, 15, 16, 17] (by decide +kernel) (by decide +kernel)
set_option maxRecDepth 20000 in
theorem gX2_isPair_X3_yields : GoodIn wsX2_isPair (wsV RX2 140 RX3 yX3_yields wsX3_yields) := goodIn_app (goodIn_of _ (by decide +kernel)) ggX2_isPair_X3_yields
theorem dX2_isPair_0 : decode cX2_isPair 0 = .ok (.aload_n 0, 1) := by decide +kernel
theorem dX2_isPair_1 : decode cX2_isPair 1 = .ok (.iload_n 1, 1) := by decide +kernel
theorem dX2_isPair_2 : decode cX2_isPair 2 = .ok (.iload_n 2, 1) := by decide +kernel
theorem dX2_isPair_3 : decode cX2_isPair 3 = .ok (.invokevirtual 140, 3) := by decide +kernel
theorem dX2_isPair_6 : decode cX2_isPair 6 = .ok (.ifCond .eq 16, 3) := by decide +kernel
theorem dX2_isPair_9 : decode cX2_isPair 9 = .ok (.aload_n 0, 1) := by decide +kernel
theorem dX2_isPair_10 : decode cX2_isPair 10 = .ok (.iload_n 2, 1) := by decide +kernel
theorem dX2_isPair_11 : decode cX2_isPair 11 = .ok (.iload_n 1, 1) := by decide +kernel
theorem dX2_isPair_12 : decode cX2_isPair 12 = .ok (.invokevirtual 140, 3) := by decide +kernel
theorem dX2_isPair_15 : decode cX2_isPair 15 = .ok (.ifCond .eq 7, 3) := by decide +kernel
theorem dX2_isPair_18 : decode cX2_isPair 18 = .ok (.iconst 1, 1) := by decide +kernel
theorem dX2_isPair_19 : decode cX2_isPair 19 = .ok (.goto 4, 3) := by decide +kernel
theorem dX2_isPair_22 : decode cX2_isPair 22 = .ok (.iconst 0, 1) := by decide +kernel
theorem dX2_isPair_23 : decode cX2_isPair 23 = .ok (.ireturn, 1) := by decide +kernel
set_option maxRecDepth 20000 in
theorem ggX2_firstPair_X2_isPair : GoodIn wsX2_firstPair wsX2_isPair := goodIn_r _ [5, 6, 7, 8, 9, 10, 11, 12, 13, 14, 15, 16, 17, 18, 19, 20, 21, 22] (by decide +kernel) (by decide +kernel)
set_option maxRecDepth 20000 in
theorem gX2_firstPair_X2_isPair : GoodIn wsX2_firstPair (va_wsS RX2 137 yX2_isPair wsX2_isPair) := goodIn_app (goodIn_of _ (by decide +kernel)) ggX2_firstPair_X2_isPair
theorem dX2_firstPair_0 : decode cX2_firstPair 0 = .ok (.iconst 0, 1) := by decide +kernel
theorem dX2_firstPair_1 : decode cX2_firstPair 1 = .ok (.istore_n 2, 1) := by decide +kernel
theorem dX2_firstPair_2 : decode cX2_firstPair 2 = .ok (.iload_n 2, 1) := by decide +kernel
theorem dX2_firstPair_3 : decode cX2_firstPair 3 = .ok (.aload_n 1, 1) := by decide +kernel
theorem dX2_firstPair_4 : decode cX2_firstPair 4 = .ok (.getfield 77, 3) := by decide +kernel
theorem dX2_firstPair_7 : decode cX2_firstPair 7 = .ok (.if_icmp .ge 43, 3) := by decide +kernel
theorem dX2_firstPair_10 : decode cX2_firstPair 10 = .ok (.iload_n 2, 1) := by decide +kernel
theorem dX2_firstPair_11 : decode cX2_firstPair 11 = .ok (.iconst 1, 1) := by decide +kernel
theorem dX2_firstPair_12 : decode cX2_firstPair 12 = .ok (.iadd, 1) := by decide +kernel
theorem dX2_firstPair_13 : decode cX2_firstPair 13 = .ok (.istore_n 3, 1) := by decide +kernel
theorem dX2_firstPair_14 : decode cX2_firstPair 14 = .ok (.iload_n 3, 1) := by decide +kernel
theorem dX2_firstPair_15 : decode cX2_firstPair 15 = .ok (.aload_n 1, 1) := by decide +kernel
theorem dX2_firstPair_16 : decode cX2_firstPair 16 = .ok (.getfield 77, 3) := by decide +kernel
theorem dX2_firstPair_19 : decode cX2_firstPair 19 = .ok (.if_icmp .ge 25, 3) := by decide +kernel
theorem dX2_firstPair_22 : decode cX2_firstPair 22 = .ok (.aload_n 1, 1) := by decide +kernel
theorem dX2_firstPair_23 : decode cX2_firstPair 23 = .ok (.iload_n 2, 1) := by decide +kernel
theorem dX2_firstPair_24 : decode cX2_firstPair 24 = .ok (.iload_n 3, 1) := by decide +kernel
theorem dX2_firstPair_25 : decode cX2_firstPair 25 = .ok (.invokestatic 137, 3) := by decide +kernel
theorem dX2_firstPair_28 : decode cX2_firstPair 28 = .ok (.ifCond .eq 10, 3) := by decide +kernel
theorem dX2_firstPair_31 : decode cX2_firstPair 31 = .ok (.bipush 10, 2) := by decide +kernel
theorem dX2_firstPair_33 : decode cX2_firstPair 33 = .ok (.iload_n 2, 1) := by decide +kernel
theorem dX2_firstPair_34 : decode cX2_firstPair 34 = .ok (.imul, 1) := by decide +kernel
theorem dX2_firstPair_35 : decode cX2_firstPair 35 = .ok (.iload_n 3, 1) := by decide +kernel
theorem dX2_firstPair_36 : decode cX2_firstPair 36 = .ok (.iadd, 1) := by decide +kernel
theorem dX2_firstPair_37 : decode cX2_firstPair 37 = .ok (.ireturn, 1) := by decide +kernel
theorem dX2_firstPair_38 : decode cX2_firstPair 38 = .ok (.iinc 3 1, 3) := by decide +kernel
theorem dX2_firstPair_41 : decode cX2_firstPair 41 = .ok (.goto (-27), 3) := by decide +kernel
theorem dX2_firstPair_44 : decode cX2_firstPair 44 = .ok (.iinc 2 1, 3) := by decide +kernel
theorem dX2_firstPair_47 : decode cX2_firstPair 47 = .ok (.goto (-45), 3) := by decide +kernel
theorem dX2_firstPair_50 : decode cX2_firstPair 50 = .ok (.iconst (-1), 1) := by decide +kernel
theorem dX2_firstPair_51 : decode cX2_firstPair 51 = .ok (.ireturn, 1) := by decide +kernel
set_option maxRecDepth 20000 in
theorem ggX2_casesOfGoing_X4_read : GoodIn wsX2_casesOfGoing wsX4_read := goodIn_r _ [6, 7, 8, 9, 10, 11, 12, 13, 14, 15, 16, 43, 44, 45, 46, 47, 48, 49, 50, 51, 52] (by decide +kernel) (by decide +kernel)
set_option maxRecDepth 20000 in
theorem gX2_casesOfGoing_X4_read : GoodIn wsX2_casesOfGoing (wsV RX2 32 RX4 yX4_read wsX4_read) := goodIn_app (goodIn_of _ (by decide +kernel)) ggX2_casesOfGoing_X4_read
set_option maxRecDepth 20000 in
theorem ggX2_casesOfGoing_X3_waitingAt : GoodIn wsX2_casesOfGoing wsX3_waitingAt := goodIn_r _ [20, 21, 22, 44, 45, 46, 47, 48, 49, 50, 51, 52] (by decide +kernel) (by decide +kernel)
set_option maxRecDepth 20000 in
theorem gX2_casesOfGoing_X3_waitingAt : GoodIn wsX2_casesOfGoing (wsV RX2 36 RX3 yX3_waitingAt wsX3_waitingAt) := goodIn_app (goodIn_of _ (by decide +kernel)) ggX2_casesOfGoing_X3_waitingAt
set_option maxRecDepth 20000 in
theorem ggX2_casesOfGoing_X3_nobodies : GoodIn wsX2_casesOfGoing wsX3_nobodies := goodIn_r _ [26, 21, 27, 44, 45, 46, 47, 48, 49, 50, 51, 52] (by decide +kernel) (by decide +kernel)
set_option maxRecDepth 20000 in
theorem gX2_casesOfGoing_X3_nobodies : GoodIn wsX2_casesOfGoing (wsV RX2 83 RX3 yX3_nobodies wsX3_nobodies) := goodIn_app (goodIn_of _ (by decide +kernel)) ggX2_casesOfGoing_X3_nobodies
set_option maxRecDepth 20000 in
theorem ggX2_casesOfGoing_X4_first : GoodIn wsX2_casesOfGoing wsX4_first := goodIn_r _ [31, 32, 33, 34, 5, 35, 7, 43] (by decide +kernel) (by decide +kernel)
set_option maxRecDepth 20000 in
theorem gX2_casesOfGoing_X4_first : GoodIn wsX2_casesOfGoing (wsV RX2 143 RX4 yX4_first wsX4_first) := goodIn_app (goodIn_of _ (by decide +kernel)) ggX2_casesOfGoing_X4_first
set_option maxRecDepth 20000 in
theorem ggX2_casesOfGoing_X2_casesOf : GoodIn wsX2_casesOfGoing wsX2_casesOf := goodIn_r _ [39] (by decide +kernel) (by decide +kernel)
set_option maxRecDepth 20000 in
theorem gX2_casesOfGoing_X2_casesOf : GoodIn wsX2_casesOfGoing (va_wsS RX2 147 yX2_casesOf wsX2_casesOf) := goodIn_app (goodIn_of _ (by decide +kernel)) ggX2_casesOfGoing_X2_casesOf
theorem dX2_casesOfGoing_0 : decode cX2_casesOfGoing 0 = .ok (.aload_n 0, 1) := by decide +kernel
theorem dX2_casesOfGoing_1 : decode cX2_casesOfGoing 1 = .ok (.getfield 21, 3) := by decide +kernel
theorem dX2_casesOfGoing_4 : decode cX2_casesOfGoing 4 = .ok (.aload_n 1, 1) := by decide +kernel
theorem dX2_casesOfGoing_5 : decode cX2_casesOfGoing 5 = .ok (.invokevirtual 32, 3) := by decide +kernel
theorem dX2_casesOfGoing_8 : decode cX2_casesOfGoing 8 = .ok (.aload_n 1, 1) := by decide +kernel
theorem dX2_casesOfGoing_9 : decode cX2_casesOfGoing 9 = .ok (.iload_n 2, 1) := by decide +kernel
theorem dX2_casesOfGoing_10 : decode cX2_casesOfGoing 10 = .ok (.invokevirtual 36, 3) := by decide +kernel
theorem dX2_casesOfGoing_13 : decode cX2_casesOfGoing 13 = .ok (.istore 4, 2) := by decide +kernel
theorem dX2_casesOfGoing_15 : decode cX2_casesOfGoing 15 = .ok (.aload_n 1, 1) := by decide +kernel
theorem dX2_casesOfGoing_16 : decode cX2_casesOfGoing 16 = .ok (.invokevirtual 83, 3) := by decide +kernel
theorem dX2_casesOfGoing_19 : decode cX2_casesOfGoing 19 = .ok (.istore 5, 2) := by decide +kernel
theorem dX2_casesOfGoing_21 : decode cX2_casesOfGoing 21 = .ok (.lconst 0, 1) := by decide +kernel
theorem dX2_casesOfGoing_22 : decode cX2_casesOfGoing 22 = .ok (.lstore 6, 2) := by decide +kernel
theorem dX2_casesOfGoing_24 : decode cX2_casesOfGoing 24 = .ok (.iconst 1, 1) := by decide +kernel
theorem dX2_casesOfGoing_25 : decode cX2_casesOfGoing 25 = .ok (.istore 8, 2) := by decide +kernel
theorem dX2_casesOfGoing_27 : decode cX2_casesOfGoing 27 = .ok (.iload 8, 2) := by decide +kernel
theorem dX2_casesOfGoing_29 : decode cX2_casesOfGoing 29 = .ok (.sipush 128, 3) := by decide +kernel
theorem dX2_casesOfGoing_32 : decode cX2_casesOfGoing 32 = .ok (.if_icmp .ge 47, 3) := by decide +kernel
theorem dX2_casesOfGoing_35 : decode cX2_casesOfGoing 35 = .ok (.iload 8, 2) := by decide +kernel
theorem dX2_casesOfGoing_37 : decode cX2_casesOfGoing 37 = .ok (.iload 4, 2) := by decide +kernel
theorem dX2_casesOfGoing_39 : decode cX2_casesOfGoing 39 = .ok (.iconst (-1), 1) := by decide +kernel
theorem dX2_casesOfGoing_40 : decode cX2_casesOfGoing 40 = .ok (.ixor, 1) := by decide +kernel
theorem dX2_casesOfGoing_41 : decode cX2_casesOfGoing 41 = .ok (.iand, 1) := by decide +kernel
theorem dX2_casesOfGoing_42 : decode cX2_casesOfGoing 42 = .ok (.ifCond .ne 31, 3) := by decide +kernel
theorem dX2_casesOfGoing_45 : decode cX2_casesOfGoing 45 = .ok (.aload_n 0, 1) := by decide +kernel
theorem dX2_casesOfGoing_46 : decode cX2_casesOfGoing 46 = .ok (.getfield 21, 3) := by decide +kernel
theorem dX2_casesOfGoing_49 : decode cX2_casesOfGoing 49 = .ok (.iload 8, 2) := by decide +kernel
theorem dX2_casesOfGoing_51 : decode cX2_casesOfGoing 51 = .ok (.iload 5, 2) := by decide +kernel
theorem dX2_casesOfGoing_53 : decode cX2_casesOfGoing 53 = .ok (.invokevirtual 143, 3) := by decide +kernel
theorem dX2_casesOfGoing_56 : decode cX2_casesOfGoing 56 = .ok (.iconst (-1), 1) := by decide +kernel
theorem dX2_casesOfGoing_57 : decode cX2_casesOfGoing 57 = .ok (.if_icmp .eq 16, 3) := by decide +kernel
theorem dX2_casesOfGoing_60 : decode cX2_casesOfGoing 60 = .ok (.lload 6, 2) := by decide +kernel
theorem dX2_casesOfGoing_62 : decode cX2_casesOfGoing 62 = .ok (.iload 4, 2) := by decide +kernel
theorem dX2_casesOfGoing_64 : decode cX2_casesOfGoing 64 = .ok (.iload 8, 2) := by decide +kernel
theorem dX2_casesOfGoing_66 : decode cX2_casesOfGoing 66 = .ok (.iload_n 3, 1) := by decide +kernel
theorem dX2_casesOfGoing_67 : decode cX2_casesOfGoing 67 = .ok (.invokestatic 147, 3) := by decide +kernel
theorem dX2_casesOfGoing_70 : decode cX2_casesOfGoing 70 = .ok (.ladd, 1) := by decide +kernel
theorem dX2_casesOfGoing_71 : decode cX2_casesOfGoing 71 = .ok (.lstore 6, 2) := by decide +kernel
theorem dX2_casesOfGoing_73 : decode cX2_casesOfGoing 73 = .ok (.iinc 8 1, 3) := by decide +kernel
theorem dX2_casesOfGoing_76 : decode cX2_casesOfGoing 76 = .ok (.goto (-49), 3) := by decide +kernel
theorem dX2_casesOfGoing_79 : decode cX2_casesOfGoing 79 = .ok (.lload 6, 2) := by decide +kernel
theorem dX2_casesOfGoing_81 : decode cX2_casesOfGoing 81 = .ok (.lreturn, 1) := by decide +kernel
theorem dX2_casesOf_0 : decode cX2_casesOf 0 = .ok (.lconst 1, 1) := by decide +kernel
theorem dX2_casesOf_1 : decode cX2_casesOf 1 = .ok (.lstore_n 3, 1) := by decide +kernel
theorem dX2_casesOf_2 : decode cX2_casesOf 2 = .ok (.iconst 0, 1) := by decide +kernel
theorem dX2_casesOf_3 : decode cX2_casesOf 3 = .ok (.istore 5, 2) := by decide +kernel
theorem dX2_casesOf_5 : decode cX2_casesOf 5 = .ok (.iload 5, 2) := by decide +kernel
theorem dX2_casesOf_7 : decode cX2_casesOf 7 = .ok (.bipush 7, 2) := by decide +kernel
theorem dX2_casesOf_9 : decode cX2_casesOf 9 = .ok (.if_icmp .ge 40, 3) := by decide +kernel
theorem dX2_casesOf_12 : decode cX2_casesOf 12 = .ok (.iload_n 0, 1) := by decide +kernel
theorem dX2_casesOf_13 : decode cX2_casesOf 13 = .ok (.iload 5, 2) := by decide +kernel
theorem dX2_casesOf_15 : decode cX2_casesOf 15 = .ok (.ishr, 1) := by decide +kernel
theorem dX2_casesOf_16 : decode cX2_casesOf 16 = .ok (.iconst 1, 1) := by decide +kernel
theorem dX2_casesOf_17 : decode cX2_casesOf 17 = .ok (.iand, 1) := by decide +kernel
theorem dX2_casesOf_18 : decode cX2_casesOf 18 = .ok (.ifCond .eq 25, 3) := by decide +kernel
theorem dX2_casesOf_21 : decode cX2_casesOf 21 = .ok (.lload_n 3, 1) := by decide +kernel
theorem dX2_casesOf_22 : decode cX2_casesOf 22 = .ok (.iload_n 1, 1) := by decide +kernel
theorem dX2_casesOf_23 : decode cX2_casesOf 23 = .ok (.iload 5, 2) := by decide +kernel
theorem dX2_casesOf_25 : decode cX2_casesOf 25 = .ok (.ishr, 1) := by decide +kernel
theorem dX2_casesOf_26 : decode cX2_casesOf 26 = .ok (.iconst 1, 1) := by decide +kernel
theorem dX2_casesOf_27 : decode cX2_casesOf 27 = .ok (.iand, 1) := by decide +kernel
theorem dX2_casesOf_28 : decode cX2_casesOf 28 = .ok (.ifCond .eq 11, 3) := by decide +kernel
theorem dX2_casesOf_31 : decode cX2_casesOf 31 = .ok (.bipush 10, 2) := by decide +kernel
theorem dX2_casesOf_33 : decode cX2_casesOf 33 = .ok (.iload_n 2, 1) := by decide +kernel
theorem dX2_casesOf_34 : decode cX2_casesOf 34 = .ok (.isub, 1) := by decide +kernel
theorem dX2_casesOf_35 : decode cX2_casesOf 35 = .ok (.i2l, 1) := by decide +kernel
theorem dX2_casesOf_36 : decode cX2_casesOf 36 = .ok (.goto 5, 3) := by decide +kernel
theorem dX2_casesOf_39 : decode cX2_casesOf 39 = .ok (.iload_n 2, 1) := by decide +kernel
theorem dX2_casesOf_40 : decode cX2_casesOf 40 = .ok (.i2l, 1) := by decide +kernel
theorem dX2_casesOf_41 : decode cX2_casesOf 41 = .ok (.lmul, 1) := by decide +kernel
theorem dX2_casesOf_42 : decode cX2_casesOf 42 = .ok (.lstore_n 3, 1) := by decide +kernel
theorem dX2_casesOf_43 : decode cX2_casesOf 43 = .ok (.iinc 5 1, 3) := by decide +kernel
theorem dX2_casesOf_46 : decode cX2_casesOf 46 = .ok (.goto (-41), 3) := by decide +kernel
theorem dX2_casesOf_49 : decode cX2_casesOf 49 = .ok (.lload_n 3, 1) := by decide +kernel
theorem dX2_casesOf_50 : decode cX2_casesOf 50 = .ok (.lreturn, 1) := by decide +kernel
set_option maxRecDepth 20000 in
theorem ggX2_daysByDraws_X3_become : GoodIn wsX2_daysByDraws wsX3_become := goodIn_r _ [9, 10, 11, 12, 13, 14, 15, 16, 17, 18, 19, 20, 21, 22, 71, 72, 73, 74, 75, 76, 77, 78, 79] (by decide +kernel) (by decide +kernel)
set_option maxRecDepth 20000 in
theorem gX2_daysByDraws_X3_become : GoodIn wsX2_daysByDraws (wsV RX2 105 RX3 yX3_become wsX3_become) := goodIn_app (goodIn_of _ (by decide +kernel)) ggX2_daysByDraws_X3_become
set_option maxRecDepth 20000 in
theorem ggX2_daysByDraws_X4_read : GoodIn wsX2_daysByDraws wsX4_read := goodIn_r _ [27, 28, 29, 30, 31, 32, 8, 33, 14, 19, 20, 80, 71, 72, 73, 74, 75, 76, 77, 78, 79] (by decide +kernel) (by decide +kernel)
set_option maxRecDepth 20000 in
theorem gX2_daysByDraws_X4_read : GoodIn wsX2_daysByDraws (wsV RX2 32 RX4 yX4_read wsX4_read) := goodIn_app (goodIn_of _ (by decide +kernel)) ggX2_daysByDraws_X4_read
set_option maxRecDepth 20000 in
theorem ggX2_daysByDraws_X2_draw : GoodIn wsX2_daysByDraws wsX2_draw := goodIn_r _ [38, 1, 39, 40, 41, 42, 43, 68, 69, 70, 71, 72, 73, 74, 75, 76, 77, 78, 79] (by decide +kernel) (by decide +kernel)
set_option maxRecDepth 20000 in
theorem gX2_daysByDraws_X2_draw : GoodIn wsX2_daysByDraws (wsV RX2 155 RX2 yX2_draw wsX2_draw) := goodIn_app (goodIn_of _ (by decide +kernel)) ggX2_daysByDraws_X2_draw
set_option maxRecDepth 20000 in
theorem ggX2_daysByDraws_X3_pass : GoodIn wsX2_daysByDraws wsX3_pass := goodIn_r _ [47, 10, 21, 22, 12, 48, 49, 50, 51, 13, 52, 53, 54, 8, 55, 56, 57, 58, 59, 60, 61, 62, 26, 63, 64, 65, 66, 67, 28, 71, 72, 73, 74, 75, 76, 77, 78, 79, 80] (by decide +kernel) (by decide +kernel)
set_option maxRecDepth 20000 in
theorem gX2_daysByDraws_X3_pass : GoodIn wsX2_daysByDraws (wsV RX2 159 RX3 yX3_pass wsX3_pass) := goodIn_app (goodIn_of _ (by decide +kernel)) ggX2_daysByDraws_X3_pass
theorem dX2_daysByDraws_0 : decode cX2_daysByDraws 0 = .ok (.aload_n 0, 1) := by decide +kernel
theorem dX2_daysByDraws_1 : decode cX2_daysByDraws 1 = .ok (.getfield 12, 3) := by decide +kernel
theorem dX2_daysByDraws_4 : decode cX2_daysByDraws 4 = .ok (.aload_n 1, 1) := by decide +kernel
theorem dX2_daysByDraws_5 : decode cX2_daysByDraws 5 = .ok (.invokevirtual 105, 3) := by decide +kernel
theorem dX2_daysByDraws_8 : decode cX2_daysByDraws 8 = .ok (.aload_n 0, 1) := by decide +kernel
theorem dX2_daysByDraws_9 : decode cX2_daysByDraws 9 = .ok (.getfield 21, 3) := by decide +kernel
theorem dX2_daysByDraws_12 : decode cX2_daysByDraws 12 = .ok (.aload_n 0, 1) := by decide +kernel
theorem dX2_daysByDraws_13 : decode cX2_daysByDraws 13 = .ok (.getfield 12, 3) := by decide +kernel
theorem dX2_daysByDraws_16 : decode cX2_daysByDraws 16 = .ok (.invokevirtual 32, 3) := by decide +kernel
theorem dX2_daysByDraws_19 : decode cX2_daysByDraws 19 = .ok (.iload_n 3, 1) := by decide +kernel
theorem dX2_daysByDraws_20 : decode cX2_daysByDraws 20 = .ok (.i2l, 1) := by decide +kernel
theorem dX2_daysByDraws_21 : decode cX2_daysByDraws 21 = .ok (.lstore 4, 2) := by decide +kernel
theorem dX2_daysByDraws_23 : decode cX2_daysByDraws 23 = .ok (.iconst 0, 1) := by decide +kernel
theorem dX2_daysByDraws_24 : decode cX2_daysByDraws 24 = .ok (.istore 6, 2) := by decide +kernel
theorem dX2_daysByDraws_26 : decode cX2_daysByDraws 26 = .ok (.iconst 0, 1) := by decide +kernel
theorem dX2_daysByDraws_27 : decode cX2_daysByDraws 27 = .ok (.istore 7, 2) := by decide +kernel
theorem dX2_daysByDraws_29 : decode cX2_daysByDraws 29 = .ok (.iload 7, 2) := by decide +kernel
theorem dX2_daysByDraws_31 : decode cX2_daysByDraws 31 = .ok (.iload_n 2, 1) := by decide +kernel
theorem dX2_daysByDraws_32 : decode cX2_daysByDraws 32 = .ok (.if_icmp .ge 43, 3) := by decide +kernel
theorem dX2_daysByDraws_35 : decode cX2_daysByDraws 35 = .ok (.lload 4, 2) := by decide +kernel
theorem dX2_daysByDraws_37 : decode cX2_daysByDraws 37 = .ok (.ldc2_w 151, 3) := by decide +kernel
theorem dX2_daysByDraws_40 : decode cX2_daysByDraws 40 = .ok (.lmul, 1) := by decide +kernel
theorem dX2_daysByDraws_41 : decode cX2_daysByDraws 41 = .ok (.ldc2_w 153, 3) := by decide +kernel
theorem dX2_daysByDraws_44 : decode cX2_daysByDraws 44 = .ok (.lrem, 1) := by decide +kernel
theorem dX2_daysByDraws_45 : decode cX2_daysByDraws 45 = .ok (.lstore 4, 2) := by decide +kernel
theorem dX2_daysByDraws_47 : decode cX2_daysByDraws 47 = .ok (.aload_n 0, 1) := by decide +kernel
theorem dX2_daysByDraws_48 : decode cX2_daysByDraws 48 = .ok (.lload 4, 2) := by decide +kernel
theorem dX2_daysByDraws_50 : decode cX2_daysByDraws 50 = .ok (.invokevirtual 155, 3) := by decide +kernel
theorem dX2_daysByDraws_53 : decode cX2_daysByDraws 53 = .ok (.iload 6, 2) := by decide +kernel
theorem dX2_daysByDraws_55 : decode cX2_daysByDraws 55 = .ok (.aload_n 0, 1) := by decide +kernel
theorem dX2_daysByDraws_56 : decode cX2_daysByDraws 56 = .ok (.getfield 12, 3) := by decide +kernel
theorem dX2_daysByDraws_59 : decode cX2_daysByDraws 59 = .ok (.aload_n 0, 1) := by decide +kernel
theorem dX2_daysByDraws_60 : decode cX2_daysByDraws 60 = .ok (.getfield 21, 3) := by decide +kernel
theorem dX2_daysByDraws_63 : decode cX2_daysByDraws 63 = .ok (.invokevirtual 159, 3) := by decide +kernel
theorem dX2_daysByDraws_66 : decode cX2_daysByDraws 66 = .ok (.iadd, 1) := by decide +kernel
theorem dX2_daysByDraws_67 : decode cX2_daysByDraws 67 = .ok (.istore 6, 2) := by decide +kernel
theorem dX2_daysByDraws_69 : decode cX2_daysByDraws 69 = .ok (.iinc 7 1, 3) := by decide +kernel
theorem dX2_daysByDraws_72 : decode cX2_daysByDraws 72 = .ok (.goto (-43), 3) := by decide +kernel
theorem dX2_daysByDraws_75 : decode cX2_daysByDraws 75 = .ok (.iload 6, 2) := by decide +kernel
theorem dX2_daysByDraws_77 : decode cX2_daysByDraws 77 = .ok (.ireturn, 1) := by decide +kernel
theorem dX2_draw_0 : decode cX2_draw 0 = .ok (.aload_n 0, 1) := by decide +kernel
theorem dX2_draw_1 : decode cX2_draw 1 = .ok (.getfield 12, 3) := by decide +kernel
theorem dX2_draw_4 : decode cX2_draw 4 = .ok (.getfield 77, 3) := by decide +kernel
theorem dX2_draw_7 : decode cX2_draw 7 = .ok (.iconst 1, 1) := by decide +kernel
theorem dX2_draw_8 : decode cX2_draw 8 = .ok (.if_icmp .lt 14, 3) := by decide +kernel
theorem dX2_draw_11 : decode cX2_draw 11 = .ok (.aload_n 0, 1) := by decide +kernel
theorem dX2_draw_12 : decode cX2_draw 12 = .ok (.getfield 12, 3) := by decide +kernel
theorem dX2_draw_15 : decode cX2_draw 15 = .ok (.getfield 61, 3) := by decide +kernel
theorem dX2_draw_18 : decode cX2_draw 18 = .ok (.iconst 1, 1) := by decide +kernel
theorem dX2_draw_19 : decode cX2_draw 19 = .ok (.if_icmp .ge 4, 3) := by decide +kernel
theorem dX2_draw_22 : decode cX2_draw 22 = .ok (.return_, 1) := by decide +kernel
theorem dX2_draw_23 : decode cX2_draw 23 = .ok (.lload_n 1, 1) := by decide +kernel
theorem dX2_draw_24 : decode cX2_draw 24 = .ok (.aload_n 0, 1) := by decide +kernel
theorem dX2_draw_25 : decode cX2_draw 25 = .ok (.getfield 12, 3) := by decide +kernel
theorem dX2_draw_28 : decode cX2_draw 28 = .ok (.getfield 77, 3) := by decide +kernel
theorem dX2_draw_31 : decode cX2_draw 31 = .ok (.i2l, 1) := by decide +kernel
theorem dX2_draw_32 : decode cX2_draw 32 = .ok (.lrem, 1) := by decide +kernel
theorem dX2_draw_33 : decode cX2_draw 33 = .ok (.l2i, 1) := by decide +kernel
theorem dX2_draw_34 : decode cX2_draw 34 = .ok (.istore_n 3, 1) := by decide +kernel
theorem dX2_draw_35 : decode cX2_draw 35 = .ok (.iload_n 3, 1) := by decide +kernel
theorem dX2_draw_36 : decode cX2_draw 36 = .ok (.ifCond .lt 9, 3) := by decide +kernel
theorem dX2_draw_39 : decode cX2_draw 39 = .ok (.iload_n 3, 1) := by decide +kernel
theorem dX2_draw_40 : decode cX2_draw 40 = .ok (.bipush 7, 2) := by decide +kernel
theorem dX2_draw_42 : decode cX2_draw 42 = .ok (.if_icmp .lt 4, 3) := by decide +kernel
theorem dX2_draw_45 : decode cX2_draw 45 = .ok (.return_, 1) := by decide +kernel
theorem dX2_draw_46 : decode cX2_draw 46 = .ok (.aload_n 0, 1) := by decide +kernel
theorem dX2_draw_47 : decode cX2_draw 47 = .ok (.getfield 12, 3) := by decide +kernel
theorem dX2_draw_50 : decode cX2_draw 50 = .ok (.getfield 51, 3) := by decide +kernel
theorem dX2_draw_53 : decode cX2_draw 53 = .ok (.iload_n 3, 1) := by decide +kernel
theorem dX2_draw_54 : decode cX2_draw 54 = .ok (.iaload, 1) := by decide +kernel
theorem dX2_draw_55 : decode cX2_draw 55 = .ok (.iconst (-1), 1) := by decide +kernel
theorem dX2_draw_56 : decode cX2_draw 56 = .ok (.if_icmp .ne 26, 3) := by decide +kernel
theorem dX2_draw_59 : decode cX2_draw 59 = .ok (.aload_n 0, 1) := by decide +kernel
theorem dX2_draw_60 : decode cX2_draw 60 = .ok (.getfield 12, 3) := by decide +kernel
theorem dX2_draw_63 : decode cX2_draw 63 = .ok (.getfield 51, 3) := by decide +kernel
theorem dX2_draw_66 : decode cX2_draw 66 = .ok (.iload_n 3, 1) := by decide +kernel
theorem dX2_draw_67 : decode cX2_draw 67 = .ok (.lload_n 1, 1) := by decide +kernel
theorem dX2_draw_68 : decode cX2_draw 68 = .ok (.aload_n 0, 1) := by decide +kernel
theorem dX2_draw_69 : decode cX2_draw 69 = .ok (.getfield 12, 3) := by decide +kernel
theorem dX2_draw_72 : decode cX2_draw 72 = .ok (.getfield 61, 3) := by decide +kernel
theorem dX2_draw_75 : decode cX2_draw 75 = .ok (.i2l, 1) := by decide +kernel
theorem dX2_draw_76 : decode cX2_draw 76 = .ok (.lrem, 1) := by decide +kernel
theorem dX2_draw_77 : decode cX2_draw 77 = .ok (.l2i, 1) := by decide +kernel
theorem dX2_draw_78 : decode cX2_draw 78 = .ok (.iastore, 1) := by decide +kernel
theorem dX2_draw_79 : decode cX2_draw 79 = .ok (.goto 19, 3) := by decide +kernel
theorem dX2_draw_82 : decode cX2_draw 82 = .ok (.aload_n 0, 1) := by decide +kernel
theorem dX2_draw_83 : decode cX2_draw 83 = .ok (.getfield 12, 3) := by decide +kernel
theorem dX2_draw_86 : decode cX2_draw 86 = .ok (.getfield 163, 3) := by decide +kernel
theorem dX2_draw_89 : decode cX2_draw 89 = .ok (.iload_n 3, 1) := by decide +kernel
theorem dX2_draw_90 : decode cX2_draw 90 = .ok (.aload_n 0, 1) := by decide +kernel
theorem dX2_draw_91 : decode cX2_draw 91 = .ok (.getfield 12, 3) := by decide +kernel
theorem dX2_draw_94 : decode cX2_draw 94 = .ok (.getfield 102, 3) := by decide +kernel
theorem dX2_draw_97 : decode cX2_draw 97 = .ok (.iastore, 1) := by decide +kernel
theorem dX2_draw_98 : decode cX2_draw 98 = .ok (.return_, 1) := by decide +kernel
theorem dX3_init_0 : decode cX3_init 0 = .ok (.aload_n 0, 1) := by decide +kernel
theorem dX3_init_1 : decode cX3_init 1 = .ok (.invokespecial 3, 3) := by decide +kernel
theorem dX3_init_4 : decode cX3_init 4 = .ok (.aload_n 0, 1) := by decide +kernel
theorem dX3_init_5 : decode cX3_init 5 = .ok (.iconst 0, 1) := by decide +kernel
theorem dX3_init_6 : decode cX3_init 6 = .ok (.putfield 9, 3) := by decide +kernel
theorem dX3_init_9 : decode cX3_init 9 = .ok (.aload_n 0, 1) := by decide +kernel
theorem dX3_init_10 : decode cX3_init 10 = .ok (.iconst 0, 1) := by decide +kernel
theorem dX3_init_11 : decode cX3_init 11 = .ok (.putfield 15, 3) := by decide +kernel
theorem dX3_init_14 : decode cX3_init 14 = .ok (.aload_n 0, 1) := by decide +kernel
theorem dX3_init_15 : decode cX3_init 15 = .ok (.iconst 0, 1) := by decide +kernel
theorem dX3_init_16 : decode cX3_init 16 = .ok (.putfield 18, 3) := by decide +kernel
theorem dX3_init_19 : decode cX3_init 19 = .ok (.aload_n 0, 1) := by decide +kernel
theorem dX3_init_20 : decode cX3_init 20 = .ok (.iconst 0, 1) := by decide +kernel
theorem dX3_init_21 : decode cX3_init 21 = .ok (.putfield 21, 3) := by decide +kernel
theorem dX3_init_24 : decode cX3_init 24 = .ok (.aload_n 0, 1) := by decide +kernel
theorem dX3_init_25 : decode cX3_init 25 = .ok (.bipush 7, 2) := by decide +kernel
theorem dX3_init_27 : decode cX3_init 27 = .ok (.newarray .int, 2) := by decide +kernel
theorem dX3_init_29 : decode cX3_init 29 = .ok (.putfield 24, 3) := by decide +kernel
theorem dX3_init_32 : decode cX3_init 32 = .ok (.aload_n 0, 1) := by decide +kernel
theorem dX3_init_33 : decode cX3_init 33 = .ok (.bipush 7, 2) := by decide +kernel
theorem dX3_init_35 : decode cX3_init 35 = .ok (.newarray .int, 2) := by decide +kernel
theorem dX3_init_37 : decode cX3_init 37 = .ok (.putfield 28, 3) := by decide +kernel
theorem dX3_init_40 : decode cX3_init 40 = .ok (.aload_n 0, 1) := by decide +kernel
theorem dX3_init_41 : decode cX3_init 41 = .ok (.bipush 7, 2) := by decide +kernel
theorem dX3_init_43 : decode cX3_init 43 = .ok (.newarray .int, 2) := by decide +kernel
theorem dX3_init_45 : decode cX3_init 45 = .ok (.putfield 31, 3) := by decide +kernel
theorem dX3_init_48 : decode cX3_init 48 = .ok (.aload_n 0, 1) := by decide +kernel
theorem dX3_init_49 : decode cX3_init 49 = .ok (.bipush 7, 2) := by decide +kernel
theorem dX3_init_51 : decode cX3_init 51 = .ok (.newarray .int, 2) := by decide +kernel
theorem dX3_init_53 : decode cX3_init 53 = .ok (.putfield 34, 3) := by decide +kernel
theorem dX3_init_56 : decode cX3_init 56 = .ok (.aload_n 0, 1) := by decide +kernel
theorem dX3_init_57 : decode cX3_init 57 = .ok (.bipush 7, 2) := by decide +kernel
theorem dX3_init_59 : decode cX3_init 59 = .ok (.newarray .int, 2) := by decide +kernel
theorem dX3_init_61 : decode cX3_init 61 = .ok (.putfield 37, 3) := by decide +kernel
theorem dX3_init_64 : decode cX3_init 64 = .ok (.return_, 1) := by decide +kernel
set_option maxRecDepth 20000 in
theorem ggX3_isOneOf_X8_within : GoodIn wsX3_isOneOf wsX8_within := goodIn_r _ [4] (by decide +kernel) (by decide +kernel)
set_option maxRecDepth 20000 in
theorem gX3_isOneOf_X8_within_n40 : GoodIn wsX3_isOneOf (wsX8_within) := ggX3_isOneOf_X8_within
theorem dX3_isOneOf_0 : decode cX3_isOneOf 0 = .ok (.iload_n 0, 1) := by decide +kernel
theorem dX3_isOneOf_1 : decode cX3_isOneOf 1 = .ok (.iconst 0, 1) := by decide +kernel
theorem dX3_isOneOf_2 : decode cX3_isOneOf 2 = .ok (.iconst 5, 1) := by decide +kernel
theorem dX3_isOneOf_3 : decode cX3_isOneOf 3 = .ok (.invokestatic 40, 3) := by decide +kernel
theorem dX3_isOneOf_6 : decode cX3_isOneOf 6 = .ok (.ifCond .eq 19, 3) := by decide +kernel
theorem dX3_isOneOf_9 : decode cX3_isOneOf 9 = .ok (.getstatic 44, 3) := by decide +kernel
theorem dX3_isOneOf_12 : decode cX3_isOneOf 12 = .ok (.iload_n 0, 1) := by decide +kernel
theorem dX3_isOneOf_13 : decode cX3_isOneOf 13 = .ok (.iaload, 1) := by decide +kernel
theorem dX3_isOneOf_14 : decode cX3_isOneOf 14 = .ok (.iload_n 1, 1) := by decide +kernel
theorem dX3_isOneOf_15 : decode cX3_isOneOf 15 = .ok (.ishr, 1) := by decide +kernel
theorem dX3_isOneOf_16 : decode cX3_isOneOf 16 = .ok (.iconst 1, 1) := by decide +kernel
theorem dX3_isOneOf_17 : decode cX3_isOneOf 17 = .ok (.iand, 1) := by decide +kernel
theorem dX3_isOneOf_18 : decode cX3_isOneOf 18 = .ok (.ifCond .eq 7, 3) := by decide +kernel
theorem dX3_isOneOf_21 : decode cX3_isOneOf 21 = .ok (.iconst 1, 1) := by decide +kernel
theorem dX3_isOneOf_22 : decode cX3_isOneOf 22 = .ok (.goto 4, 3) := by decide +kernel
theorem dX3_isOneOf_25 : decode cX3_isOneOf 25 = .ok (.iconst 0, 1) := by decide +kernel
theorem dX3_isOneOf_26 : decode cX3_isOneOf 26 = .ok (.ireturn, 1) := by decide +kernel
theorem dX3_become_0 : decode cX3_become 0 = .ok (.aload_n 0, 1) := by decide +kernel
theorem dX3_become_1 : decode cX3_become 1 = .ok (.aload_n 1, 1) := by decide +kernel
theorem dX3_become_2 : decode cX3_become 2 = .ok (.getfield 9, 3) := by decide +kernel
theorem dX3_become_5 : decode cX3_become 5 = .ok (.putfield 9, 3) := by decide +kernel
theorem dX3_become_8 : decode cX3_become 8 = .ok (.aload_n 0, 1) := by decide +kernel
theorem dX3_become_9 : decode cX3_become 9 = .ok (.aload_n 1, 1) := by decide +kernel
theorem dX3_become_10 : decode cX3_become 10 = .ok (.getfield 15, 3) := by decide +kernel
theorem dX3_become_13 : decode cX3_become 13 = .ok (.putfield 15, 3) := by decide +kernel
theorem dX3_become_16 : decode cX3_become 16 = .ok (.aload_n 0, 1) := by decide +kernel
theorem dX3_become_17 : decode cX3_become 17 = .ok (.aload_n 1, 1) := by decide +kernel
theorem dX3_become_18 : decode cX3_become 18 = .ok (.getfield 18, 3) := by decide +kernel
theorem dX3_become_21 : decode cX3_become 21 = .ok (.putfield 18, 3) := by decide +kernel
theorem dX3_become_24 : decode cX3_become 24 = .ok (.aload_n 0, 1) := by decide +kernel
theorem dX3_become_25 : decode cX3_become 25 = .ok (.aload_n 1, 1) := by decide +kernel
theorem dX3_become_26 : decode cX3_become 26 = .ok (.getfield 21, 3) := by decide +kernel
theorem dX3_become_29 : decode cX3_become 29 = .ok (.putfield 21, 3) := by decide +kernel
theorem dX3_become_32 : decode cX3_become 32 = .ok (.aload_n 1, 1) := by decide +kernel
theorem dX3_become_33 : decode cX3_become 33 = .ok (.getfield 24, 3) := by decide +kernel
theorem dX3_become_36 : decode cX3_become 36 = .ok (.iconst 0, 1) := by decide +kernel
theorem dX3_become_37 : decode cX3_become 37 = .ok (.aload_n 0, 1) := by decide +kernel
theorem dX3_become_38 : decode cX3_become 38 = .ok (.getfield 24, 3) := by decide +kernel
theorem dX3_become_41 : decode cX3_become 41 = .ok (.iconst 0, 1) := by decide +kernel
theorem dX3_become_42 : decode cX3_become 42 = .ok (.bipush 7, 2) := by decide +kernel
theorem dX3_become_44 : decode cX3_become 44 = .ok (.invokestatic 47, 3) := by decide +kernel
theorem dX3_become_47 : decode cX3_become 47 = .ok (.aload_n 1, 1) := by decide +kernel
theorem dX3_become_48 : decode cX3_become 48 = .ok (.getfield 28, 3) := by decide +kernel
theorem dX3_become_51 : decode cX3_become 51 = .ok (.iconst 0, 1) := by decide +kernel
theorem dX3_become_52 : decode cX3_become 52 = .ok (.aload_n 0, 1) := by decide +kernel
theorem dX3_become_53 : decode cX3_become 53 = .ok (.getfield 28, 3) := by decide +kernel
theorem dX3_become_56 : decode cX3_become 56 = .ok (.iconst 0, 1) := by decide +kernel
theorem dX3_become_57 : decode cX3_become 57 = .ok (.bipush 7, 2) := by decide +kernel
theorem dX3_become_59 : decode cX3_become 59 = .ok (.invokestatic 47, 3) := by decide +kernel
theorem dX3_become_62 : decode cX3_become 62 = .ok (.aload_n 1, 1) := by decide +kernel
theorem dX3_become_63 : decode cX3_become 63 = .ok (.getfield 31, 3) := by decide +kernel
theorem dX3_become_66 : decode cX3_become 66 = .ok (.iconst 0, 1) := by decide +kernel
theorem dX3_become_67 : decode cX3_become 67 = .ok (.aload_n 0, 1) := by decide +kernel
theorem dX3_become_68 : decode cX3_become 68 = .ok (.getfield 31, 3) := by decide +kernel
theorem dX3_become_71 : decode cX3_become 71 = .ok (.iconst 0, 1) := by decide +kernel
theorem dX3_become_72 : decode cX3_become 72 = .ok (.bipush 7, 2) := by decide +kernel
theorem dX3_become_74 : decode cX3_become 74 = .ok (.invokestatic 47, 3) := by decide +kernel
theorem dX3_become_77 : decode cX3_become 77 = .ok (.aload_n 1, 1) := by decide +kernel
theorem dX3_become_78 : decode cX3_become 78 = .ok (.getfield 34, 3) := by decide +kernel
theorem dX3_become_81 : decode cX3_become 81 = .ok (.iconst 0, 1) := by decide +kernel
theorem dX3_become_82 : decode cX3_become 82 = .ok (.aload_n 0, 1) := by decide +kernel
theorem dX3_become_83 : decode cX3_become 83 = .ok (.getfield 34, 3) := by decide +kernel
theorem dX3_become_86 : decode cX3_become 86 = .ok (.iconst 0, 1) := by decide +kernel
theorem dX3_become_87 : decode cX3_become 87 = .ok (.bipush 7, 2) := by decide +kernel
theorem dX3_become_89 : decode cX3_become 89 = .ok (.invokestatic 47, 3) := by decide +kernel
theorem dX3_become_92 : decode cX3_become 92 = .ok (.aload_n 1, 1) := by decide +kernel
theorem dX3_become_93 : decode cX3_become 93 = .ok (.getfield 37, 3) := by decide +kernel
theorem dX3_become_96 : decode cX3_become 96 = .ok (.iconst 0, 1) := by decide +kernel
theorem dX3_become_97 : decode cX3_become 97 = .ok (.aload_n 0, 1) := by decide +kernel
theorem dX3_become_98 : decode cX3_become 98 = .ok (.getfield 37, 3) := by decide +kernel
theorem dX3_become_101 : decode cX3_become 101 = .ok (.iconst 0, 1) := by decide +kernel
theorem dX3_become_102 : decode cX3_become 102 = .ok (.bipush 7, 2) := by decide +kernel
theorem dX3_become_104 : decode cX3_become 104 = .ok (.invokestatic 47, 3) := by decide +kernel
theorem dX3_become_107 : decode cX3_become 107 = .ok (.return_, 1) := by decide +kernel
theorem dX3_begin_0 : decode cX3_begin 0 = .ok (.aload_n 0, 1) := by decide +kernel
theorem dX3_begin_1 : decode cX3_begin 1 = .ok (.iload_n 1, 1) := by decide +kernel
theorem dX3_begin_2 : decode cX3_begin 2 = .ok (.putfield 9, 3) := by decide +kernel
theorem dX3_begin_5 : decode cX3_begin 5 = .ok (.aload_n 0, 1) := by decide +kernel
theorem dX3_begin_6 : decode cX3_begin 6 = .ok (.iload_n 2, 1) := by decide +kernel
theorem dX3_begin_7 : decode cX3_begin 7 = .ok (.putfield 15, 3) := by decide +kernel
theorem dX3_begin_10 : decode cX3_begin 10 = .ok (.aload_n 0, 1) := by decide +kernel
theorem dX3_begin_11 : decode cX3_begin 11 = .ok (.iconst 0, 1) := by decide +kernel
theorem dX3_begin_12 : decode cX3_begin 12 = .ok (.putfield 18, 3) := by decide +kernel
theorem dX3_begin_15 : decode cX3_begin 15 = .ok (.aload_n 0, 1) := by decide +kernel
theorem dX3_begin_16 : decode cX3_begin 16 = .ok (.iconst 0, 1) := by decide +kernel
theorem dX3_begin_17 : decode cX3_begin 17 = .ok (.putfield 21, 3) := by decide +kernel
theorem dX3_begin_20 : decode cX3_begin 20 = .ok (.return_, 1) := by decide +kernel
theorem dX3_admit_0 : decode cX3_admit 0 = .ok (.aload_n 0, 1) := by decide +kernel
theorem dX3_admit_1 : decode cX3_admit 1 = .ok (.getfield 18, 3) := by decide +kernel
theorem dX3_admit_4 : decode cX3_admit 4 = .ok (.bipush 7, 2) := by decide +kernel
theorem dX3_admit_6 : decode cX3_admit 6 = .ok (.if_icmp .lt 4, 3) := by decide +kernel
theorem dX3_admit_9 : decode cX3_admit 9 = .ok (.return_, 1) := by decide +kernel
theorem dX3_admit_10 : decode cX3_admit 10 = .ok (.aload_n 0, 1) := by decide +kernel
theorem dX3_admit_11 : decode cX3_admit 11 = .ok (.getfield 24, 3) := by decide +kernel
theorem dX3_admit_14 : decode cX3_admit 14 = .ok (.aload_n 0, 1) := by decide +kernel
theorem dX3_admit_15 : decode cX3_admit 15 = .ok (.getfield 18, 3) := by decide +kernel
theorem dX3_admit_18 : decode cX3_admit 18 = .ok (.iload_n 1, 1) := by decide +kernel
theorem dX3_admit_19 : decode cX3_admit 19 = .ok (.iastore, 1) := by decide +kernel
theorem dX3_admit_20 : decode cX3_admit 20 = .ok (.aload_n 0, 1) := by decide +kernel
theorem dX3_admit_21 : decode cX3_admit 21 = .ok (.getfield 28, 3) := by decide +kernel
theorem dX3_admit_24 : decode cX3_admit 24 = .ok (.aload_n 0, 1) := by decide +kernel
theorem dX3_admit_25 : decode cX3_admit 25 = .ok (.getfield 18, 3) := by decide +kernel
theorem dX3_admit_28 : decode cX3_admit 28 = .ok (.iload_n 2, 1) := by decide +kernel
theorem dX3_admit_29 : decode cX3_admit 29 = .ok (.iastore, 1) := by decide +kernel
theorem dX3_admit_30 : decode cX3_admit 30 = .ok (.aload_n 0, 1) := by decide +kernel
theorem dX3_admit_31 : decode cX3_admit 31 = .ok (.getfield 31, 3) := by decide +kernel
theorem dX3_admit_34 : decode cX3_admit 34 = .ok (.aload_n 0, 1) := by decide +kernel
theorem dX3_admit_35 : decode cX3_admit 35 = .ok (.getfield 18, 3) := by decide +kernel
theorem dX3_admit_38 : decode cX3_admit 38 = .ok (.iload_n 3, 1) := by decide +kernel
theorem dX3_admit_39 : decode cX3_admit 39 = .ok (.iastore, 1) := by decide +kernel
theorem dX3_admit_40 : decode cX3_admit 40 = .ok (.aload_n 0, 1) := by decide +kernel
theorem dX3_admit_41 : decode cX3_admit 41 = .ok (.getfield 34, 3) := by decide +kernel
theorem dX3_admit_44 : decode cX3_admit 44 = .ok (.aload_n 0, 1) := by decide +kernel
theorem dX3_admit_45 : decode cX3_admit 45 = .ok (.getfield 18, 3) := by decide +kernel
theorem dX3_admit_48 : decode cX3_admit 48 = .ok (.iload 4, 2) := by decide +kernel
theorem dX3_admit_50 : decode cX3_admit 50 = .ok (.iastore, 1) := by decide +kernel
theorem dX3_admit_51 : decode cX3_admit 51 = .ok (.aload_n 0, 1) := by decide +kernel
theorem dX3_admit_52 : decode cX3_admit 52 = .ok (.getfield 37, 3) := by decide +kernel
theorem dX3_admit_55 : decode cX3_admit 55 = .ok (.aload_n 0, 1) := by decide +kernel
theorem dX3_admit_56 : decode cX3_admit 56 = .ok (.getfield 18, 3) := by decide +kernel
theorem dX3_admit_59 : decode cX3_admit 59 = .ok (.iconst 0, 1) := by decide +kernel
theorem dX3_admit_60 : decode cX3_admit 60 = .ok (.iastore, 1) := by decide +kernel
theorem dX3_admit_61 : decode cX3_admit 61 = .ok (.aload_n 0, 1) := by decide +kernel
theorem dX3_admit_62 : decode cX3_admit 62 = .ok (.dup, 1) := by decide +kernel
theorem dX3_admit_63 : decode cX3_admit 63 = .ok (.getfield 18, 3) := by decide +kernel
theorem dX3_admit_66 : decode cX3_admit 66 = .ok (.iconst 1, 1) := by decide +kernel
theorem dX3_admit_67 : decode cX3_admit 67 = .ok (.iadd, 1) := by decide +kernel
theorem dX3_admit_68 : decode cX3_admit 68 = .ok (.putfield 18, 3) := by decide +kernel
theorem dX3_admit_71 : decode cX3_admit 71 = .ok (.return_, 1) := by decide +kernel
theorem dX3_waitingAt_0 : decode cX3_waitingAt 0 = .ok (.iconst 0, 1) := by decide +kernel
theorem dX3_waitingAt_1 : decode cX3_waitingAt 1 = .ok (.istore_n 2, 1) := by decide +kernel
theorem dX3_waitingAt_2 : decode cX3_waitingAt 2 = .ok (.iconst 0, 1) := by decide +kernel
theorem dX3_waitingAt_3 : decode cX3_waitingAt 3 = .ok (.istore_n 3, 1) := by decide +kernel
theorem dX3_waitingAt_4 : decode cX3_waitingAt 4 = .ok (.iload_n 3, 1) := by decide +kernel
theorem dX3_waitingAt_5 : decode cX3_waitingAt 5 = .ok (.aload_n 0, 1) := by decide +kernel
theorem dX3_waitingAt_6 : decode cX3_waitingAt 6 = .ok (.getfield 18, 3) := by decide +kernel
theorem dX3_waitingAt_9 : decode cX3_waitingAt 9 = .ok (.if_icmp .ge 25, 3) := by decide +kernel
theorem dX3_waitingAt_12 : decode cX3_waitingAt 12 = .ok (.aload_n 0, 1) := by decide +kernel
theorem dX3_waitingAt_13 : decode cX3_waitingAt 13 = .ok (.getfield 34, 3) := by decide +kernel
theorem dX3_waitingAt_16 : decode cX3_waitingAt 16 = .ok (.iload_n 3, 1) := by decide +kernel
theorem dX3_waitingAt_17 : decode cX3_waitingAt 17 = .ok (.iaload, 1) := by decide +kernel
theorem dX3_waitingAt_18 : decode cX3_waitingAt 18 = .ok (.iload_n 1, 1) := by decide +kernel
theorem dX3_waitingAt_19 : decode cX3_waitingAt 19 = .ok (.if_icmp .ne 9, 3) := by decide +kernel
theorem dX3_waitingAt_22 : decode cX3_waitingAt 22 = .ok (.iload_n 2, 1) := by decide +kernel
theorem dX3_waitingAt_23 : decode cX3_waitingAt 23 = .ok (.iconst 1, 1) := by decide +kernel
theorem dX3_waitingAt_24 : decode cX3_waitingAt 24 = .ok (.iload_n 3, 1) := by decide +kernel
theorem dX3_waitingAt_25 : decode cX3_waitingAt 25 = .ok (.ishl, 1) := by decide +kernel
theorem dX3_waitingAt_26 : decode cX3_waitingAt 26 = .ok (.ior, 1) := by decide +kernel
theorem dX3_waitingAt_27 : decode cX3_waitingAt 27 = .ok (.istore_n 2, 1) := by decide +kernel
theorem dX3_waitingAt_28 : decode cX3_waitingAt 28 = .ok (.iinc 3 1, 3) := by decide +kernel
theorem dX3_waitingAt_31 : decode cX3_waitingAt 31 = .ok (.goto (-27), 3) := by decide +kernel
theorem dX3_waitingAt_34 : decode cX3_waitingAt 34 = .ok (.iload_n 2, 1) := by decide +kernel
theorem dX3_waitingAt_35 : decode cX3_waitingAt 35 = .ok (.ireturn, 1) := by decide +kernel
theorem dX3_nobodies_0 : decode cX3_nobodies 0 = .ok (.iconst 0, 1) := by decide +kernel
theorem dX3_nobodies_1 : decode cX3_nobodies 1 = .ok (.istore_n 1, 1) := by decide +kernel
theorem dX3_nobodies_2 : decode cX3_nobodies 2 = .ok (.iconst 0, 1) := by decide +kernel
theorem dX3_nobodies_3 : decode cX3_nobodies 3 = .ok (.istore_n 2, 1) := by decide +kernel
theorem dX3_nobodies_4 : decode cX3_nobodies 4 = .ok (.iload_n 2, 1) := by decide +kernel
theorem dX3_nobodies_5 : decode cX3_nobodies 5 = .ok (.aload_n 0, 1) := by decide +kernel
theorem dX3_nobodies_6 : decode cX3_nobodies 6 = .ok (.getfield 18, 3) := by decide +kernel
theorem dX3_nobodies_9 : decode cX3_nobodies 9 = .ok (.if_icmp .ge 24, 3) := by decide +kernel
theorem dX3_nobodies_12 : decode cX3_nobodies 12 = .ok (.aload_n 0, 1) := by decide +kernel
theorem dX3_nobodies_13 : decode cX3_nobodies 13 = .ok (.getfield 37, 3) := by decide +kernel
theorem dX3_nobodies_16 : decode cX3_nobodies 16 = .ok (.iload_n 2, 1) := by decide +kernel
theorem dX3_nobodies_17 : decode cX3_nobodies 17 = .ok (.iaload, 1) := by decide +kernel
theorem dX3_nobodies_18 : decode cX3_nobodies 18 = .ok (.ifCond .le 9, 3) := by decide +kernel
theorem dX3_nobodies_21 : decode cX3_nobodies 21 = .ok (.iload_n 1, 1) := by decide +kernel
theorem dX3_nobodies_22 : decode cX3_nobodies 22 = .ok (.iconst 1, 1) := by decide +kernel
theorem dX3_nobodies_23 : decode cX3_nobodies 23 = .ok (.iload_n 2, 1) := by decide +kernel
theorem dX3_nobodies_24 : decode cX3_nobodies 24 = .ok (.ishl, 1) := by decide +kernel
theorem dX3_nobodies_25 : decode cX3_nobodies 25 = .ok (.ior, 1) := by decide +kernel
theorem dX3_nobodies_26 : decode cX3_nobodies 26 = .ok (.istore_n 1, 1) := by decide +kernel
theorem dX3_nobodies_27 : decode cX3_nobodies 27 = .ok (.iinc 2 1, 3) := by decide +kernel
theorem dX3_nobodies_30 : decode cX3_nobodies 30 = .ok (.goto (-26), 3) := by decide +kernel
theorem dX3_nobodies_33 : decode cX3_nobodies 33 = .ok (.iload_n 1, 1) := by decide +kernel
theorem dX3_nobodies_34 : decode cX3_nobodies 34 = .ok (.ireturn, 1) := by decide +kernel
theorem dX3_yields_0 : decode cX3_yields 0 = .ok (.aload_n 0, 1) := by decide +kernel
theorem dX3_yields_1 : decode cX3_yields 1 = .ok (.getfield 24, 3) := by decide +kernel
theorem dX3_yields_4 : decode cX3_yields 4 = .ok (.iload_n 1, 1) := by decide +kernel
theorem dX3_yields_5 : decode cX3_yields 5 = .ok (.iaload, 1) := by decide +kernel
theorem dX3_yields_6 : decode cX3_yields 6 = .ok (.tableswitch 99 1 5 #[34, 55, 76, 99, 78], 34) := by decide +kernel
theorem dX3_yields_40 : decode cX3_yields 40 = .ok (.aload_n 0, 1) := by decide +kernel
theorem dX3_yields_41 : decode cX3_yields 41 = .ok (.getfield 28, 3) := by decide +kernel
theorem dX3_yields_44 : decode cX3_yields 44 = .ok (.iload_n 2, 1) := by decide +kernel
theorem dX3_yields_45 : decode cX3_yields 45 = .ok (.iaload, 1) := by decide +kernel
theorem dX3_yields_46 : decode cX3_yields 46 = .ok (.aload_n 0, 1) := by decide +kernel
theorem dX3_yields_47 : decode cX3_yields 47 = .ok (.getfield 28, 3) := by decide +kernel
theorem dX3_yields_50 : decode cX3_yields 50 = .ok (.iload_n 1, 1) := by decide +kernel
theorem dX3_yields_51 : decode cX3_yields 51 = .ok (.iaload, 1) := by decide +kernel
theorem dX3_yields_52 : decode cX3_yields 52 = .ok (.if_icmp .le 7, 3) := by decide +kernel
theorem dX3_yields_55 : decode cX3_yields 55 = .ok (.iconst 1, 1) := by decide +kernel
theorem dX3_yields_56 : decode cX3_yields 56 = .ok (.goto 4, 3) := by decide +kernel
theorem dX3_yields_59 : decode cX3_yields 59 = .ok (.iconst 0, 1) := by decide +kernel
theorem dX3_yields_60 : decode cX3_yields 60 = .ok (.ireturn, 1) := by decide +kernel
theorem dX3_yields_61 : decode cX3_yields 61 = .ok (.aload_n 0, 1) := by decide +kernel
theorem dX3_yields_62 : decode cX3_yields 62 = .ok (.getfield 28, 3) := by decide +kernel
theorem dX3_yields_65 : decode cX3_yields 65 = .ok (.iload_n 2, 1) := by decide +kernel
theorem dX3_yields_66 : decode cX3_yields 66 = .ok (.iaload, 1) := by decide +kernel
theorem dX3_yields_67 : decode cX3_yields 67 = .ok (.aload_n 0, 1) := by decide +kernel
theorem dX3_yields_68 : decode cX3_yields 68 = .ok (.getfield 28, 3) := by decide +kernel
theorem dX3_yields_71 : decode cX3_yields 71 = .ok (.iload_n 1, 1) := by decide +kernel
theorem dX3_yields_72 : decode cX3_yields 72 = .ok (.iaload, 1) := by decide +kernel
theorem dX3_yields_73 : decode cX3_yields 73 = .ok (.if_icmp .lt 7, 3) := by decide +kernel
theorem dX3_yields_76 : decode cX3_yields 76 = .ok (.iconst 1, 1) := by decide +kernel
theorem dX3_yields_77 : decode cX3_yields 77 = .ok (.goto 4, 3) := by decide +kernel
theorem dX3_yields_80 : decode cX3_yields 80 = .ok (.iconst 0, 1) := by decide +kernel
theorem dX3_yields_81 : decode cX3_yields 81 = .ok (.ireturn, 1) := by decide +kernel
theorem dX3_yields_82 : decode cX3_yields 82 = .ok (.iconst 1, 1) := by decide +kernel
theorem dX3_yields_83 : decode cX3_yields 83 = .ok (.ireturn, 1) := by decide +kernel
theorem dX3_yields_84 : decode cX3_yields 84 = .ok (.aload_n 0, 1) := by decide +kernel
theorem dX3_yields_85 : decode cX3_yields 85 = .ok (.getfield 31, 3) := by decide +kernel
theorem dX3_yields_88 : decode cX3_yields 88 = .ok (.iload_n 2, 1) := by decide +kernel
theorem dX3_yields_89 : decode cX3_yields 89 = .ok (.iaload, 1) := by decide +kernel
theorem dX3_yields_90 : decode cX3_yields 90 = .ok (.aload_n 0, 1) := by decide +kernel
theorem dX3_yields_91 : decode cX3_yields 91 = .ok (.getfield 31, 3) := by decide +kernel
theorem dX3_yields_94 : decode cX3_yields 94 = .ok (.iload_n 1, 1) := by decide +kernel
theorem dX3_yields_95 : decode cX3_yields 95 = .ok (.iaload, 1) := by decide +kernel
theorem dX3_yields_96 : decode cX3_yields 96 = .ok (.if_icmp .le 7, 3) := by decide +kernel
theorem dX3_yields_99 : decode cX3_yields 99 = .ok (.iconst 1, 1) := by decide +kernel
theorem dX3_yields_100 : decode cX3_yields 100 = .ok (.goto 4, 3) := by decide +kernel
theorem dX3_yields_103 : decode cX3_yields 103 = .ok (.iconst 0, 1) := by decide +kernel
theorem dX3_yields_104 : decode cX3_yields 104 = .ok (.ireturn, 1) := by decide +kernel
theorem dX3_yields_105 : decode cX3_yields 105 = .ok (.iconst 0, 1) := by decide +kernel
theorem dX3_yields_106 : decode cX3_yields 106 = .ok (.ireturn, 1) := by decide +kernel
set_option maxRecDepth 20000 in
theorem ggX3_pass_X3_nobodies : GoodIn wsX3_pass wsX3_nobodies := goodIn_r _ [14, 4, 3, 29, 30, 31, 32, 33, 34, 35, 36, 37] (by decide +kernel) (by decide +kernel)
set_option maxRecDepth 20000 in
theorem gX3_pass_X3_nobodies : GoodIn wsX3_pass (wsV RX3 53 RX3 yX3_nobodies wsX3_nobodies) := goodIn_app (goodIn_of _ (by decide +kernel)) ggX3_pass_X3_nobodies
set_option maxRecDepth 20000 in
theorem ggX3_pass_X3_waitingAt : GoodIn wsX3_pass wsX3_waitingAt := goodIn_r _ [18, 4, 2, 29, 30, 31, 32, 33, 34, 35, 36, 37] (by decide +kernel) (by decide +kernel)
set_option maxRecDepth 20000 in
theorem gX3_pass_X3_waitingAt : GoodIn wsX3_pass (wsV RX3 57 RX3 yX3_waitingAt wsX3_waitingAt) := goodIn_app (goodIn_of _ (by decide +kernel)) ggX3_pass_X3_waitingAt
set_option maxRecDepth 20000 in
theorem ggX3_pass_X4_first : GoodIn wsX3_pass wsX4_first := goodIn_r _ [23, 24, 25, 26, 22, 27, 28, 38] (by decide +kernel) (by decide +kernel)
set_option maxRecDepth 20000 in
theorem gX3_pass_X4_first : GoodIn wsX3_pass (wsV RX3 61 RX4 yX4_first wsX4_first) := goodIn_app (goodIn_of _ (by decide +kernel)) ggX3_pass_X4_first
theorem dX3_pass_0 : decode cX3_pass 0 = .ok (.aload_n 0, 1) := by decide +kernel
theorem dX3_pass_1 : decode cX3_pass 1 = .ok (.invokevirtual 53, 3) := by decide +kernel
theorem dX3_pass_4 : decode cX3_pass 4 = .ok (.istore_n 2, 1) := by decide +kernel
theorem dX3_pass_5 : decode cX3_pass 5 = .ok (.iconst 0, 1) := by decide +kernel
theorem dX3_pass_6 : decode cX3_pass 6 = .ok (.istore_n 3, 1) := by decide +kernel
theorem dX3_pass_7 : decode cX3_pass 7 = .ok (.iconst 0, 1) := by decide +kernel
theorem dX3_pass_8 : decode cX3_pass 8 = .ok (.istore 4, 2) := by decide +kernel
theorem dX3_pass_10 : decode cX3_pass 10 = .ok (.iload 4, 2) := by decide +kernel
theorem dX3_pass_12 : decode cX3_pass 12 = .ok (.aload_n 0, 1) := by decide +kernel
theorem dX3_pass_13 : decode cX3_pass 13 = .ok (.getfield 9, 3) := by decide +kernel
theorem dX3_pass_16 : decode cX3_pass 16 = .ok (.if_icmp .ge 47, 3) := by decide +kernel
theorem dX3_pass_19 : decode cX3_pass 19 = .ok (.aload_n 1, 1) := by decide +kernel
theorem dX3_pass_20 : decode cX3_pass 20 = .ok (.aload_n 0, 1) := by decide +kernel
theorem dX3_pass_21 : decode cX3_pass 21 = .ok (.iload 4, 2) := by decide +kernel
theorem dX3_pass_23 : decode cX3_pass 23 = .ok (.invokevirtual 57, 3) := by decide +kernel
theorem dX3_pass_26 : decode cX3_pass 26 = .ok (.iload_n 2, 1) := by decide +kernel
theorem dX3_pass_27 : decode cX3_pass 27 = .ok (.invokevirtual 61, 3) := by decide +kernel
theorem dX3_pass_30 : decode cX3_pass 30 = .ok (.istore 5, 2) := by decide +kernel
theorem dX3_pass_32 : decode cX3_pass 32 = .ok (.iload 5, 2) := by decide +kernel
theorem dX3_pass_34 : decode cX3_pass 34 = .ok (.iconst (-1), 1) := by decide +kernel
theorem dX3_pass_35 : decode cX3_pass 35 = .ok (.if_icmp .eq 22, 3) := by decide +kernel
theorem dX3_pass_38 : decode cX3_pass 38 = .ok (.aload_n 0, 1) := by decide +kernel
theorem dX3_pass_39 : decode cX3_pass 39 = .ok (.getfield 34, 3) := by decide +kernel
theorem dX3_pass_42 : decode cX3_pass 42 = .ok (.iload 5, 2) := by decide +kernel
theorem dX3_pass_44 : decode cX3_pass 44 = .ok (.iconst (-1), 1) := by decide +kernel
theorem dX3_pass_45 : decode cX3_pass 45 = .ok (.iastore, 1) := by decide +kernel
theorem dX3_pass_46 : decode cX3_pass 46 = .ok (.aload_n 0, 1) := by decide +kernel
theorem dX3_pass_47 : decode cX3_pass 47 = .ok (.getfield 37, 3) := by decide +kernel
theorem dX3_pass_50 : decode cX3_pass 50 = .ok (.iload 5, 2) := by decide +kernel
theorem dX3_pass_52 : decode cX3_pass 52 = .ok (.iconst 0, 1) := by decide +kernel
theorem dX3_pass_53 : decode cX3_pass 53 = .ok (.iastore, 1) := by decide +kernel
theorem dX3_pass_54 : decode cX3_pass 54 = .ok (.iinc 3 1, 3) := by decide +kernel
theorem dX3_pass_57 : decode cX3_pass 57 = .ok (.iinc 4 1, 3) := by decide +kernel
theorem dX3_pass_60 : decode cX3_pass 60 = .ok (.goto (-50), 3) := by decide +kernel
theorem dX3_pass_63 : decode cX3_pass 63 = .ok (.iconst 0, 1) := by decide +kernel
theorem dX3_pass_64 : decode cX3_pass 64 = .ok (.istore 4, 2) := by decide +kernel
theorem dX3_pass_66 : decode cX3_pass 66 = .ok (.iload 4, 2) := by decide +kernel
theorem dX3_pass_68 : decode cX3_pass 68 = .ok (.aload_n 0, 1) := by decide +kernel
theorem dX3_pass_69 : decode cX3_pass 69 = .ok (.getfield 18, 3) := by decide +kernel
theorem dX3_pass_72 : decode cX3_pass 72 = .ok (.if_icmp .ge 29, 3) := by decide +kernel
theorem dX3_pass_75 : decode cX3_pass 75 = .ok (.aload_n 0, 1) := by decide +kernel
theorem dX3_pass_76 : decode cX3_pass 76 = .ok (.getfield 37, 3) := by decide +kernel
theorem dX3_pass_79 : decode cX3_pass 79 = .ok (.iload 4, 2) := by decide +kernel
theorem dX3_pass_81 : decode cX3_pass 81 = .ok (.iconst 0, 1) := by decide +kernel
theorem dX3_pass_82 : decode cX3_pass 82 = .ok (.aload_n 0, 1) := by decide +kernel
theorem dX3_pass_83 : decode cX3_pass 83 = .ok (.getfield 37, 3) := by decide +kernel
theorem dX3_pass_86 : decode cX3_pass 86 = .ok (.iload 4, 2) := by decide +kernel
theorem dX3_pass_88 : decode cX3_pass 88 = .ok (.iaload, 1) := by decide +kernel
theorem dX3_pass_89 : decode cX3_pass 89 = .ok (.iconst 1, 1) := by decide +kernel
theorem dX3_pass_90 : decode cX3_pass 90 = .ok (.isub, 1) := by decide +kernel
theorem dX3_pass_91 : decode cX3_pass 91 = .ok (.invokestatic 67, 3) := by decide +kernel
theorem dX3_pass_94 : decode cX3_pass 94 = .ok (.iastore, 1) := by decide +kernel
theorem dX3_pass_95 : decode cX3_pass 95 = .ok (.iinc 4 1, 3) := by decide +kernel
theorem dX3_pass_98 : decode cX3_pass 98 = .ok (.goto (-32), 3) := by decide +kernel
theorem dX3_pass_101 : decode cX3_pass 101 = .ok (.aload_n 0, 1) := by decide +kernel
theorem dX3_pass_102 : decode cX3_pass 102 = .ok (.dup, 1) := by decide +kernel
theorem dX3_pass_103 : decode cX3_pass 103 = .ok (.getfield 21, 3) := by decide +kernel
theorem dX3_pass_106 : decode cX3_pass 106 = .ok (.iconst 1, 1) := by decide +kernel
theorem dX3_pass_107 : decode cX3_pass 107 = .ok (.iadd, 1) := by decide +kernel
theorem dX3_pass_108 : decode cX3_pass 108 = .ok (.putfield 21, 3) := by decide +kernel
theorem dX3_pass_111 : decode cX3_pass 111 = .ok (.iload_n 3, 1) := by decide +kernel
theorem dX3_pass_112 : decode cX3_pass 112 = .ok (.ireturn, 1) := by decide +kernel
theorem dX4_init_0 : decode cX4_init 0 = .ok (.aload_n 0, 1) := by decide +kernel
theorem dX4_init_1 : decode cX4_init 1 = .ok (.invokespecial 3, 3) := by decide +kernel
theorem dX4_init_4 : decode cX4_init 4 = .ok (.aload_n 0, 1) := by decide +kernel
theorem dX4_init_5 : decode cX4_init 5 = .ok (.bipush 7, 2) := by decide +kernel
theorem dX4_init_7 : decode cX4_init 7 = .ok (.newarray .int, 2) := by decide +kernel
theorem dX4_init_9 : decode cX4_init 9 = .ok (.putfield 9, 3) := by decide +kernel
theorem dX4_init_12 : decode cX4_init 12 = .ok (.return_, 1) := by decide +kernel
set_option maxRecDepth 20000 in
theorem ggX4_read_X3_yields : GoodIn wsX4_read wsX3_yields := goodIn_r _ [7, 8, 9, 10, 12, 13, 14, 15, 16, 17, 18, 19, 20] (by decide +kernel) (by decide +kernel)
set_option maxRecDepth 20000 in
theorem gX4_read_X3_yields : GoodIn wsX4_read (wsV RX4 21 RX3 yX3_yields wsX3_yields) := goodIn_app (goodIn_of _ (by decide +kernel)) ggX4_read_X3_yields
theorem dX4_read_0 : decode cX4_read 0 = .ok (.iconst 0, 1) := by decide +kernel
theorem dX4_read_1 : decode cX4_read 1 = .ok (.istore_n 2, 1) := by decide +kernel
theorem dX4_read_2 : decode cX4_read 2 = .ok (.iload_n 2, 1) := by decide +kernel
theorem dX4_read_3 : decode cX4_read 3 = .ok (.bipush 7, 2) := by decide +kernel
theorem dX4_read_5 : decode cX4_read 5 = .ok (.if_icmp .ge 66, 3) := by decide +kernel
theorem dX4_read_8 : decode cX4_read 8 = .ok (.aload_n 0, 1) := by decide +kernel
theorem dX4_read_9 : decode cX4_read 9 = .ok (.getfield 9, 3) := by decide +kernel
theorem dX4_read_12 : decode cX4_read 12 = .ok (.iload_n 2, 1) := by decide +kernel
theorem dX4_read_13 : decode cX4_read 13 = .ok (.iconst 0, 1) := by decide +kernel
theorem dX4_read_14 : decode cX4_read 14 = .ok (.iastore, 1) := by decide +kernel
theorem dX4_read_15 : decode cX4_read 15 = .ok (.iconst 0, 1) := by decide +kernel
theorem dX4_read_16 : decode cX4_read 16 = .ok (.istore_n 3, 1) := by decide +kernel
theorem dX4_read_17 : decode cX4_read 17 = .ok (.iload_n 2, 1) := by decide +kernel
theorem dX4_read_18 : decode cX4_read 18 = .ok (.aload_n 1, 1) := by decide +kernel
theorem dX4_read_19 : decode cX4_read 19 = .ok (.getfield 15, 3) := by decide +kernel
theorem dX4_read_22 : decode cX4_read 22 = .ok (.if_icmp .ge 43, 3) := by decide +kernel
theorem dX4_read_25 : decode cX4_read 25 = .ok (.iload_n 3, 1) := by decide +kernel
theorem dX4_read_26 : decode cX4_read 26 = .ok (.aload_n 1, 1) := by decide +kernel
theorem dX4_read_27 : decode cX4_read 27 = .ok (.getfield 15, 3) := by decide +kernel
theorem dX4_read_30 : decode cX4_read 30 = .ok (.if_icmp .ge 35, 3) := by decide +kernel
theorem dX4_read_33 : decode cX4_read 33 = .ok (.iload_n 2, 1) := by decide +kernel
theorem dX4_read_34 : decode cX4_read 34 = .ok (.iload_n 3, 1) := by decide +kernel
theorem dX4_read_35 : decode cX4_read 35 = .ok (.if_icmp .eq 24, 3) := by decide +kernel
theorem dX4_read_38 : decode cX4_read 38 = .ok (.aload_n 1, 1) := by decide +kernel
theorem dX4_read_39 : decode cX4_read 39 = .ok (.iload_n 2, 1) := by decide +kernel
theorem dX4_read_40 : decode cX4_read 40 = .ok (.iload_n 3, 1) := by decide +kernel
theorem dX4_read_41 : decode cX4_read 41 = .ok (.invokevirtual 21, 3) := by decide +kernel
theorem dX4_read_44 : decode cX4_read 44 = .ok (.ifCond .eq 15, 3) := by decide +kernel
theorem dX4_read_47 : decode cX4_read 47 = .ok (.aload_n 0, 1) := by decide +kernel
theorem dX4_read_48 : decode cX4_read 48 = .ok (.getfield 9, 3) := by decide +kernel
theorem dX4_read_51 : decode cX4_read 51 = .ok (.iload_n 2, 1) := by decide +kernel
theorem dX4_read_52 : decode cX4_read 52 = .ok (.dup2, 1) := by decide +kernel
theorem dX4_read_53 : decode cX4_read 53 = .ok (.iaload, 1) := by decide +kernel
theorem dX4_read_54 : decode cX4_read 54 = .ok (.iconst 1, 1) := by decide +kernel
theorem dX4_read_55 : decode cX4_read 55 = .ok (.iload_n 3, 1) := by decide +kernel
theorem dX4_read_56 : decode cX4_read 56 = .ok (.ishl, 1) := by decide +kernel
theorem dX4_read_57 : decode cX4_read 57 = .ok (.ior, 1) := by decide +kernel
theorem dX4_read_58 : decode cX4_read 58 = .ok (.iastore, 1) := by decide +kernel
theorem dX4_read_59 : decode cX4_read 59 = .ok (.iinc 3 1, 3) := by decide +kernel
theorem dX4_read_62 : decode cX4_read 62 = .ok (.goto (-45), 3) := by decide +kernel
theorem dX4_read_65 : decode cX4_read 65 = .ok (.iinc 2 1, 3) := by decide +kernel
theorem dX4_read_68 : decode cX4_read 68 = .ok (.goto (-66), 3) := by decide +kernel
theorem dX4_read_71 : decode cX4_read 71 = .ok (.return_, 1) := by decide +kernel
theorem dX4_yielded_0 : decode cX4_yielded 0 = .ok (.aload_n 0, 1) := by decide +kernel
theorem dX4_yielded_1 : decode cX4_yielded 1 = .ok (.getfield 9, 3) := by decide +kernel
theorem dX4_yielded_4 : decode cX4_yielded 4 = .ok (.iload_n 1, 1) := by decide +kernel
theorem dX4_yielded_5 : decode cX4_yielded 5 = .ok (.iaload, 1) := by decide +kernel
theorem dX4_yielded_6 : decode cX4_yielded 6 = .ok (.iload_n 2, 1) := by decide +kernel
theorem dX4_yielded_7 : decode cX4_yielded 7 = .ok (.iand, 1) := by decide +kernel
theorem dX4_yielded_8 : decode cX4_yielded 8 = .ok (.iload_n 3, 1) := by decide +kernel
theorem dX4_yielded_9 : decode cX4_yielded 9 = .ok (.iconst (-1), 1) := by decide +kernel
theorem dX4_yielded_10 : decode cX4_yielded 10 = .ok (.ixor, 1) := by decide +kernel
theorem dX4_yielded_11 : decode cX4_yielded 11 = .ok (.iand, 1) := by decide +kernel
theorem dX4_yielded_12 : decode cX4_yielded 12 = .ok (.ireturn, 1) := by decide +kernel
theorem dX4_lets_0 : decode cX4_lets 0 = .ok (.iload_n 3, 1) := by decide +kernel
theorem dX4_lets_1 : decode cX4_lets 1 = .ok (.iload_n 1, 1) := by decide +kernel
theorem dX4_lets_2 : decode cX4_lets 2 = .ok (.ishr, 1) := by decide +kernel
theorem dX4_lets_3 : decode cX4_lets 3 = .ok (.iconst 1, 1) := by decide +kernel
theorem dX4_lets_4 : decode cX4_lets 4 = .ok (.iand, 1) := by decide +kernel
theorem dX4_lets_5 : decode cX4_lets 5 = .ok (.ifCond .ne 18, 3) := by decide +kernel
theorem dX4_lets_8 : decode cX4_lets 8 = .ok (.aload_n 0, 1) := by decide +kernel
theorem dX4_lets_9 : decode cX4_lets 9 = .ok (.getfield 9, 3) := by decide +kernel
theorem dX4_lets_12 : decode cX4_lets 12 = .ok (.iload_n 1, 1) := by decide +kernel
theorem dX4_lets_13 : decode cX4_lets 13 = .ok (.iaload, 1) := by decide +kernel
theorem dX4_lets_14 : decode cX4_lets 14 = .ok (.iload_n 2, 1) := by decide +kernel
theorem dX4_lets_15 : decode cX4_lets 15 = .ok (.iand, 1) := by decide +kernel
theorem dX4_lets_16 : decode cX4_lets 16 = .ok (.iload_n 3, 1) := by decide +kernel
theorem dX4_lets_17 : decode cX4_lets 17 = .ok (.iconst (-1), 1) := by decide +kernel
theorem dX4_lets_18 : decode cX4_lets 18 = .ok (.ixor, 1) := by decide +kernel
theorem dX4_lets_19 : decode cX4_lets 19 = .ok (.iand, 1) := by decide +kernel
theorem dX4_lets_20 : decode cX4_lets 20 = .ok (.ifCond .ne 7, 3) := by decide +kernel
theorem dX4_lets_23 : decode cX4_lets 23 = .ok (.iconst 1, 1) := by decide +kernel
theorem dX4_lets_24 : decode cX4_lets 24 = .ok (.goto 4, 3) := by decide +kernel
theorem dX4_lets_27 : decode cX4_lets 27 = .ok (.iconst 0, 1) := by decide +kernel
theorem dX4_lets_28 : decode cX4_lets 28 = .ok (.ireturn, 1) := by decide +kernel
set_option maxRecDepth 20000 in
theorem ggX4_first_X4_lets : GoodIn wsX4_first wsX4_lets := goodIn_r _ [5, 6, 7] (by decide +kernel) (by decide +kernel)
set_option maxRecDepth 20000 in
theorem gX4_first_X4_lets : GoodIn wsX4_first (wsV RX4 25 RX4 yX4_lets wsX4_lets) := goodIn_app (goodIn_of _ (by decide +kernel)) ggX4_first_X4_lets
theorem dX4_first_0 : decode cX4_first 0 = .ok (.iconst 0, 1) := by decide +kernel
theorem dX4_first_1 : decode cX4_first 1 = .ok (.istore_n 3, 1) := by decide +kernel
theorem dX4_first_2 : decode cX4_first 2 = .ok (.iload_n 3, 1) := by decide +kernel
theorem dX4_first_3 : decode cX4_first 3 = .ok (.bipush 7, 2) := by decide +kernel
theorem dX4_first_5 : decode cX4_first 5 = .ok (.if_icmp .ge 29, 3) := by decide +kernel
theorem dX4_first_8 : decode cX4_first 8 = .ok (.iload_n 1, 1) := by decide +kernel
theorem dX4_first_9 : decode cX4_first 9 = .ok (.iload_n 3, 1) := by decide +kernel
theorem dX4_first_10 : decode cX4_first 10 = .ok (.ishr, 1) := by decide +kernel
theorem dX4_first_11 : decode cX4_first 11 = .ok (.iconst 1, 1) := by decide +kernel
theorem dX4_first_12 : decode cX4_first 12 = .ok (.iand, 1) := by decide +kernel
theorem dX4_first_13 : decode cX4_first 13 = .ok (.ifCond .eq 15, 3) := by decide +kernel
theorem dX4_first_16 : decode cX4_first 16 = .ok (.aload_n 0, 1) := by decide +kernel
theorem dX4_first_17 : decode cX4_first 17 = .ok (.iload_n 3, 1) := by decide +kernel
theorem dX4_first_18 : decode cX4_first 18 = .ok (.iload_n 1, 1) := by decide +kernel
theorem dX4_first_19 : decode cX4_first 19 = .ok (.iload_n 2, 1) := by decide +kernel
theorem dX4_first_20 : decode cX4_first 20 = .ok (.invokevirtual 25, 3) := by decide +kernel
theorem dX4_first_23 : decode cX4_first 23 = .ok (.ifCond .eq 5, 3) := by decide +kernel
theorem dX4_first_26 : decode cX4_first 26 = .ok (.iload_n 3, 1) := by decide +kernel
theorem dX4_first_27 : decode cX4_first 27 = .ok (.ireturn, 1) := by decide +kernel
theorem dX4_first_28 : decode cX4_first 28 = .ok (.iinc 3 1, 3) := by decide +kernel
theorem dX4_first_31 : decode cX4_first 31 = .ok (.goto (-29), 3) := by decide +kernel
theorem dX4_first_34 : decode cX4_first 34 = .ok (.iconst (-1), 1) := by decide +kernel
theorem dX4_first_35 : decode cX4_first 35 = .ok (.ireturn, 1) := by decide +kernel
theorem dX4_holdsFast_0 : decode cX4_holdsFast 0 = .ok (.iconst 0, 1) := by decide +kernel
theorem dX4_holdsFast_1 : decode cX4_holdsFast 1 = .ok (.istore_n 2, 1) := by decide +kernel
theorem dX4_holdsFast_2 : decode cX4_holdsFast 2 = .ok (.iload_n 2, 1) := by decide +kernel
theorem dX4_holdsFast_3 : decode cX4_holdsFast 3 = .ok (.bipush 7, 2) := by decide +kernel
theorem dX4_holdsFast_5 : decode cX4_holdsFast 5 = .ok (.if_icmp .ge 30, 3) := by decide +kernel
theorem dX4_holdsFast_8 : decode cX4_holdsFast 8 = .ok (.iload_n 1, 1) := by decide +kernel
theorem dX4_holdsFast_9 : decode cX4_holdsFast 9 = .ok (.iload_n 2, 1) := by decide +kernel
theorem dX4_holdsFast_10 : decode cX4_holdsFast 10 = .ok (.ishr, 1) := by decide +kernel
theorem dX4_holdsFast_11 : decode cX4_holdsFast 11 = .ok (.iconst 1, 1) := by decide +kernel
theorem dX4_holdsFast_12 : decode cX4_holdsFast 12 = .ok (.iand, 1) := by decide +kernel
theorem dX4_holdsFast_13 : decode cX4_holdsFast 13 = .ok (.ifCond .eq 16, 3) := by decide +kernel
theorem dX4_holdsFast_16 : decode cX4_holdsFast 16 = .ok (.aload_n 0, 1) := by decide +kernel
theorem dX4_holdsFast_17 : decode cX4_holdsFast 17 = .ok (.getfield 9, 3) := by decide +kernel
theorem dX4_holdsFast_20 : decode cX4_holdsFast 20 = .ok (.iload_n 2, 1) := by decide +kernel
theorem dX4_holdsFast_21 : decode cX4_holdsFast 21 = .ok (.iaload, 1) := by decide +kernel
theorem dX4_holdsFast_22 : decode cX4_holdsFast 22 = .ok (.iload_n 1, 1) := by decide +kernel
theorem dX4_holdsFast_23 : decode cX4_holdsFast 23 = .ok (.iand, 1) := by decide +kernel
theorem dX4_holdsFast_24 : decode cX4_holdsFast 24 = .ok (.ifCond .ne 5, 3) := by decide +kernel
theorem dX4_holdsFast_27 : decode cX4_holdsFast 27 = .ok (.iconst 0, 1) := by decide +kernel
theorem dX4_holdsFast_28 : decode cX4_holdsFast 28 = .ok (.ireturn, 1) := by decide +kernel
theorem dX4_holdsFast_29 : decode cX4_holdsFast 29 = .ok (.iinc 2 1, 3) := by decide +kernel
theorem dX4_holdsFast_32 : decode cX4_holdsFast 32 = .ok (.goto (-30), 3) := by decide +kernel
theorem dX4_holdsFast_35 : decode cX4_holdsFast 35 = .ok (.iconst 1, 1) := by decide +kernel
theorem dX4_holdsFast_36 : decode cX4_holdsFast 36 = .ok (.ireturn, 1) := by decide +kernel
theorem dX5_init_0 : decode cX5_init 0 = .ok (.aload_n 0, 1) := by decide +kernel
theorem dX5_init_1 : decode cX5_init 1 = .ok (.invokespecial 3, 3) := by decide +kernel
theorem dX5_init_4 : decode cX5_init 4 = .ok (.aload_n 0, 1) := by decide +kernel
theorem dX5_init_5 : decode cX5_init 5 = .ok (.bipush 7, 2) := by decide +kernel
theorem dX5_init_7 : decode cX5_init 7 = .ok (.newarray .int, 2) := by decide +kernel
theorem dX5_init_9 : decode cX5_init 9 = .ok (.putfield 9, 3) := by decide +kernel
theorem dX5_init_12 : decode cX5_init 12 = .ok (.aload_n 0, 1) := by decide +kernel
theorem dX5_init_13 : decode cX5_init 13 = .ok (.bipush 7, 2) := by decide +kernel
theorem dX5_init_15 : decode cX5_init 15 = .ok (.newarray .int, 2) := by decide +kernel
theorem dX5_init_17 : decode cX5_init 17 = .ok (.putfield 15, 3) := by decide +kernel
theorem dX5_init_20 : decode cX5_init 20 = .ok (.aload_n 0, 1) := by decide +kernel
theorem dX5_init_21 : decode cX5_init 21 = .ok (.iconst 0, 1) := by decide +kernel
theorem dX5_init_22 : decode cX5_init 22 = .ok (.putfield 18, 3) := by decide +kernel
theorem dX5_init_25 : decode cX5_init 25 = .ok (.aload_n 0, 1) := by decide +kernel
theorem dX5_init_26 : decode cX5_init 26 = .ok (.iconst 0, 1) := by decide +kernel
theorem dX5_init_27 : decode cX5_init 27 = .ok (.putfield 22, 3) := by decide +kernel
theorem dX5_init_30 : decode cX5_init 30 = .ok (.return_, 1) := by decide +kernel
theorem dX5_readNobodies_0 : decode cX5_readNobodies 0 = .ok (.aload_n 1, 1) := by decide +kernel
theorem dX5_readNobodies_1 : decode cX5_readNobodies 1 = .ok (.getfield 25, 3) := by decide +kernel
theorem dX5_readNobodies_4 : decode cX5_readNobodies 4 = .ok (.iconst 0, 1) := by decide +kernel
theorem dX5_readNobodies_5 : decode cX5_readNobodies 5 = .ok (.aload_n 0, 1) := by decide +kernel
theorem dX5_readNobodies_6 : decode cX5_readNobodies 6 = .ok (.getfield 9, 3) := by decide +kernel
theorem dX5_readNobodies_9 : decode cX5_readNobodies 9 = .ok (.iconst 0, 1) := by decide +kernel
theorem dX5_readNobodies_10 : decode cX5_readNobodies 10 = .ok (.bipush 7, 2) := by decide +kernel
theorem dX5_readNobodies_12 : decode cX5_readNobodies 12 = .ok (.invokestatic 28, 3) := by decide +kernel
theorem dX5_readNobodies_15 : decode cX5_readNobodies 15 = .ok (.return_, 1) := by decide +kernel
set_option maxRecDepth 20000 in
theorem ggX5_foretell_X5_nobodiesIn : GoodIn wsX5_foretell wsX5_nobodiesIn := goodIn_r _ [8, 9, 20, 21, 22, 23] (by decide +kernel) (by decide +kernel)
set_option maxRecDepth 20000 in
theorem gX5_foretell_X5_nobodiesIn : GoodIn wsX5_foretell (wsV RX5 34 RX5 yX5_nobodiesIn wsX5_nobodiesIn) := goodIn_app (goodIn_of _ (by decide +kernel)) ggX5_foretell_X5_nobodiesIn
set_option maxRecDepth 20000 in
theorem ggX5_foretell_X4_first : GoodIn wsX5_foretell wsX4_first := goodIn_r _ [14, 15, 16, 17, 13, 18, 19, 24] (by decide +kernel) (by decide +kernel)
set_option maxRecDepth 20000 in
theorem gX5_foretell_X4_first : GoodIn wsX5_foretell (wsV RX5 38 RX4 yX4_first wsX4_first) := goodIn_app (goodIn_of _ (by decide +kernel)) ggX5_foretell_X4_first
theorem dX5_foretell_0 : decode cX5_foretell 0 = .ok (.aload_n 0, 1) := by decide +kernel
theorem dX5_foretell_1 : decode cX5_foretell 1 = .ok (.iload_n 2, 1) := by decide +kernel
theorem dX5_foretell_2 : decode cX5_foretell 2 = .ok (.putfield 22, 3) := by decide +kernel
theorem dX5_foretell_5 : decode cX5_foretell 5 = .ok (.aload_n 0, 1) := by decide +kernel
theorem dX5_foretell_6 : decode cX5_foretell 6 = .ok (.iconst 0, 1) := by decide +kernel
theorem dX5_foretell_7 : decode cX5_foretell 7 = .ok (.putfield 18, 3) := by decide +kernel
theorem dX5_foretell_10 : decode cX5_foretell 10 = .ok (.iconst 0, 1) := by decide +kernel
theorem dX5_foretell_11 : decode cX5_foretell 11 = .ok (.istore_n 3, 1) := by decide +kernel
theorem dX5_foretell_12 : decode cX5_foretell 12 = .ok (.iload_n 3, 1) := by decide +kernel
theorem dX5_foretell_13 : decode cX5_foretell 13 = .ok (.bipush 7, 2) := by decide +kernel
theorem dX5_foretell_15 : decode cX5_foretell 15 = .ok (.if_icmp .ge 64, 3) := by decide +kernel
theorem dX5_foretell_18 : decode cX5_foretell 18 = .ok (.aload_n 1, 1) := by decide +kernel
theorem dX5_foretell_19 : decode cX5_foretell 19 = .ok (.aload_n 0, 1) := by decide +kernel
theorem dX5_foretell_20 : decode cX5_foretell 20 = .ok (.getfield 22, 3) := by decide +kernel
theorem dX5_foretell_23 : decode cX5_foretell 23 = .ok (.aload_n 0, 1) := by decide +kernel
theorem dX5_foretell_24 : decode cX5_foretell 24 = .ok (.iload_n 3, 1) := by decide +kernel
theorem dX5_foretell_25 : decode cX5_foretell 25 = .ok (.invokevirtual 34, 3) := by decide +kernel
theorem dX5_foretell_28 : decode cX5_foretell 28 = .ok (.invokevirtual 38, 3) := by decide +kernel
theorem dX5_foretell_31 : decode cX5_foretell 31 = .ok (.istore 4, 2) := by decide +kernel
theorem dX5_foretell_33 : decode cX5_foretell 33 = .ok (.iload 4, 2) := by decide +kernel
theorem dX5_foretell_35 : decode cX5_foretell 35 = .ok (.iconst (-1), 1) := by decide +kernel
theorem dX5_foretell_36 : decode cX5_foretell 36 = .ok (.if_icmp .ne 4, 3) := by decide +kernel
theorem dX5_foretell_39 : decode cX5_foretell 39 = .ok (.return_, 1) := by decide +kernel
theorem dX5_foretell_40 : decode cX5_foretell 40 = .ok (.aload_n 0, 1) := by decide +kernel
theorem dX5_foretell_41 : decode cX5_foretell 41 = .ok (.getfield 15, 3) := by decide +kernel
theorem dX5_foretell_44 : decode cX5_foretell 44 = .ok (.iload_n 3, 1) := by decide +kernel
theorem dX5_foretell_45 : decode cX5_foretell 45 = .ok (.iload 4, 2) := by decide +kernel
theorem dX5_foretell_47 : decode cX5_foretell 47 = .ok (.iastore, 1) := by decide +kernel
theorem dX5_foretell_48 : decode cX5_foretell 48 = .ok (.aload_n 0, 1) := by decide +kernel
theorem dX5_foretell_49 : decode cX5_foretell 49 = .ok (.dup, 1) := by decide +kernel
theorem dX5_foretell_50 : decode cX5_foretell 50 = .ok (.getfield 18, 3) := by decide +kernel
theorem dX5_foretell_53 : decode cX5_foretell 53 = .ok (.iconst 1, 1) := by decide +kernel
theorem dX5_foretell_54 : decode cX5_foretell 54 = .ok (.iadd, 1) := by decide +kernel
theorem dX5_foretell_55 : decode cX5_foretell 55 = .ok (.putfield 18, 3) := by decide +kernel
theorem dX5_foretell_58 : decode cX5_foretell 58 = .ok (.aload_n 0, 1) := by decide +kernel
theorem dX5_foretell_59 : decode cX5_foretell 59 = .ok (.dup, 1) := by decide +kernel
theorem dX5_foretell_60 : decode cX5_foretell 60 = .ok (.getfield 22, 3) := by decide +kernel
theorem dX5_foretell_63 : decode cX5_foretell 63 = .ok (.iconst 1, 1) := by decide +kernel
theorem dX5_foretell_64 : decode cX5_foretell 64 = .ok (.iload 4, 2) := by decide +kernel
theorem dX5_foretell_66 : decode cX5_foretell 66 = .ok (.ishl, 1) := by decide +kernel
theorem dX5_foretell_67 : decode cX5_foretell 67 = .ok (.iconst (-1), 1) := by decide +kernel
theorem dX5_foretell_68 : decode cX5_foretell 68 = .ok (.ixor, 1) := by decide +kernel
theorem dX5_foretell_69 : decode cX5_foretell 69 = .ok (.iand, 1) := by decide +kernel
theorem dX5_foretell_70 : decode cX5_foretell 70 = .ok (.putfield 22, 3) := by decide +kernel
theorem dX5_foretell_73 : decode cX5_foretell 73 = .ok (.iinc 3 1, 3) := by decide +kernel
theorem dX5_foretell_76 : decode cX5_foretell 76 = .ok (.goto (-64), 3) := by decide +kernel
theorem dX5_foretell_79 : decode cX5_foretell 79 = .ok (.return_, 1) := by decide +kernel
theorem dX5_nobodiesIn_0 : decode cX5_nobodiesIn 0 = .ok (.iconst 0, 1) := by decide +kernel
theorem dX5_nobodiesIn_1 : decode cX5_nobodiesIn 1 = .ok (.istore_n 2, 1) := by decide +kernel
theorem dX5_nobodiesIn_2 : decode cX5_nobodiesIn 2 = .ok (.iconst 0, 1) := by decide +kernel
theorem dX5_nobodiesIn_3 : decode cX5_nobodiesIn 3 = .ok (.istore_n 3, 1) := by decide +kernel
theorem dX5_nobodiesIn_4 : decode cX5_nobodiesIn 4 = .ok (.iload_n 3, 1) := by decide +kernel
theorem dX5_nobodiesIn_5 : decode cX5_nobodiesIn 5 = .ok (.bipush 7, 2) := by decide +kernel
theorem dX5_nobodiesIn_7 : decode cX5_nobodiesIn 7 = .ok (.if_icmp .ge 25, 3) := by decide +kernel
theorem dX5_nobodiesIn_10 : decode cX5_nobodiesIn 10 = .ok (.aload_n 0, 1) := by decide +kernel
theorem dX5_nobodiesIn_11 : decode cX5_nobodiesIn 11 = .ok (.getfield 9, 3) := by decide +kernel
theorem dX5_nobodiesIn_14 : decode cX5_nobodiesIn 14 = .ok (.iload_n 3, 1) := by decide +kernel
theorem dX5_nobodiesIn_15 : decode cX5_nobodiesIn 15 = .ok (.iaload, 1) := by decide +kernel
theorem dX5_nobodiesIn_16 : decode cX5_nobodiesIn 16 = .ok (.iload_n 1, 1) := by decide +kernel
theorem dX5_nobodiesIn_17 : decode cX5_nobodiesIn 17 = .ok (.if_icmp .le 9, 3) := by decide +kernel
theorem dX5_nobodiesIn_20 : decode cX5_nobodiesIn 20 = .ok (.iload_n 2, 1) := by decide +kernel
theorem dX5_nobodiesIn_21 : decode cX5_nobodiesIn 21 = .ok (.iconst 1, 1) := by decide +kernel
theorem dX5_nobodiesIn_22 : decode cX5_nobodiesIn 22 = .ok (.iload_n 3, 1) := by decide +kernel
theorem dX5_nobodiesIn_23 : decode cX5_nobodiesIn 23 = .ok (.ishl, 1) := by decide +kernel
theorem dX5_nobodiesIn_24 : decode cX5_nobodiesIn 24 = .ok (.ior, 1) := by decide +kernel
theorem dX5_nobodiesIn_25 : decode cX5_nobodiesIn 25 = .ok (.istore_n 2, 1) := by decide +kernel
theorem dX5_nobodiesIn_26 : decode cX5_nobodiesIn 26 = .ok (.iinc 3 1, 3) := by decide +kernel
theorem dX5_nobodiesIn_29 : decode cX5_nobodiesIn 29 = .ok (.goto (-25), 3) := by decide +kernel
theorem dX5_nobodiesIn_32 : decode cX5_nobodiesIn 32 = .ok (.iload_n 2, 1) := by decide +kernel
theorem dX5_nobodiesIn_33 : decode cX5_nobodiesIn 33 = .ok (.ireturn, 1) := by decide +kernel
theorem dX5_goingIn_0 : decode cX5_goingIn 0 = .ok (.iload_n 1, 1) := by decide +kernel
theorem dX5_goingIn_1 : decode cX5_goingIn 1 = .ok (.ifCond .lt 26, 3) := by decide +kernel
theorem dX5_goingIn_4 : decode cX5_goingIn 4 = .ok (.iload_n 1, 1) := by decide +kernel
theorem dX5_goingIn_5 : decode cX5_goingIn 5 = .ok (.aload_n 0, 1) := by decide +kernel
theorem dX5_goingIn_6 : decode cX5_goingIn 6 = .ok (.getfield 18, 3) := by decide +kernel
theorem dX5_goingIn_9 : decode cX5_goingIn 9 = .ok (.if_icmp .ge 18, 3) := by decide +kernel
theorem dX5_goingIn_12 : decode cX5_goingIn 12 = .ok (.iload_n 1, 1) := by decide +kernel
theorem dX5_goingIn_13 : decode cX5_goingIn 13 = .ok (.bipush 7, 2) := by decide +kernel
theorem dX5_goingIn_15 : decode cX5_goingIn 15 = .ok (.if_icmp .ge 12, 3) := by decide +kernel
theorem dX5_goingIn_18 : decode cX5_goingIn 18 = .ok (.aload_n 0, 1) := by decide +kernel
theorem dX5_goingIn_19 : decode cX5_goingIn 19 = .ok (.getfield 15, 3) := by decide +kernel
theorem dX5_goingIn_22 : decode cX5_goingIn 22 = .ok (.iload_n 1, 1) := by decide +kernel
theorem dX5_goingIn_23 : decode cX5_goingIn 23 = .ok (.iaload, 1) := by decide +kernel
theorem dX5_goingIn_24 : decode cX5_goingIn 24 = .ok (.goto 4, 3) := by decide +kernel
theorem dX5_goingIn_27 : decode cX5_goingIn 27 = .ok (.iconst (-1), 1) := by decide +kernel
theorem dX5_goingIn_28 : decode cX5_goingIn 28 = .ok (.ireturn, 1) := by decide +kernel
set_option maxRecDepth 20000 in
theorem ggX5_whenGone_X5_goingIn : GoodIn wsX5_whenGone wsX5_goingIn := goodIn_r _ [6, 1, 7, 8, 9, 10, 11] (by decide +kernel) (by decide +kernel)
set_option maxRecDepth 20000 in
theorem gX5_whenGone_X5_goingIn : GoodIn wsX5_whenGone (wsV RX5 44 RX5 yX5_goingIn wsX5_goingIn) := goodIn_app (goodIn_of _ (by decide +kernel)) ggX5_whenGone_X5_goingIn
theorem dX5_whenGone_0 : decode cX5_whenGone 0 = .ok (.iconst 0, 1) := by decide +kernel
theorem dX5_whenGone_1 : decode cX5_whenGone 1 = .ok (.istore_n 2, 1) := by decide +kernel
theorem dX5_whenGone_2 : decode cX5_whenGone 2 = .ok (.iload_n 2, 1) := by decide +kernel
theorem dX5_whenGone_3 : decode cX5_whenGone 3 = .ok (.aload_n 0, 1) := by decide +kernel
theorem dX5_whenGone_4 : decode cX5_whenGone 4 = .ok (.getfield 18, 3) := by decide +kernel
theorem dX5_whenGone_7 : decode cX5_whenGone 7 = .ok (.if_icmp .ge 22, 3) := by decide +kernel
theorem dX5_whenGone_10 : decode cX5_whenGone 10 = .ok (.aload_n 0, 1) := by decide +kernel
theorem dX5_whenGone_11 : decode cX5_whenGone 11 = .ok (.iload_n 2, 1) := by decide +kernel
theorem dX5_whenGone_12 : decode cX5_whenGone 12 = .ok (.invokevirtual 44, 3) := by decide +kernel
theorem dX5_whenGone_15 : decode cX5_whenGone 15 = .ok (.iload_n 1, 1) := by decide +kernel
theorem dX5_whenGone_16 : decode cX5_whenGone 16 = .ok (.if_icmp .ne 7, 3) := by decide +kernel
theorem dX5_whenGone_19 : decode cX5_whenGone 19 = .ok (.iload_n 2, 1) := by decide +kernel
theorem dX5_whenGone_20 : decode cX5_whenGone 20 = .ok (.iconst 1, 1) := by decide +kernel
theorem dX5_whenGone_21 : decode cX5_whenGone 21 = .ok (.iadd, 1) := by decide +kernel
theorem dX5_whenGone_22 : decode cX5_whenGone 22 = .ok (.ireturn, 1) := by decide +kernel
theorem dX5_whenGone_23 : decode cX5_whenGone 23 = .ok (.iinc 2 1, 3) := by decide +kernel
theorem dX5_whenGone_26 : decode cX5_whenGone 26 = .ok (.goto (-24), 3) := by decide +kernel
theorem dX5_whenGone_29 : decode cX5_whenGone 29 = .ok (.iconst (-1), 1) := by decide +kernel
theorem dX5_whenGone_30 : decode cX5_whenGone 30 = .ok (.ireturn, 1) := by decide +kernel
theorem dX6_init_0 : decode cX6_init 0 = .ok (.aload_n 0, 1) := by decide +kernel
theorem dX6_init_1 : decode cX6_init 1 = .ok (.invokespecial 3, 3) := by decide +kernel
theorem dX6_init_4 : decode cX6_init 4 = .ok (.aload_n 0, 1) := by decide +kernel
theorem dX6_init_5 : decode cX6_init 5 = .ok (.bipush 40, 2) := by decide +kernel
theorem dX6_init_7 : decode cX6_init 7 = .ok (.newarray .int, 2) := by decide +kernel
theorem dX6_init_9 : decode cX6_init 9 = .ok (.putfield 9, 3) := by decide +kernel
theorem dX6_init_12 : decode cX6_init 12 = .ok (.aload_n 0, 1) := by decide +kernel
theorem dX6_init_13 : decode cX6_init 13 = .ok (.iconst 0, 1) := by decide +kernel
theorem dX6_init_14 : decode cX6_init 14 = .ok (.putfield 15, 3) := by decide +kernel
theorem dX6_init_17 : decode cX6_init 17 = .ok (.aload_n 0, 1) := by decide +kernel
theorem dX6_init_18 : decode cX6_init 18 = .ok (.iconst (-1), 1) := by decide +kernel
theorem dX6_init_19 : decode cX6_init 19 = .ok (.putfield 19, 3) := by decide +kernel
theorem dX6_init_22 : decode cX6_init 22 = .ok (.return_, 1) := by decide +kernel
theorem dX6_isMissing_0 : decode cX6_isMissing 0 = .ok (.aload_n 0, 1) := by decide +kernel
theorem dX6_isMissing_1 : decode cX6_isMissing 1 = .ok (.getfield 19, 3) := by decide +kernel
theorem dX6_isMissing_4 : decode cX6_isMissing 4 = .ok (.iconst (-1), 1) := by decide +kernel
theorem dX6_isMissing_5 : decode cX6_isMissing 5 = .ok (.if_icmp .ne 7, 3) := by decide +kernel
theorem dX6_isMissing_8 : decode cX6_isMissing 8 = .ok (.iconst 1, 1) := by decide +kernel
theorem dX6_isMissing_9 : decode cX6_isMissing 9 = .ok (.goto 4, 3) := by decide +kernel
theorem dX6_isMissing_12 : decode cX6_isMissing 12 = .ok (.iconst 0, 1) := by decide +kernel
theorem dX6_isMissing_13 : decode cX6_isMissing 13 = .ok (.ireturn, 1) := by decide +kernel
theorem dX6_lay_0 : decode cX6_lay 0 = .ok (.aload_n 0, 1) := by decide +kernel
theorem dX6_lay_1 : decode cX6_lay 1 = .ok (.iload_n 1, 1) := by decide +kernel
theorem dX6_lay_2 : decode cX6_lay 2 = .ok (.putfield 15, 3) := by decide +kernel
theorem dX6_lay_5 : decode cX6_lay 5 = .ok (.aload_n 0, 1) := by decide +kernel
theorem dX6_lay_6 : decode cX6_lay 6 = .ok (.iload_n 2, 1) := by decide +kernel
theorem dX6_lay_7 : decode cX6_lay 7 = .ok (.putfield 19, 3) := by decide +kernel
theorem dX6_lay_10 : decode cX6_lay 10 = .ok (.iconst 0, 1) := by decide +kernel
theorem dX6_lay_11 : decode cX6_lay 11 = .ok (.istore_n 3, 1) := by decide +kernel
theorem dX6_lay_12 : decode cX6_lay 12 = .ok (.iload_n 3, 1) := by decide +kernel
theorem dX6_lay_13 : decode cX6_lay 13 = .ok (.bipush 40, 2) := by decide +kernel
theorem dX6_lay_15 : decode cX6_lay 15 = .ok (.if_icmp .ge 16, 3) := by decide +kernel
theorem dX6_lay_18 : decode cX6_lay 18 = .ok (.aload_n 0, 1) := by decide +kernel
theorem dX6_lay_19 : decode cX6_lay 19 = .ok (.getfield 9, 3) := by decide +kernel
theorem dX6_lay_22 : decode cX6_lay 22 = .ok (.iload_n 3, 1) := by decide +kernel
theorem dX6_lay_23 : decode cX6_lay 23 = .ok (.iconst 0, 1) := by decide +kernel
theorem dX6_lay_24 : decode cX6_lay 24 = .ok (.iastore, 1) := by decide +kernel
theorem dX6_lay_25 : decode cX6_lay 25 = .ok (.iinc 3 1, 3) := by decide +kernel
theorem dX6_lay_28 : decode cX6_lay 28 = .ok (.goto (-16), 3) := by decide +kernel
theorem dX6_lay_31 : decode cX6_lay 31 = .ok (.return_, 1) := by decide +kernel
theorem dX6_holds_0 : decode cX6_holds 0 = .ok (.iload_n 1, 1) := by decide +kernel
theorem dX6_holds_1 : decode cX6_holds 1 = .ok (.ifCond .lt 21, 3) := by decide +kernel
theorem dX6_holds_4 : decode cX6_holds 4 = .ok (.iload_n 2, 1) := by decide +kernel
theorem dX6_holds_5 : decode cX6_holds 5 = .ok (.ifCond .lt 17, 3) := by decide +kernel

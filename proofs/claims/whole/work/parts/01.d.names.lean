theorem dX8_drawn_97 : decode cX8_drawn 97 = .ok (.isub, 1) := by decide +kernel
theorem dX8_drawn_98 : decode cX8_drawn 98 = .ok (.ireturn, 1) := by decide +kernel
set_option maxRecDepth 20000 in
theorem ggX8_image_X8_within : GoodIn wsX8_image wsX8_within := goodIn_r _ [9] (by decide +kernel) (by decide +kernel)
set_option maxRecDepth 20000 in
theorem gX8_image_X8_within : GoodIn wsX8_image (va_wsS RX8 66 yX8_within wsX8_within) := goodIn_app (goodIn_of _ (by decide +kernel)) ggX8_image_X8_within
set_option maxRecDepth 20000 in
theorem ggX8_image_X3_become : GoodIn wsX8_image wsX3_become := goodIn_r _ [14, 15, 16, 17, 18, 19, 20, 21, 22, 23, 24, 25, 26, 27, 37, 38, 39, 40, 41, 42, 43, 44, 45] (by decide +kernel) (by decide +kernel)
set_option maxRecDepth 20000 in
theorem gX8_image_X3_become : GoodIn wsX8_image (wsV RX8 132 RX3 yX3_become wsX3_become) := goodIn_app (goodIn_of _ (by decide +kernel)) ggX8_image_X3_become
theorem dX8_image_0 : decode cX8_image 0 = .ok (.iload_n 1, 1) := by decide +kernel
theorem dX8_image_1 : decode cX8_image 1 = .ok (.iconst 0, 1) := by decide +kernel
theorem dX8_image_2 : decode cX8_image 2 = .ok (.iconst 1, 1) := by decide +kernel
theorem dX8_image_3 : decode cX8_image 3 = .ok (.invokestatic 66, 3) := by decide +kernel
theorem dX8_image_6 : decode cX8_image 6 = .ok (.ifCond .ne 6, 3) := by decide +kernel
theorem dX8_image_9 : decode cX8_image 9 = .ok (.ldc 70, 2) := by decide +kernel
theorem dX8_image_11 : decode cX8_image 11 = .ok (.ireturn, 1) := by decide +kernel
theorem dX8_image_12 : decode cX8_image 12 = .ok (.aload_n 0, 1) := by decide +kernel
theorem dX8_image_13 : decode cX8_image 13 = .ok (.getfield 25, 3) := by decide +kernel
theorem dX8_image_16 : decode cX8_image 16 = .ok (.getfield 139, 3) := by decide +kernel
theorem dX8_image_19 : decode cX8_image 19 = .ok (.ifCond .ne 6, 3) := by decide +kernel
theorem dX8_image_22 : decode cX8_image 22 = .ok (.ldc 145, 2) := by decide +kernel
theorem dX8_image_24 : decode cX8_image 24 = .ok (.ireturn, 1) := by decide +kernel
theorem dX8_image_25 : decode cX8_image 25 = .ok (.aload_n 0, 1) := by decide +kernel
theorem dX8_image_26 : decode cX8_image 26 = .ok (.getfield 36, 3) := by decide +kernel
theorem dX8_image_29 : decode cX8_image 29 = .ok (.iload_n 1, 1) := by decide +kernel
theorem dX8_image_30 : decode cX8_image 30 = .ok (.aaload, 1) := by decide +kernel
theorem dX8_image_31 : decode cX8_image 31 = .ok (.aload_n 0, 1) := by decide +kernel
theorem dX8_image_32 : decode cX8_image 32 = .ok (.getfield 25, 3) := by decide +kernel
theorem dX8_image_35 : decode cX8_image 35 = .ok (.invokevirtual 132, 3) := by decide +kernel
theorem dX8_image_38 : decode cX8_image 38 = .ok (.iconst 1, 1) := by decide +kernel
theorem dX8_image_39 : decode cX8_image 39 = .ok (.ireturn, 1) := by decide +kernel
set_option maxRecDepth 20000 in
theorem ggX8_restore_X8_within : GoodIn wsX8_restore wsX8_within := goodIn_r _ [10] (by decide +kernel) (by decide +kernel)
set_option maxRecDepth 20000 in
theorem gX8_restore_X8_within : GoodIn wsX8_restore (va_wsS RX8 66 yX8_within wsX8_within) := goodIn_app (goodIn_of _ (by decide +kernel)) ggX8_restore_X8_within
set_option maxRecDepth 20000 in
theorem ggX8_restore_X3_become : GoodIn wsX8_restore wsX3_become := goodIn_r _ [15, 16, 17, 18, 19, 20, 21, 22, 23, 24, 25, 26, 27, 28, 44, 45, 46, 47, 48, 49, 50, 51, 52] (by decide +kernel) (by decide +kernel)
set_option maxRecDepth 20000 in
theorem gX8_restore_X3_become : GoodIn wsX8_restore (wsV RX8 132 RX3 yX3_become wsX3_become) := goodIn_app (goodIn_of _ (by decide +kernel)) ggX8_restore_X3_become
set_option maxRecDepth 20000 in
theorem ggX8_restore_X0_forget : GoodIn wsX8_restore wsX0_forget := goodIn_r _ [33, 34, 53, 54, 55] (by decide +kernel) (by decide +kernel)
set_option maxRecDepth 20000 in
theorem gX8_restore_X0_forget : GoodIn wsX8_restore (wsV RX8 136 RX0 yX0_forget wsX0_forget) := goodIn_app (goodIn_of _ (by decide +kernel)) ggX8_restore_X0_forget
theorem dX8_restore_0 : decode cX8_restore 0 = .ok (.iload_n 1, 1) := by decide +kernel
theorem dX8_restore_1 : decode cX8_restore 1 = .ok (.iconst 0, 1) := by decide +kernel
theorem dX8_restore_2 : decode cX8_restore 2 = .ok (.iconst 1, 1) := by decide +kernel
theorem dX8_restore_3 : decode cX8_restore 3 = .ok (.invokestatic 66, 3) := by decide +kernel
theorem dX8_restore_6 : decode cX8_restore 6 = .ok (.ifCond .ne 6, 3) := by decide +kernel
theorem dX8_restore_9 : decode cX8_restore 9 = .ok (.ldc 70, 2) := by decide +kernel
theorem dX8_restore_11 : decode cX8_restore 11 = .ok (.ireturn, 1) := by decide +kernel
theorem dX8_restore_12 : decode cX8_restore 12 = .ok (.aload_n 0, 1) := by decide +kernel
theorem dX8_restore_13 : decode cX8_restore 13 = .ok (.getfield 36, 3) := by decide +kernel
theorem dX8_restore_16 : decode cX8_restore 16 = .ok (.iload_n 1, 1) := by decide +kernel
theorem dX8_restore_17 : decode cX8_restore 17 = .ok (.aaload, 1) := by decide +kernel
theorem dX8_restore_18 : decode cX8_restore 18 = .ok (.getfield 139, 3) := by decide +kernel
theorem dX8_restore_21 : decode cX8_restore 21 = .ok (.ifCond .ne 6, 3) := by decide +kernel
theorem dX8_restore_24 : decode cX8_restore 24 = .ok (.ldc 145, 2) := by decide +kernel
theorem dX8_restore_26 : decode cX8_restore 26 = .ok (.ireturn, 1) := by decide +kernel
theorem dX8_restore_27 : decode cX8_restore 27 = .ok (.aload_n 0, 1) := by decide +kernel
theorem dX8_restore_28 : decode cX8_restore 28 = .ok (.getfield 25, 3) := by decide +kernel
theorem dX8_restore_31 : decode cX8_restore 31 = .ok (.aload_n 0, 1) := by decide +kernel
theorem dX8_restore_32 : decode cX8_restore 32 = .ok (.getfield 36, 3) := by decide +kernel
theorem dX8_restore_35 : decode cX8_restore 35 = .ok (.iload_n 1, 1) := by decide +kernel
theorem dX8_restore_36 : decode cX8_restore 36 = .ok (.aaload, 1) := by decide +kernel
theorem dX8_restore_37 : decode cX8_restore 37 = .ok (.invokevirtual 132, 3) := by decide +kernel
theorem dX8_restore_40 : decode cX8_restore 40 = .ok (.aload_n 0, 1) := by decide +kernel
theorem dX8_restore_41 : decode cX8_restore 41 = .ok (.getfield 32, 3) := by decide +kernel
theorem dX8_restore_44 : decode cX8_restore 44 = .ok (.invokevirtual 136, 3) := by decide +kernel
theorem dX8_restore_47 : decode cX8_restore 47 = .ok (.iconst 1, 1) := by decide +kernel
theorem dX8_restore_48 : decode cX8_restore 48 = .ok (.ireturn, 1) := by decide +kernel
set_option maxRecDepth 20000 in
theorem ggX8_kind_X8_isPerson : GoodIn wsX8_kind wsX8_isPerson := goodIn_r _ [8, 1, 9, 10, 11, 7, 12, 13, 14, 15, 16, 17, 18, 19, 20, 21, 22, 23, 24, 25, 26, 27, 28, 29, 30] (by decide +kernel) (by decide +kernel)
set_option maxRecDepth 20000 in
theorem gX8_kind_X8_isPerson : GoodIn wsX8_kind (wsV RX8 167 RX8 yX8_isPerson wsX8_isPerson) := goodIn_app (goodIn_of _ (by decide +kernel)) ggX8_kind_X8_isPerson
theorem dX8_kind_0 : decode cX8_kind 0 = .ok (.aload_n 0, 1) := by decide +kernel
theorem dX8_kind_1 : decode cX8_kind 1 = .ok (.iload_n 1, 1) := by decide +kernel
theorem dX8_kind_2 : decode cX8_kind 2 = .ok (.invokevirtual 167, 3) := by decide +kernel
theorem dX8_kind_5 : decode cX8_kind 5 = .ok (.ifCond .eq 15, 3) := by decide +kernel
theorem dX8_kind_8 : decode cX8_kind 8 = .ok (.aload_n 0, 1) := by decide +kernel
theorem dX8_kind_9 : decode cX8_kind 9 = .ok (.getfield 25, 3) := by decide +kernel
theorem dX8_kind_12 : decode cX8_kind 12 = .ok (.getfield 298, 3) := by decide +kernel
theorem dX8_kind_15 : decode cX8_kind 15 = .ok (.iload_n 1, 1) := by decide +kernel
theorem dX8_kind_16 : decode cX8_kind 16 = .ok (.iaload, 1) := by decide +kernel
theorem dX8_kind_17 : decode cX8_kind 17 = .ok (.goto 5, 3) := by decide +kernel
theorem dX8_kind_20 : decode cX8_kind 20 = .ok (.ldc 70, 2) := by decide +kernel
theorem dX8_kind_22 : decode cX8_kind 22 = .ok (.ireturn, 1) := by decide +kernel
set_option maxRecDepth 20000 in
theorem ggX8_as_X8_isPerson : GoodIn wsX8_as wsX8_isPerson := goodIn_r _ [8, 2, 9, 10, 11, 7, 12, 28, 29, 30, 31, 32, 33, 34, 35, 36, 37, 38, 39, 40, 41, 42, 43, 44, 45] (by decide +kernel) (by decide +kernel)
set_option maxRecDepth 20000 in
theorem gX8_as_X8_isPerson : GoodIn wsX8_as (wsV RX8 167 RX8 yX8_isPerson wsX8_isPerson) := goodIn_app (goodIn_of _ (by decide +kernel)) ggX8_as_X8_isPerson
set_option maxRecDepth 20000 in
theorem ggX8_as_X8_within : GoodIn wsX8_as wsX8_within := goodIn_r _ [12] (by decide +kernel) (by decide +kernel)
set_option maxRecDepth 20000 in
theorem gX8_as_X8_within : GoodIn wsX8_as (va_wsS RX8 66 yX8_within wsX8_within) := goodIn_app (goodIn_of _ (by decide +kernel)) ggX8_as_X8_within
set_option maxRecDepth 20000 in
theorem ggX8_as_X3_isOneOf : GoodIn wsX8_as wsX3_isOneOf := goodIn_r _ [16, 17, 11, 7, 12] (by decide +kernel) (by decide +kernel)
set_option maxRecDepth 20000 in
theorem gX8_as_X3_isOneOf : GoodIn wsX8_as (va_wsS RX8 301 yX3_isOneOf wsX3_isOneOf) := goodIn_app (goodIn_of _ (by decide +kernel)) ggX8_as_X3_isOneOf
set_option maxRecDepth 20000 in
theorem ggX8_as_X8_fine : GoodIn wsX8_as wsX8_fine := goodIn_r _ [21, 22, 28, 29, 30, 31, 32, 33, 34, 35, 36] (by decide +kernel) (by decide +kernel)
set_option maxRecDepth 20000 in
theorem gX8_as_X8_fine : GoodIn wsX8_as (wsV RX8 79 RX8 yX8_fine wsX8_fine) := goodIn_app (goodIn_of _ (by decide +kernel)) ggX8_as_X8_fine
set_option maxRecDepth 20000 in
theorem ggX8_as_X8_found : GoodIn wsX8_as wsX8_found := goodIn_r _ [26, 22, 27, 28, 29, 30, 31, 32, 33, 34, 35, 36] (by decide +kernel) (by decide +kernel)
set_option maxRecDepth 20000 in
theorem gX8_as_X8_found : GoodIn wsX8_as (wsV RX8 71 RX8 yX8_found wsX8_found) := goodIn_app (goodIn_of _ (by decide +kernel)) ggX8_as_X8_found
theorem dX8_as_0 : decode cX8_as 0 = .ok (.aload_n 0, 1) := by decide +kernel
theorem dX8_as_1 : decode cX8_as 1 = .ok (.iload_n 1, 1) := by decide +kernel
theorem dX8_as_2 : decode cX8_as 2 = .ok (.invokevirtual 167, 3) := by decide +kernel
theorem dX8_as_5 : decode cX8_as 5 = .ok (.ifCond .eq 12, 3) := by decide +kernel
theorem dX8_as_8 : decode cX8_as 8 = .ok (.iload_n 2, 1) := by decide +kernel
theorem dX8_as_9 : decode cX8_as 9 = .ok (.iconst 0, 1) := by decide +kernel
theorem dX8_as_10 : decode cX8_as 10 = .ok (.iconst 5, 1) := by decide +kernel
theorem dX8_as_11 : decode cX8_as 11 = .ok (.invokestatic 66, 3) := by decide +kernel
theorem dX8_as_14 : decode cX8_as 14 = .ok (.ifCond .ne 6, 3) := by decide +kernel
theorem dX8_as_17 : decode cX8_as 17 = .ok (.ldc 70, 2) := by decide +kernel
theorem dX8_as_19 : decode cX8_as 19 = .ok (.ireturn, 1) := by decide +kernel
theorem dX8_as_20 : decode cX8_as 20 = .ok (.aload_n 0, 1) := by decide +kernel
theorem dX8_as_21 : decode cX8_as 21 = .ok (.getfield 25, 3) := by decide +kernel
theorem dX8_as_24 : decode cX8_as 24 = .ok (.getfield 298, 3) := by decide +kernel
theorem dX8_as_27 : decode cX8_as 27 = .ok (.iload_n 1, 1) := by decide +kernel
theorem dX8_as_28 : decode cX8_as 28 = .ok (.iaload, 1) := by decide +kernel
theorem dX8_as_29 : decode cX8_as 29 = .ok (.iload_n 2, 1) := by decide +kernel
theorem dX8_as_30 : decode cX8_as 30 = .ok (.invokestatic 301, 3) := by decide +kernel
theorem dX8_as_33 : decode cX8_as 33 = .ok (.ifCond .eq 11, 3) := by decide +kernel
theorem dX8_as_36 : decode cX8_as 36 = .ok (.aload_n 0, 1) := by decide +kernel
theorem dX8_as_37 : decode cX8_as 37 = .ok (.iload_n 1, 1) := by decide +kernel
theorem dX8_as_38 : decode cX8_as 38 = .ok (.invokevirtual 79, 3) := by decide +kernel
theorem dX8_as_41 : decode cX8_as 41 = .ok (.goto 8, 3) := by decide +kernel
theorem dX8_as_44 : decode cX8_as 44 = .ok (.aload_n 0, 1) := by decide +kernel
theorem dX8_as_45 : decode cX8_as 45 = .ok (.iconst 3, 1) := by decide +kernel
theorem dX8_as_46 : decode cX8_as 46 = .ok (.invokevirtual 71, 3) := by decide +kernel
theorem dX8_as_49 : decode cX8_as 49 = .ok (.ireturn, 1) := by decide +kernel
set_option maxRecDepth 20000 in
theorem ggX8_ask_X8_isPerson : GoodIn wsX8_ask wsX8_isPerson := goodIn_r _ [8, 3, 9, 10, 11, 7, 12, 72, 73, 74, 75, 76, 77, 78, 79, 80, 81, 82, 83, 84, 85, 86, 87, 88, 89] (by decide +kernel) (by decide +kernel)
set_option maxRecDepth 20000 in
theorem gX8_ask_X8_isPerson : GoodIn wsX8_ask (wsV RX8 167 RX8 yX8_isPerson wsX8_isPerson) := goodIn_app (goodIn_of _ (by decide +kernel)) ggX8_ask_X8_isPerson
set_option maxRecDepth 20000 in
theorem ggX8_ask_X8_within : GoodIn wsX8_ask wsX8_within := goodIn_r _ [12] (by decide +kernel) (by decide +kernel)
set_option maxRecDepth 20000 in
theorem gX8_ask_X8_within : GoodIn wsX8_ask (va_wsS RX8 66 yX8_within wsX8_within) := goodIn_app (goodIn_of _ (by decide +kernel)) ggX8_ask_X8_within
set_option maxRecDepth 20000 in
theorem ggX8_ask_X1_begin : GoodIn wsX8_ask wsX1_begin := goodIn_r _ [17, 18, 90, 91] (by decide +kernel) (by decide +kernel)
set_option maxRecDepth 20000 in
theorem gX8_ask_X1_begin : GoodIn wsX8_ask (wsV RX8 304 RX1 yX1_begin wsX1_begin) := goodIn_app (goodIn_of _ (by decide +kernel)) ggX8_ask_X1_begin
set_option maxRecDepth 20000 in
theorem ggX8_ask_X1_sizeOf : GoodIn wsX8_ask wsX1_sizeOf := goodIn_r _ [22, 23, 24, 25, 26, 16, 27, 28, 29, 30, 31, 18, 32, 33, 34, 35, 36, 37, 38, 39, 40, 41, 42, 43, 44, 45, 46, 47, 48, 49, 50, 51, 52, 53, 54, 55, 56, 57, 58, 81, 82, 83, 84, 85, 86, 87, 88, 89, 90, 91] (by decide +kernel) (by decide +kernel)
set_option maxRecDepth 20000 in
theorem gX8_ask_X1_sizeOf : GoodIn wsX8_ask (wsV RX8 307 RX1 yX1_sizeOf wsX1_sizeOf) := goodIn_app (goodIn_of _ (by decide +kernel)) ggX8_ask_X1_sizeOf
set_option maxRecDepth 20000 in
theorem ggX8_ask_X1_markOf : GoodIn wsX8_ask wsX1_markOf := goodIn_r _ [62, 23, 63, 64, 65, 66, 67, 11, 7, 12, 38, 39, 40, 16, 41, 28, 29, 30, 31, 18, 32, 42, 43, 44, 45, 46, 47, 48, 49, 50, 68, 69, 70, 71, 51, 52, 53, 54, 55, 56, 57, 58, 33, 34, 35, 36, 37, 81, 82, 83, 84, 85, 86, 87, 88, 89, 90, 91] (by decide +kernel) (by decide +kernel)
set_option maxRecDepth 20000 in
theorem gX8_ask_X1_markOf : GoodIn wsX8_ask (wsV RX8 310 RX1 yX1_markOf wsX1_markOf) := goodIn_app (goodIn_of _ (by decide +kernel)) ggX8_ask_X1_markOf
theorem dX8_ask_0 : decode cX8_ask 0 = .ok (.aload_n 0, 1) := by decide +kernel
theorem dX8_ask_1 : decode cX8_ask 1 = .ok (.iload_n 1, 1) := by decide +kernel
theorem dX8_ask_2 : decode cX8_ask 2 = .ok (.invokevirtual 167, 3) := by decide +kernel
theorem dX8_ask_5 : decode cX8_ask 5 = .ok (.ifCond .eq 12, 3) := by decide +kernel
theorem dX8_ask_8 : decode cX8_ask 8 = .ok (.iload_n 2, 1) := by decide +kernel
theorem dX8_ask_9 : decode cX8_ask 9 = .ok (.iconst 0, 1) := by decide +kernel
theorem dX8_ask_10 : decode cX8_ask 10 = .ok (.iconst 1, 1) := by decide +kernel
theorem dX8_ask_11 : decode cX8_ask 11 = .ok (.invokestatic 66, 3) := by decide +kernel
theorem dX8_ask_14 : decode cX8_ask 14 = .ok (.ifCond .ne 6, 3) := by decide +kernel
theorem dX8_ask_17 : decode cX8_ask 17 = .ok (.ldc 70, 2) := by decide +kernel
theorem dX8_ask_19 : decode cX8_ask 19 = .ok (.ireturn, 1) := by decide +kernel
theorem dX8_ask_20 : decode cX8_ask 20 = .ok (.aload_n 0, 1) := by decide +kernel
theorem dX8_ask_21 : decode cX8_ask 21 = .ok (.getfield 50, 3) := by decide +kernel
theorem dX8_ask_24 : decode cX8_ask 24 = .ok (.invokevirtual 304, 3) := by decide +kernel
theorem dX8_ask_27 : decode cX8_ask 27 = .ok (.iload_n 2, 1) := by decide +kernel
theorem dX8_ask_28 : decode cX8_ask 28 = .ok (.ifCond .ne 18, 3) := by decide +kernel
theorem dX8_ask_31 : decode cX8_ask 31 = .ok (.aload_n 0, 1) := by decide +kernel
theorem dX8_ask_32 : decode cX8_ask 32 = .ok (.getfield 50, 3) := by decide +kernel
theorem dX8_ask_35 : decode cX8_ask 35 = .ok (.aload_n 0, 1) := by decide +kernel
theorem dX8_ask_36 : decode cX8_ask 36 = .ok (.getfield 25, 3) := by decide +kernel
theorem dX8_ask_39 : decode cX8_ask 39 = .ok (.iload_n 1, 1) := by decide +kernel
theorem dX8_ask_40 : decode cX8_ask 40 = .ok (.invokevirtual 307, 3) := by decide +kernel
theorem dX8_ask_43 : decode cX8_ask 43 = .ok (.goto 15, 3) := by decide +kernel
theorem dX8_ask_46 : decode cX8_ask 46 = .ok (.aload_n 0, 1) := by decide +kernel
theorem dX8_ask_47 : decode cX8_ask 47 = .ok (.getfield 50, 3) := by decide +kernel
theorem dX8_ask_50 : decode cX8_ask 50 = .ok (.aload_n 0, 1) := by decide +kernel
theorem dX8_ask_51 : decode cX8_ask 51 = .ok (.getfield 25, 3) := by decide +kernel
theorem dX8_ask_54 : decode cX8_ask 54 = .ok (.iload_n 1, 1) := by decide +kernel
theorem dX8_ask_55 : decode cX8_ask 55 = .ok (.invokevirtual 310, 3) := by decide +kernel
theorem dX8_ask_58 : decode cX8_ask 58 = .ok (.ireturn, 1) := by decide +kernel
set_option maxRecDepth 20000 in
theorem ggX8_trace_X8_within : GoodIn wsX8_trace wsX8_within := goodIn_r _ [8] (by decide +kernel) (by decide +kernel)
set_option maxRecDepth 20000 in
theorem gX8_trace_X8_within : GoodIn wsX8_trace (va_wsS RX8 66 yX8_within wsX8_within) := goodIn_app (goodIn_of _ (by decide +kernel)) ggX8_trace_X8_within
theorem dX8_trace_0 : decode cX8_trace 0 = .ok (.iload_n 1, 1) := by decide +kernel
theorem dX8_trace_1 : decode cX8_trace 1 = .ok (.iconst 0, 1) := by decide +kernel
theorem dX8_trace_2 : decode cX8_trace 2 = .ok (.aload_n 0, 1) := by decide +kernel
theorem dX8_trace_3 : decode cX8_trace 3 = .ok (.getfield 50, 3) := by decide +kernel
theorem dX8_trace_6 : decode cX8_trace 6 = .ok (.getfield 313, 3) := by decide +kernel
theorem dX8_trace_9 : decode cX8_trace 9 = .ok (.iconst 1, 1) := by decide +kernel
theorem dX8_trace_10 : decode cX8_trace 10 = .ok (.isub, 1) := by decide +kernel
theorem dX8_trace_11 : decode cX8_trace 11 = .ok (.invokestatic 66, 3) := by decide +kernel
theorem dX8_trace_14 : decode cX8_trace 14 = .ok (.ifCond .eq 15, 3) := by decide +kernel
theorem dX8_trace_17 : decode cX8_trace 17 = .ok (.aload_n 0, 1) := by decide +kernel
theorem dX8_trace_18 : decode cX8_trace 18 = .ok (.getfield 50, 3) := by decide +kernel
theorem dX8_trace_21 : decode cX8_trace 21 = .ok (.getfield 314, 3) := by decide +kernel
theorem dX8_trace_24 : decode cX8_trace 24 = .ok (.iload_n 1, 1) := by decide +kernel
theorem dX8_trace_25 : decode cX8_trace 25 = .ok (.iaload, 1) := by decide +kernel
theorem dX8_trace_26 : decode cX8_trace 26 = .ok (.goto 6, 3) := by decide +kernel
theorem dX8_trace_29 : decode cX8_trace 29 = .ok (.ldc_w 317, 3) := by decide +kernel
theorem dX8_trace_32 : decode cX8_trace 32 = .ok (.ireturn, 1) := by decide +kernel
set_option maxRecDepth 20000 in
theorem ggX8_count_X8_rowsThere : GoodIn wsX8_count wsX8_rowsThere := goodIn_r _ [14, 15, 16, 17, 18, 19, 20, 21, 34, 35, 36, 37, 38, 39, 40, 41, 42, 59, 60, 61] (by decide +kernel) (by decide +kernel)
set_option maxRecDepth 20000 in
theorem gX8_count_X8_rowsThere : GoodIn wsX8_count (wsV RX8 318 RX8 yX8_rowsThere wsX8_rowsThere) := goodIn_app (goodIn_of _ (by decide +kernel)) ggX8_count_X8_rowsThere
set_option maxRecDepth 20000 in
theorem ggX8_count_X3_waitingAt : GoodIn wsX8_count wsX3_waitingAt := goodIn_r _ [26, 27, 28, 43, 44, 45, 46, 47, 48, 49, 50, 51] (by decide +kernel) (by decide +kernel)
set_option maxRecDepth 20000 in
theorem gX8_count_X3_waitingAt : GoodIn wsX8_count (wsV RX8 199 RX3 yX3_waitingAt wsX3_waitingAt) := goodIn_app (goodIn_of _ (by decide +kernel)) ggX8_count_X3_waitingAt
set_option maxRecDepth 20000 in
theorem ggX8_count_X3_nobodies : GoodIn wsX8_count wsX3_nobodies := goodIn_r _ [32, 27, 33, 43, 44, 45, 46, 47, 48, 49, 50, 51] (by decide +kernel) (by decide +kernel)
set_option maxRecDepth 20000 in
theorem gX8_count_X3_nobodies : GoodIn wsX8_count (wsV RX8 185 RX3 yX3_nobodies wsX3_nobodies) := goodIn_app (goodIn_of _ (by decide +kernel)) ggX8_count_X3_nobodies
theorem dX8_count_0 : decode cX8_count 0 = .ok (.iload_n 1, 1) := by decide +kernel
theorem dX8_count_1 : decode cX8_count 1 = .ok (.tableswitch 109 0 7 #[47, 52, 60, 68, 76, 85, 93, 101], 47) := by decide +kernel
theorem dX8_count_48 : decode cX8_count 48 = .ok (.aload_n 0, 1) := by decide +kernel
theorem dX8_count_49 : decode cX8_count 49 = .ok (.invokevirtual 318, 3) := by decide +kernel
theorem dX8_count_52 : decode cX8_count 52 = .ok (.ireturn, 1) := by decide +kernel
theorem dX8_count_53 : decode cX8_count 53 = .ok (.aload_n 0, 1) := by decide +kernel
theorem dX8_count_54 : decode cX8_count 54 = .ok (.getfield 25, 3) := by decide +kernel
theorem dX8_count_57 : decode cX8_count 57 = .ok (.getfield 232, 3) := by decide +kernel
theorem dX8_count_60 : decode cX8_count 60 = .ok (.ireturn, 1) := by decide +kernel
theorem dX8_count_61 : decode cX8_count 61 = .ok (.aload_n 0, 1) := by decide +kernel
theorem dX8_count_62 : decode cX8_count 62 = .ok (.getfield 25, 3) := by decide +kernel
theorem dX8_count_65 : decode cX8_count 65 = .ok (.getfield 139, 3) := by decide +kernel
theorem dX8_count_68 : decode cX8_count 68 = .ok (.ireturn, 1) := by decide +kernel
theorem dX8_count_69 : decode cX8_count 69 = .ok (.aload_n 0, 1) := by decide +kernel
theorem dX8_count_70 : decode cX8_count 70 = .ok (.getfield 25, 3) := by decide +kernel
theorem dX8_count_73 : decode cX8_count 73 = .ok (.getfield 153, 3) := by decide +kernel
theorem dX8_count_76 : decode cX8_count 76 = .ok (.ireturn, 1) := by decide +kernel
theorem dX8_count_77 : decode cX8_count 77 = .ok (.aload_n 0, 1) := by decide +kernel
theorem dX8_count_78 : decode cX8_count 78 = .ok (.getfield 25, 3) := by decide +kernel
theorem dX8_count_81 : decode cX8_count 81 = .ok (.iconst (-1), 1) := by decide +kernel
theorem dX8_count_82 : decode cX8_count 82 = .ok (.invokevirtual 199, 3) := by decide +kernel
theorem dX8_count_85 : decode cX8_count 85 = .ok (.ireturn, 1) := by decide +kernel
theorem dX8_count_86 : decode cX8_count 86 = .ok (.aload_n 0, 1) := by decide +kernel
theorem dX8_count_87 : decode cX8_count 87 = .ok (.getfield 25, 3) := by decide +kernel
theorem dX8_count_90 : decode cX8_count 90 = .ok (.invokevirtual 185, 3) := by decide +kernel
theorem dX8_count_93 : decode cX8_count 93 = .ok (.ireturn, 1) := by decide +kernel
theorem dX8_count_94 : decode cX8_count 94 = .ok (.aload_n 0, 1) := by decide +kernel
theorem dX8_count_95 : decode cX8_count 95 = .ok (.getfield 32, 3) := by decide +kernel
theorem dX8_count_98 : decode cX8_count 98 = .ok (.getfield 142, 3) := by decide +kernel
theorem dX8_count_101 : decode cX8_count 101 = .ok (.ireturn, 1) := by decide +kernel
theorem dX8_count_102 : decode cX8_count 102 = .ok (.aload_n 0, 1) := by decide +kernel
theorem dX8_count_103 : decode cX8_count 103 = .ok (.getfield 18, 3) := by decide +kernel
theorem dX8_count_106 : decode cX8_count 106 = .ok (.getfield 114, 3) := by decide +kernel
theorem dX8_count_109 : decode cX8_count 109 = .ok (.ireturn, 1) := by decide +kernel
theorem dX8_count_110 : decode cX8_count 110 = .ok (.ldc 70, 2) := by decide +kernel
theorem dX8_count_112 : decode cX8_count 112 = .ok (.ireturn, 1) := by decide +kernel
theorem dX8_status_0 : decode cX8_status 0 = .ok (.aload_n 0, 1) := by decide +kernel
theorem dX8_status_1 : decode cX8_status 1 = .ok (.getfield 58, 3) := by decide +kernel
theorem dX8_status_4 : decode cX8_status 4 = .ok (.ireturn, 1) := by decide +kernel
theorem dX8_within_0 : decode cX8_within 0 = .ok (.iload_n 0, 1) := by decide +kernel
theorem dX8_within_1 : decode cX8_within 1 = .ok (.iload_n 1, 1) := by decide +kernel
theorem dX8_within_2 : decode cX8_within 2 = .ok (.if_icmp .lt 12, 3) := by decide +kernel
theorem dX8_within_5 : decode cX8_within 5 = .ok (.iload_n 0, 1) := by decide +kernel
theorem dX8_within_6 : decode cX8_within 6 = .ok (.iload_n 2, 1) := by decide +kernel
theorem dX8_within_7 : decode cX8_within 7 = .ok (.if_icmp .gt 7, 3) := by decide +kernel
theorem dX8_within_10 : decode cX8_within 10 = .ok (.iconst 1, 1) := by decide +kernel
theorem dX8_within_11 : decode cX8_within 11 = .ok (.goto 4, 3) := by decide +kernel
theorem dX8_within_14 : decode cX8_within 14 = .ok (.iconst 0, 1) := by decide +kernel
theorem dX8_within_15 : decode cX8_within 15 = .ok (.ireturn, 1) := by decide +kernel
set_option maxRecDepth 20000 in
theorem ggX8_isRow_X8_within : GoodIn wsX8_isRow wsX8_within := goodIn_r _ [4] (by decide +kernel) (by decide +kernel)
set_option maxRecDepth 20000 in
theorem gX8_isRow_X8_within : GoodIn wsX8_isRow (va_wsS RX8 66 yX8_within wsX8_within) := goodIn_app (goodIn_of _ (by decide +kernel)) ggX8_isRow_X8_within
theorem dX8_isRow_0 : decode cX8_isRow 0 = .ok (.iload_n 0, 1) := by decide +kernel
theorem dX8_isRow_1 : decode cX8_isRow 1 = .ok (.iconst 0, 1) := by decide +kernel
theorem dX8_isRow_2 : decode cX8_isRow 2 = .ok (.bipush 7, 2) := by decide +kernel
theorem dX8_isRow_4 : decode cX8_isRow 4 = .ok (.invokestatic 66, 3) := by decide +kernel
theorem dX8_isRow_7 : decode cX8_isRow 7 = .ok (.ireturn, 1) := by decide +kernel
set_option maxRecDepth 20000 in
theorem ggX8_isPerson_X8_within : GoodIn wsX8_isPerson wsX8_within := goodIn_r _ [6] (by decide +kernel) (by decide +kernel)
set_option maxRecDepth 20000 in
theorem gX8_isPerson_X8_within : GoodIn wsX8_isPerson (va_wsS RX8 66 yX8_within wsX8_within) := goodIn_app (goodIn_of _ (by decide +kernel)) ggX8_isPerson_X8_within
theorem dX8_isPerson_0 : decode cX8_isPerson 0 = .ok (.iload_n 1, 1) := by decide +kernel
theorem dX8_isPerson_1 : decode cX8_isPerson 1 = .ok (.iconst 0, 1) := by decide +kernel
theorem dX8_isPerson_2 : decode cX8_isPerson 2 = .ok (.aload_n 0, 1) := by decide +kernel
theorem dX8_isPerson_3 : decode cX8_isPerson 3 = .ok (.getfield 25, 3) := by decide +kernel
theorem dX8_isPerson_6 : decode cX8_isPerson 6 = .ok (.getfield 139, 3) := by decide +kernel
theorem dX8_isPerson_9 : decode cX8_isPerson 9 = .ok (.iconst 1, 1) := by decide +kernel
theorem dX8_isPerson_10 : decode cX8_isPerson 10 = .ok (.isub, 1) := by decide +kernel
theorem dX8_isPerson_11 : decode cX8_isPerson 11 = .ok (.invokestatic 66, 3) := by decide +kernel
theorem dX8_isPerson_14 : decode cX8_isPerson 14 = .ok (.ireturn, 1) := by decide +kernel
set_option maxRecDepth 20000 in
theorem ggX8_isDoor_X8_within : GoodIn wsX8_isDoor wsX8_within := goodIn_r _ [6] (by decide +kernel) (by decide +kernel)
set_option maxRecDepth 20000 in
theorem gX8_isDoor_X8_within : GoodIn wsX8_isDoor (va_wsS RX8 66 yX8_within wsX8_within) := goodIn_app (goodIn_of _ (by decide +kernel)) ggX8_isDoor_X8_within
theorem dX8_isDoor_0 : decode cX8_isDoor 0 = .ok (.iload_n 1, 1) := by decide +kernel
theorem dX8_isDoor_1 : decode cX8_isDoor 1 = .ok (.iconst 0, 1) := by decide +kernel
theorem dX8_isDoor_2 : decode cX8_isDoor 2 = .ok (.aload_n 0, 1) := by decide +kernel
theorem dX8_isDoor_3 : decode cX8_isDoor 3 = .ok (.getfield 25, 3) := by decide +kernel
theorem dX8_isDoor_6 : decode cX8_isDoor 6 = .ok (.getfield 232, 3) := by decide +kernel
theorem dX8_isDoor_9 : decode cX8_isDoor 9 = .ok (.iconst 1, 1) := by decide +kernel
theorem dX8_isDoor_10 : decode cX8_isDoor 10 = .ok (.isub, 1) := by decide +kernel
theorem dX8_isDoor_11 : decode cX8_isDoor 11 = .ok (.invokestatic 66, 3) := by decide +kernel
theorem dX8_isDoor_14 : decode cX8_isDoor 14 = .ok (.ireturn, 1) := by decide +kernel
theorem dX8_refusal_0 : decode cX8_refusal 0 = .ok (.aload_n 0, 1) := by decide +kernel
theorem dX8_refusal_1 : decode cX8_refusal 1 = .ok (.getfield 25, 3) := by decide +kernel
theorem dX8_refusal_4 : decode cX8_refusal 4 = .ok (.getfield 139, 3) := by decide +kernel
theorem dX8_refusal_7 : decode cX8_refusal 7 = .ok (.ifCond .ne 6, 3) := by decide +kernel
theorem dX8_refusal_10 : decode cX8_refusal 10 = .ok (.ldc 145, 2) := by decide +kernel
theorem dX8_refusal_12 : decode cX8_refusal 12 = .ok (.ireturn, 1) := by decide +kernel
theorem dX8_refusal_13 : decode cX8_refusal 13 = .ok (.iload_n 1, 1) := by decide +kernel
theorem dX8_refusal_14 : decode cX8_refusal 14 = .ok (.ifCond .eq 7, 3) := by decide +kernel
theorem dX8_refusal_17 : decode cX8_refusal 17 = .ok (.iconst 0, 1) := by decide +kernel
theorem dX8_refusal_18 : decode cX8_refusal 18 = .ok (.goto 5, 3) := by decide +kernel
theorem dX8_refusal_21 : decode cX8_refusal 21 = .ok (.ldc 70, 2) := by decide +kernel
theorem dX8_refusal_23 : decode cX8_refusal 23 = .ok (.ireturn, 1) := by decide +kernel
theorem dX8_found_0 : decode cX8_found 0 = .ok (.aload_n 0, 1) := by decide +kernel
theorem dX8_found_1 : decode cX8_found 1 = .ok (.iload_n 1, 1) := by decide +kernel
theorem dX8_found_2 : decode cX8_found 2 = .ok (.putfield 58, 3) := by decide +kernel
theorem dX8_found_5 : decode cX8_found 5 = .ok (.ldc_w 321, 3) := by decide +kernel
theorem dX8_found_8 : decode cX8_found 8 = .ok (.iload_n 1, 1) := by decide +kernel
theorem dX8_found_9 : decode cX8_found 9 = .ok (.isub, 1) := by decide +kernel
theorem dX8_found_10 : decode cX8_found 10 = .ok (.ireturn, 1) := by decide +kernel
theorem dX8_fine_0 : decode cX8_fine 0 = .ok (.aload_n 0, 1) := by decide +kernel
theorem dX8_fine_1 : decode cX8_fine 1 = .ok (.iconst 0, 1) := by decide +kernel
theorem dX8_fine_2 : decode cX8_fine 2 = .ok (.putfield 58, 3) := by decide +kernel
theorem dX8_fine_5 : decode cX8_fine 5 = .ok (.iload_n 1, 1) := by decide +kernel
theorem dX8_fine_6 : decode cX8_fine 6 = .ok (.ireturn, 1) := by decide +kernel
theorem dX8_orNone_0 : decode cX8_orNone 0 = .ok (.iload_n 0, 1) := by decide +kernel
theorem dX8_orNone_1 : decode cX8_orNone 1 = .ok (.ifCond .ge 9, 3) := by decide +kernel
theorem dX8_orNone_4 : decode cX8_orNone 4 = .ok (.ldc_w 317, 3) := by decide +kernel
theorem dX8_orNone_7 : decode cX8_orNone 7 = .ok (.goto 4, 3) := by decide +kernel
theorem dX8_orNone_10 : decode cX8_orNone 10 = .ok (.iload_n 0, 1) := by decide +kernel
theorem dX8_orNone_11 : decode cX8_orNone 11 = .ok (.ireturn, 1) := by decide +kernel
set_option maxRecDepth 20000 in
theorem ggX8_setAnswer_J6_bitCount_0f7a4 : GoodIn wsX8_setAnswer wsJ6_bitCount_0f7a4 := goodIn_r _ [5, 6, 7, 8] (by decide +kernel) (by decide +kernel)
set_option maxRecDepth 20000 in
theorem gX8_setAnswer_J6_bitCount_0f7a4 : GoodIn wsX8_setAnswer (va_wsS RX8 188 yJ6_bitCount_0f7a4 wsJ6_bitCount_0f7a4) := goodIn_app (goodIn_of _ (by decide +kernel)) ggX8_setAnswer_J6_bitCount_0f7a4
theorem dX8_setAnswer_0 : decode cX8_setAnswer 0 = .ok (.iload_n 0, 1) := by decide +kernel
theorem dX8_setAnswer_1 : decode cX8_setAnswer 1 = .ok (.ifCond .ge 7, 3) := by decide +kernel
theorem dX8_setAnswer_4 : decode cX8_setAnswer 4 = .ok (.ldc_w 317, 3) := by decide +kernel
theorem dX8_setAnswer_7 : decode cX8_setAnswer 7 = .ok (.ireturn, 1) := by decide +kernel
theorem dX8_setAnswer_8 : decode cX8_setAnswer 8 = .ok (.iload_n 1, 1) := by decide +kernel
theorem dX8_setAnswer_9 : decode cX8_setAnswer 9 = .ok (.ifCond .ne 10, 3) := by decide +kernel
theorem dX8_setAnswer_12 : decode cX8_setAnswer 12 = .ok (.iload_n 0, 1) := by decide +kernel
theorem dX8_setAnswer_13 : decode cX8_setAnswer 13 = .ok (.invokestatic 188, 3) := by decide +kernel
theorem dX8_setAnswer_16 : decode cX8_setAnswer 16 = .ok (.goto 4, 3) := by decide +kernel
theorem dX8_setAnswer_19 : decode cX8_setAnswer 19 = .ok (.iload_n 0, 1) := by decide +kernel
theorem dX8_setAnswer_20 : decode cX8_setAnswer 20 = .ok (.ireturn, 1) := by decide +kernel
set_option maxRecDepth 20000 in
theorem ggX8_seenTrouble_X8_isDoor : GoodIn wsX8_seenTrouble wsX8_isDoor := goodIn_r _ [7, 8, 9, 10, 11, 6, 12, 37, 38, 39, 40, 41, 42, 43, 44, 45, 46, 47, 48, 49, 50, 51, 52, 53, 54] (by decide +kernel) (by decide +kernel)
set_option maxRecDepth 20000 in
theorem gX8_seenTrouble_X8_isDoor : GoodIn wsX8_seenTrouble (wsV RX8 170 RX8 yX8_isDoor wsX8_isDoor) := goodIn_app (goodIn_of _ (by decide +kernel)) ggX8_seenTrouble_X8_isDoor
set_option maxRecDepth 20000 in
theorem ggX8_seenTrouble_X8_isPerson : GoodIn wsX8_seenTrouble wsX8_isPerson := goodIn_r _ [16, 8, 17, 10, 11, 6, 12, 37, 38, 39, 40, 41, 42, 43, 44, 45, 46, 47, 48, 49, 50, 51, 52, 53, 54] (by decide +kernel) (by decide +kernel)
set_option maxRecDepth 20000 in
theorem gX8_seenTrouble_X8_isPerson : GoodIn wsX8_seenTrouble (wsV RX8 167 RX8 yX8_isPerson wsX8_isPerson) := goodIn_app (goodIn_of _ (by decide +kernel)) ggX8_seenTrouble_X8_isPerson
set_option maxRecDepth 20000 in
theorem ggX8_seenTrouble_X8_isRow : GoodIn wsX8_seenTrouble wsX8_isRow := goodIn_r _ [20, 10, 11, 6, 12] (by decide +kernel) (by decide +kernel)
set_option maxRecDepth 20000 in
theorem gX8_seenTrouble_X8_isRow : GoodIn wsX8_seenTrouble (va_wsS RX8 62 yX8_isRow wsX8_isRow) := goodIn_app (goodIn_of _ (by decide +kernel)) ggX8_seenTrouble_X8_isRow
set_option maxRecDepth 20000 in
theorem ggX8_seenTrouble_X8_within : GoodIn wsX8_seenTrouble wsX8_within := goodIn_r _ [12] (by decide +kernel) (by decide +kernel)
set_option maxRecDepth 20000 in
theorem gX8_seenTrouble_X8_within : GoodIn wsX8_seenTrouble (va_wsS RX8 66 yX8_within wsX8_within) := goodIn_app (goodIn_of _ (by decide +kernel)) ggX8_seenTrouble_X8_within
set_option maxRecDepth 20000 in
theorem ggX8_seenTrouble_X6_isMissing : GoodIn wsX8_seenTrouble wsX6_isMissing := goodIn_r _ [25, 26, 55, 56, 57] (by decide +kernel) (by decide +kernel)
set_option maxRecDepth 20000 in
theorem gX8_seenTrouble_X6_isMissing : GoodIn wsX8_seenTrouble (wsV RX8 82 RX6 yX6_isMissing wsX6_isMissing) := goodIn_app (goodIn_of _ (by decide +kernel)) ggX8_seenTrouble_X6_isMissing
set_option maxRecDepth 20000 in
theorem ggX8_seenTrouble_X8_found : GoodIn wsX8_seenTrouble wsX8_found := goodIn_r _ [30, 31, 32, 37, 38, 39, 40, 41, 42, 43, 44, 45] (by decide +kernel) (by decide +kernel)
set_option maxRecDepth 20000 in
theorem gX8_seenTrouble_X8_found : GoodIn wsX8_seenTrouble (wsV RX8 71 RX8 yX8_found wsX8_found) := goodIn_app (goodIn_of _ (by decide +kernel)) ggX8_seenTrouble_X8_found
set_option maxRecDepth 20000 in
theorem ggX8_seenTrouble_X6_holds : GoodIn wsX8_seenTrouble wsX6_holds := goodIn_r _ [36, 26, 55, 56, 57] (by decide +kernel) (by decide +kernel)
set_option maxRecDepth 20000 in
theorem gX8_seenTrouble_X6_holds : GoodIn wsX8_seenTrouble (wsV RX8 86 RX6 yX6_holds wsX6_holds) := goodIn_app (goodIn_of _ (by decide +kernel)) ggX8_seenTrouble_X6_holds
theorem dX8_seenTrouble_0 : decode cX8_seenTrouble 0 = .ok (.aload_n 0, 1) := by decide +kernel
theorem dX8_seenTrouble_1 : decode cX8_seenTrouble 1 = .ok (.iload_n 1, 1) := by decide +kernel
theorem dX8_seenTrouble_2 : decode cX8_seenTrouble 2 = .ok (.invokevirtual 170, 3) := by decide +kernel
theorem dX8_seenTrouble_5 : decode cX8_seenTrouble 5 = .ok (.ifCond .eq 29, 3) := by decide +kernel
theorem dX8_seenTrouble_8 : decode cX8_seenTrouble 8 = .ok (.aload_n 0, 1) := by decide +kernel
theorem dX8_seenTrouble_9 : decode cX8_seenTrouble 9 = .ok (.iload_n 2, 1) := by decide +kernel
theorem dX8_seenTrouble_10 : decode cX8_seenTrouble 10 = .ok (.invokevirtual 167, 3) := by decide +kernel
theorem dX8_seenTrouble_13 : decode cX8_seenTrouble 13 = .ok (.ifCond .eq 21, 3) := by decide +kernel
theorem dX8_seenTrouble_16 : decode cX8_seenTrouble 16 = .ok (.iload_n 3, 1) := by decide +kernel
theorem dX8_seenTrouble_17 : decode cX8_seenTrouble 17 = .ok (.invokestatic 62, 3) := by decide +kernel
theorem dX8_seenTrouble_20 : decode cX8_seenTrouble 20 = .ok (.ifCond .eq 14, 3) := by decide +kernel
theorem dX8_seenTrouble_23 : decode cX8_seenTrouble 23 = .ok (.iload 5, 2) := by decide +kernel
theorem dX8_seenTrouble_25 : decode cX8_seenTrouble 25 = .ok (.iconst 1, 1) := by decide +kernel
theorem dX8_seenTrouble_26 : decode cX8_seenTrouble 26 = .ok (.bipush 12, 2) := by decide +kernel
theorem dX8_seenTrouble_28 : decode cX8_seenTrouble 28 = .ok (.invokestatic 66, 3) := by decide +kernel
theorem dX8_seenTrouble_31 : decode cX8_seenTrouble 31 = .ok (.ifCond .ne 6, 3) := by decide +kernel
theorem dX8_seenTrouble_34 : decode cX8_seenTrouble 34 = .ok (.ldc 70, 2) := by decide +kernel
theorem dX8_seenTrouble_36 : decode cX8_seenTrouble 36 = .ok (.ireturn, 1) := by decide +kernel
theorem dX8_seenTrouble_37 : decode cX8_seenTrouble 37 = .ok (.aload_n 0, 1) := by decide +kernel
theorem dX8_seenTrouble_38 : decode cX8_seenTrouble 38 = .ok (.getfield 11, 3) := by decide +kernel
theorem dX8_seenTrouble_41 : decode cX8_seenTrouble 41 = .ok (.iload_n 3, 1) := by decide +kernel
theorem dX8_seenTrouble_42 : decode cX8_seenTrouble 42 = .ok (.aaload, 1) := by decide +kernel
theorem dX8_seenTrouble_43 : decode cX8_seenTrouble 43 = .ok (.invokevirtual 82, 3) := by decide +kernel
theorem dX8_seenTrouble_46 : decode cX8_seenTrouble 46 = .ok (.ifCond .eq 9, 3) := by decide +kernel
theorem dX8_seenTrouble_49 : decode cX8_seenTrouble 49 = .ok (.aload_n 0, 1) := by decide +kernel
theorem dX8_seenTrouble_50 : decode cX8_seenTrouble 50 = .ok (.iconst 1, 1) := by decide +kernel
theorem dX8_seenTrouble_51 : decode cX8_seenTrouble 51 = .ok (.invokevirtual 71, 3) := by decide +kernel
theorem dX8_seenTrouble_54 : decode cX8_seenTrouble 54 = .ok (.ireturn, 1) := by decide +kernel
theorem dX8_seenTrouble_55 : decode cX8_seenTrouble 55 = .ok (.aload_n 0, 1) := by decide +kernel
theorem dX8_seenTrouble_56 : decode cX8_seenTrouble 56 = .ok (.getfield 11, 3) := by decide +kernel
theorem dX8_seenTrouble_59 : decode cX8_seenTrouble 59 = .ok (.iload_n 3, 1) := by decide +kernel
theorem dX8_seenTrouble_60 : decode cX8_seenTrouble 60 = .ok (.aaload, 1) := by decide +kernel
theorem dX8_seenTrouble_61 : decode cX8_seenTrouble 61 = .ok (.iload 4, 2) := by decide +kernel
theorem dX8_seenTrouble_63 : decode cX8_seenTrouble 63 = .ok (.iload 5, 2) := by decide +kernel
theorem dX8_seenTrouble_65 : decode cX8_seenTrouble 65 = .ok (.invokevirtual 86, 3) := by decide +kernel
theorem dX8_seenTrouble_68 : decode cX8_seenTrouble 68 = .ok (.ifCond .eq 7, 3) := by decide +kernel
theorem dX8_seenTrouble_71 : decode cX8_seenTrouble 71 = .ok (.iconst 0, 1) := by decide +kernel
theorem dX8_seenTrouble_72 : decode cX8_seenTrouble 72 = .ok (.goto 8, 3) := by decide +kernel
theorem dX8_seenTrouble_75 : decode cX8_seenTrouble 75 = .ok (.aload_n 0, 1) := by decide +kernel
theorem dX8_seenTrouble_76 : decode cX8_seenTrouble 76 = .ok (.iconst 2, 1) := by decide +kernel
theorem dX8_seenTrouble_77 : decode cX8_seenTrouble 77 = .ok (.invokevirtual 71, 3) := by decide +kernel
theorem dX8_seenTrouble_80 : decode cX8_seenTrouble 80 = .ok (.ireturn, 1) := by decide +kernel
set_option maxRecDepth 20000 in
theorem ggX8_rowsThere_X6_isMissing : GoodIn wsX8_rowsThere wsX6_isMissing := goodIn_r _ [6, 7, 17, 18, 19] (by decide +kernel) (by decide +kernel)
set_option maxRecDepth 20000 in
theorem gX8_rowsThere_X6_isMissing : GoodIn wsX8_rowsThere (wsV RX8 82 RX6 yX6_isMissing wsX6_isMissing) := goodIn_app (goodIn_of _ (by decide +kernel)) ggX8_rowsThere_X6_isMissing
theorem dX8_rowsThere_0 : decode cX8_rowsThere 0 = .ok (.iconst 0, 1) := by decide +kernel
theorem dX8_rowsThere_1 : decode cX8_rowsThere 1 = .ok (.istore_n 1, 1) := by decide +kernel
theorem dX8_rowsThere_2 : decode cX8_rowsThere 2 = .ok (.iconst 0, 1) := by decide +kernel
theorem dX8_rowsThere_3 : decode cX8_rowsThere 3 = .ok (.istore_n 2, 1) := by decide +kernel
theorem dX8_rowsThere_4 : decode cX8_rowsThere 4 = .ok (.iload_n 2, 1) := by decide +kernel
theorem dX8_rowsThere_5 : decode cX8_rowsThere 5 = .ok (.bipush 8, 2) := by decide +kernel
theorem dX8_rowsThere_7 : decode cX8_rowsThere 7 = .ok (.if_icmp .ge 24, 3) := by decide +kernel
theorem dX8_rowsThere_10 : decode cX8_rowsThere 10 = .ok (.aload_n 0, 1) := by decide +kernel
theorem dX8_rowsThere_11 : decode cX8_rowsThere 11 = .ok (.getfield 11, 3) := by decide +kernel
theorem dX8_rowsThere_14 : decode cX8_rowsThere 14 = .ok (.iload_n 2, 1) := by decide +kernel
theorem dX8_rowsThere_15 : decode cX8_rowsThere 15 = .ok (.aaload, 1) := by decide +kernel
theorem dX8_rowsThere_16 : decode cX8_rowsThere 16 = .ok (.invokevirtual 82, 3) := by decide +kernel
theorem dX8_rowsThere_19 : decode cX8_rowsThere 19 = .ok (.ifCond .ne 6, 3) := by decide +kernel
theorem dX8_rowsThere_22 : decode cX8_rowsThere 22 = .ok (.iinc 1 1, 3) := by decide +kernel
theorem dX8_rowsThere_25 : decode cX8_rowsThere 25 = .ok (.iinc 2 1, 3) := by decide +kernel
theorem dX8_rowsThere_28 : decode cX8_rowsThere 28 = .ok (.goto (-24), 3) := by decide +kernel
theorem dX8_rowsThere_31 : decode cX8_rowsThere 31 = .ok (.iload_n 1, 1) := by decide +kernel
theorem dX8_rowsThere_32 : decode cX8_rowsThere 32 = .ok (.ireturn, 1) := by decide +kernel
theorem dX8_greatestDivisor_0 : decode cX8_greatestDivisor 0 = .ok (.lload_n 0, 1) := by decide +kernel
theorem dX8_greatestDivisor_1 : decode cX8_greatestDivisor 1 = .ok (.lstore 4, 2) := by decide +kernel
theorem dX8_greatestDivisor_3 : decode cX8_greatestDivisor 3 = .ok (.lload_n 2, 1) := by decide +kernel
theorem dX8_greatestDivisor_4 : decode cX8_greatestDivisor 4 = .ok (.lstore 6, 2) := by decide +kernel
theorem dX8_greatestDivisor_6 : decode cX8_greatestDivisor 6 = .ok (.iconst 0, 1) := by decide +kernel
theorem dX8_greatestDivisor_7 : decode cX8_greatestDivisor 7 = .ok (.istore 8, 2) := by decide +kernel
theorem dX8_greatestDivisor_9 : decode cX8_greatestDivisor 9 = .ok (.iload 8, 2) := by decide +kernel
theorem dX8_greatestDivisor_11 : decode cX8_greatestDivisor 11 = .ok (.bipush 100, 2) := by decide +kernel
theorem dX8_greatestDivisor_13 : decode cX8_greatestDivisor 13 = .ok (.if_icmp .ge 31, 3) := by decide +kernel
theorem dX8_greatestDivisor_16 : decode cX8_greatestDivisor 16 = .ok (.lload 6, 2) := by decide +kernel
theorem dX8_greatestDivisor_18 : decode cX8_greatestDivisor 18 = .ok (.lconst 0, 1) := by decide +kernel
theorem dX8_greatestDivisor_19 : decode cX8_greatestDivisor 19 = .ok (.lcmp, 1) := by decide +kernel
theorem dX8_greatestDivisor_20 : decode cX8_greatestDivisor 20 = .ok (.ifCond .eq 24, 3) := by decide +kernel
theorem dX8_greatestDivisor_23 : decode cX8_greatestDivisor 23 = .ok (.lload 4, 2) := by decide +kernel
theorem dX8_greatestDivisor_25 : decode cX8_greatestDivisor 25 = .ok (.lload 6, 2) := by decide +kernel
theorem dX8_greatestDivisor_27 : decode cX8_greatestDivisor 27 = .ok (.lrem, 1) := by decide +kernel
theorem dX8_greatestDivisor_28 : decode cX8_greatestDivisor 28 = .ok (.lstore 9, 2) := by decide +kernel
theorem dX8_greatestDivisor_30 : decode cX8_greatestDivisor 30 = .ok (.lload 6, 2) := by decide +kernel
theorem dX8_greatestDivisor_32 : decode cX8_greatestDivisor 32 = .ok (.lstore 4, 2) := by decide +kernel
theorem dX8_greatestDivisor_34 : decode cX8_greatestDivisor 34 = .ok (.lload 9, 2) := by decide +kernel
theorem dX8_greatestDivisor_36 : decode cX8_greatestDivisor 36 = .ok (.lstore 6, 2) := by decide +kernel
theorem dX8_greatestDivisor_38 : decode cX8_greatestDivisor 38 = .ok (.iinc 8 1, 3) := by decide +kernel
theorem dX8_greatestDivisor_41 : decode cX8_greatestDivisor 41 = .ok (.goto (-32), 3) := by decide +kernel
theorem dX8_greatestDivisor_44 : decode cX8_greatestDivisor 44 = .ok (.lload 4, 2) := by decide +kernel
theorem dX8_greatestDivisor_46 : decode cX8_greatestDivisor 46 = .ok (.lconst 1, 1) := by decide +kernel
theorem dX8_greatestDivisor_47 : decode cX8_greatestDivisor 47 = .ok (.lcmp, 1) := by decide +kernel
theorem dX8_greatestDivisor_48 : decode cX8_greatestDivisor 48 = .ok (.ifCond .ge 7, 3) := by decide +kernel
theorem dX8_greatestDivisor_51 : decode cX8_greatestDivisor 51 = .ok (.lconst 1, 1) := by decide +kernel
theorem dX8_greatestDivisor_52 : decode cX8_greatestDivisor 52 = .ok (.goto 5, 3) := by decide +kernel
theorem dX8_greatestDivisor_55 : decode cX8_greatestDivisor 55 = .ok (.lload 4, 2) := by decide +kernel
theorem dX8_greatestDivisor_57 : decode cX8_greatestDivisor 57 = .ok (.lreturn, 1) := by decide +kernel
theorem dX9_init_0 : decode cX9_init 0 = .ok (.aload_n 0, 1) := by decide +kernel
theorem dX9_init_1 : decode cX9_init 1 = .ok (.invokespecial 1, 3) := by decide +kernel
theorem dX9_init_4 : decode cX9_init 4 = .ok (.aload_n 0, 1) := by decide +kernel
theorem dX9_init_5 : decode cX9_init 5 = .ok (.bipush 8, 2) := by decide +kernel
theorem dX9_init_7 : decode cX9_init 7 = .ok (.newarray .int, 2) := by decide +kernel
theorem dX9_init_9 : decode cX9_init 9 = .ok (.dup, 1) := by decide +kernel
theorem dX9_init_10 : decode cX9_init 10 = .ok (.iconst 0, 1) := by decide +kernel
theorem dX9_init_11 : decode cX9_init 11 = .ok (.iconst (-1), 1) := by decide +kernel
theorem dX9_init_12 : decode cX9_init 12 = .ok (.iastore, 1) := by decide +kernel
theorem dX9_init_13 : decode cX9_init 13 = .ok (.dup, 1) := by decide +kernel
theorem dX9_init_14 : decode cX9_init 14 = .ok (.iconst 1, 1) := by decide +kernel
theorem dX9_init_15 : decode cX9_init 15 = .ok (.iconst (-1), 1) := by decide +kernel
theorem dX9_init_16 : decode cX9_init 16 = .ok (.iastore, 1) := by decide +kernel
theorem dX9_init_17 : decode cX9_init 17 = .ok (.dup, 1) := by decide +kernel
theorem dX9_init_18 : decode cX9_init 18 = .ok (.iconst 2, 1) := by decide +kernel
theorem dX9_init_19 : decode cX9_init 19 = .ok (.iconst (-1), 1) := by decide +kernel
theorem dX9_init_20 : decode cX9_init 20 = .ok (.iastore, 1) := by decide +kernel
theorem dX9_init_21 : decode cX9_init 21 = .ok (.dup, 1) := by decide +kernel
theorem dX9_init_22 : decode cX9_init 22 = .ok (.iconst 3, 1) := by decide +kernel
theorem dX9_init_23 : decode cX9_init 23 = .ok (.iconst (-1), 1) := by decide +kernel
theorem dX9_init_24 : decode cX9_init 24 = .ok (.iastore, 1) := by decide +kernel
theorem dX9_init_25 : decode cX9_init 25 = .ok (.dup, 1) := by decide +kernel
theorem dX9_init_26 : decode cX9_init 26 = .ok (.iconst 4, 1) := by decide +kernel
theorem dX9_init_27 : decode cX9_init 27 = .ok (.iconst (-1), 1) := by decide +kernel
theorem dX9_init_28 : decode cX9_init 28 = .ok (.iastore, 1) := by decide +kernel
theorem dX9_init_29 : decode cX9_init 29 = .ok (.dup, 1) := by decide +kernel
theorem dX9_init_30 : decode cX9_init 30 = .ok (.iconst 5, 1) := by decide +kernel
theorem dX9_init_31 : decode cX9_init 31 = .ok (.iconst (-1), 1) := by decide +kernel
theorem dX9_init_32 : decode cX9_init 32 = .ok (.iastore, 1) := by decide +kernel
theorem dX9_init_33 : decode cX9_init 33 = .ok (.dup, 1) := by decide +kernel
theorem dX9_init_34 : decode cX9_init 34 = .ok (.bipush 6, 2) := by decide +kernel
theorem dX9_init_36 : decode cX9_init 36 = .ok (.iconst (-1), 1) := by decide +kernel
theorem dX9_init_37 : decode cX9_init 37 = .ok (.iastore, 1) := by decide +kernel
theorem dX9_init_38 : decode cX9_init 38 = .ok (.dup, 1) := by decide +kernel
theorem dX9_init_39 : decode cX9_init 39 = .ok (.bipush 7, 2) := by decide +kernel
theorem dX9_init_41 : decode cX9_init 41 = .ok (.iconst (-1), 1) := by decide +kernel
theorem dX9_init_42 : decode cX9_init 42 = .ok (.iastore, 1) := by decide +kernel
theorem dX9_init_43 : decode cX9_init 43 = .ok (.putfield 7, 3) := by decide +kernel
theorem dX9_init_46 : decode cX9_init 46 = .ok (.aload_n 0, 1) := by decide +kernel
theorem dX9_init_47 : decode cX9_init 47 = .ok (.bipush 8, 2) := by decide +kernel
theorem dX9_init_49 : decode cX9_init 49 = .ok (.newarray .int, 2) := by decide +kernel
theorem dX9_init_51 : decode cX9_init 51 = .ok (.putfield 13, 3) := by decide +kernel
theorem dX9_init_54 : decode cX9_init 54 = .ok (.aload_n 0, 1) := by decide +kernel
theorem dX9_init_55 : decode cX9_init 55 = .ok (.sipush 320, 3) := by decide +kernel
theorem dX9_init_58 : decode cX9_init 58 = .ok (.newarray .int, 2) := by decide +kernel
theorem dX9_init_60 : decode cX9_init 60 = .ok (.putfield 16, 3) := by decide +kernel
theorem dX9_init_63 : decode cX9_init 63 = .ok (.aload_n 0, 1) := by decide +kernel
theorem dX9_init_64 : decode cX9_init 64 = .ok (.bipush 39, 2) := by decide +kernel
theorem dX9_init_66 : decode cX9_init 66 = .ok (.newarray .int, 2) := by decide +kernel
theorem dX9_init_68 : decode cX9_init 68 = .ok (.putfield 19, 3) := by decide +kernel
theorem dX9_init_71 : decode cX9_init 71 = .ok (.aload_n 0, 1) := by decide +kernel
theorem dX9_init_72 : decode cX9_init 72 = .ok (.bipush 39, 2) := by decide +kernel
theorem dX9_init_74 : decode cX9_init 74 = .ok (.newarray .int, 2) := by decide +kernel
theorem dX9_init_76 : decode cX9_init 76 = .ok (.putfield 22, 3) := by decide +kernel
theorem dX9_init_79 : decode cX9_init 79 = .ok (.aload_n 0, 1) := by decide +kernel
theorem dX9_init_80 : decode cX9_init 80 = .ok (.bipush 39, 2) := by decide +kernel
theorem dX9_init_82 : decode cX9_init 82 = .ok (.newarray .int, 2) := by decide +kernel
theorem dX9_init_84 : decode cX9_init 84 = .ok (.putfield 25, 3) := by decide +kernel
theorem dX9_init_87 : decode cX9_init 87 = .ok (.aload_n 0, 1) := by decide +kernel
theorem dX9_init_88 : decode cX9_init 88 = .ok (.sipush 936, 3) := by decide +kernel
theorem dX9_init_91 : decode cX9_init 91 = .ok (.newarray .int, 2) := by decide +kernel
theorem dX9_init_93 : decode cX9_init 93 = .ok (.putfield 28, 3) := by decide +kernel
theorem dX9_init_96 : decode cX9_init 96 = .ok (.aload_n 0, 1) := by decide +kernel
theorem dX9_init_97 : decode cX9_init 97 = .ok (.bipush 100, 2) := by decide +kernel
theorem dX9_init_99 : decode cX9_init 99 = .ok (.newarray .int, 2) := by decide +kernel
theorem dX9_init_101 : decode cX9_init 101 = .ok (.putfield 31, 3) := by decide +kernel
theorem dX9_init_104 : decode cX9_init 104 = .ok (.aload_n 0, 1) := by decide +kernel
theorem dX9_init_105 : decode cX9_init 105 = .ok (.iconst 4, 1) := by decide +kernel
theorem dX9_init_106 : decode cX9_init 106 = .ok (.newarray .int, 2) := by decide +kernel
theorem dX9_init_108 : decode cX9_init 108 = .ok (.putfield 34, 3) := by decide +kernel
theorem dX9_init_111 : decode cX9_init 111 = .ok (.aload_n 0, 1) := by decide +kernel
theorem dX9_init_112 : decode cX9_init 112 = .ok (.iconst 2, 1) := by decide +kernel
theorem dX9_init_113 : decode cX9_init 113 = .ok (.newarray .boolean, 2) := by decide +kernel
theorem dX9_init_115 : decode cX9_init 115 = .ok (.putfield 37, 3) := by decide +kernel
theorem dX9_init_118 : decode cX9_init 118 = .ok (.aload_n 0, 1) := by decide +kernel
theorem dX9_init_119 : decode cX9_init 119 = .ok (.bipush 78, 2) := by decide +kernel
theorem dX9_init_121 : decode cX9_init 121 = .ok (.newarray .int, 2) := by decide +kernel
theorem dX9_init_123 : decode cX9_init 123 = .ok (.putfield 41, 3) := by decide +kernel
theorem dX9_init_126 : decode cX9_init 126 = .ok (.aload_n 0, 1) := by decide +kernel
theorem dX9_init_127 : decode cX9_init 127 = .ok (.bipush 16, 2) := by decide +kernel
theorem dX9_init_129 : decode cX9_init 129 = .ok (.newarray .int, 2) := by decide +kernel
theorem dX9_init_131 : decode cX9_init 131 = .ok (.putfield 44, 3) := by decide +kernel
theorem dX9_init_134 : decode cX9_init 134 = .ok (.return_, 1) := by decide +kernel
theorem dX9_in_0 : decode cX9_in 0 = .ok (.lload_n 0, 1) := by decide +kernel
theorem dX9_in_1 : decode cX9_in 1 = .ok (.lload_n 2, 1) := by decide +kernel
theorem dX9_in_2 : decode cX9_in 2 = .ok (.lcmp, 1) := by decide +kernel
theorem dX9_in_3 : decode cX9_in 3 = .ok (.ifCond .lt 14, 3) := by decide +kernel
theorem dX9_in_6 : decode cX9_in 6 = .ok (.lload_n 0, 1) := by decide +kernel
theorem dX9_in_7 : decode cX9_in 7 = .ok (.lload 4, 2) := by decide +kernel
theorem dX9_in_9 : decode cX9_in 9 = .ok (.lcmp, 1) := by decide +kernel
theorem dX9_in_10 : decode cX9_in 10 = .ok (.ifCond .gt 7, 3) := by decide +kernel
theorem dX9_in_13 : decode cX9_in 13 = .ok (.iconst 1, 1) := by decide +kernel
theorem dX9_in_14 : decode cX9_in 14 = .ok (.goto 4, 3) := by decide +kernel
theorem dX9_in_17 : decode cX9_in 17 = .ok (.iconst 0, 1) := by decide +kernel
theorem dX9_in_18 : decode cX9_in 18 = .ok (.ireturn, 1) := by decide +kernel
theorem dX9_finding_0 : decode cX9_finding 0 = .ok (.aload_n 0, 1) := by decide +kernel
theorem dX9_finding_1 : decode cX9_finding 1 = .ok (.iload_n 1, 1) := by decide +kernel
theorem dX9_finding_2 : decode cX9_finding 2 = .ok (.putfield 51, 3) := by decide +kernel
theorem dX9_finding_5 : decode cX9_finding 5 = .ok (.ldc 54, 2) := by decide +kernel
theorem dX9_finding_7 : decode cX9_finding 7 = .ok (.iload_n 1, 1) := by decide +kernel
theorem dX9_finding_8 : decode cX9_finding 8 = .ok (.isub, 1) := by decide +kernel
theorem dX9_finding_9 : decode cX9_finding 9 = .ok (.ireturn, 1) := by decide +kernel
set_option maxRecDepth 20000 in
theorem ggX9_isRow_X9_in : GoodIn wsX9_isRow wsX9_in := goodIn_r _ [5] (by decide +kernel) (by decide +kernel)
set_option maxRecDepth 20000 in
theorem gX9_isRow_X9_in : GoodIn wsX9_isRow (va_wsS RX9 57 yX9_in wsX9_in) := goodIn_app (goodIn_of _ (by decide +kernel)) ggX9_isRow_X9_in
theorem dX9_isRow_0 : decode cX9_isRow 0 = .ok (.iload_n 0, 1) := by decide +kernel
theorem dX9_isRow_1 : decode cX9_isRow 1 = .ok (.i2l, 1) := by decide +kernel
theorem dX9_isRow_2 : decode cX9_isRow 2 = .ok (.lconst 0, 1) := by decide +kernel
theorem dX9_isRow_3 : decode cX9_isRow 3 = .ok (.ldc2_w 55, 3) := by decide +kernel
theorem dX9_isRow_6 : decode cX9_isRow 6 = .ok (.invokestatic 57, 3) := by decide +kernel
theorem dX9_isRow_9 : decode cX9_isRow 9 = .ok (.ireturn, 1) := by decide +kernel
set_option maxRecDepth 20000 in
theorem ggX9_row_X9_isRow : GoodIn wsX9_row wsX9_isRow := goodIn_r _ [11, 12, 13, 14, 10, 15] (by decide +kernel) (by decide +kernel)
set_option maxRecDepth 20000 in
theorem gX9_row_X9_isRow : GoodIn wsX9_row (va_wsS RX9 61 yX9_isRow wsX9_isRow) := goodIn_app (goodIn_of _ (by decide +kernel)) ggX9_row_X9_isRow
set_option maxRecDepth 20000 in
theorem ggX9_row_X9_in : GoodIn wsX9_row wsX9_in := goodIn_r _ [15] (by decide +kernel) (by decide +kernel)
set_option maxRecDepth 20000 in
theorem gX9_row_X9_in : GoodIn wsX9_row (va_wsS RX9 57 yX9_in wsX9_in) := goodIn_app (goodIn_of _ (by decide +kernel)) ggX9_row_X9_in
set_option maxRecDepth 20000 in
theorem ggX9_row_X9_finding : GoodIn wsX9_row wsX9_finding := goodIn_r _ [19, 4, 20, 21, 22, 23, 24, 25, 26, 27, 28, 29, 30, 31, 32, 33, 34, 35, 36, 37, 38, 39, 40, 41, 42, 43, 44] (by decide +kernel) (by decide +kernel)
set_option maxRecDepth 20000 in
theorem gX9_row_X9_finding : GoodIn wsX9_row (wsV RX9 68 RX9 yX9_finding wsX9_finding) := goodIn_app (goodIn_of _ (by decide +kernel)) ggX9_row_X9_finding
theorem dX9_row_0 : decode cX9_row 0 = .ok (.aload_n 0, 1) := by decide +kernel
theorem dX9_row_1 : decode cX9_row 1 = .ok (.iconst 0, 1) := by decide +kernel
theorem dX9_row_2 : decode cX9_row 2 = .ok (.putfield 47, 3) := by decide +kernel
theorem dX9_row_5 : decode cX9_row 5 = .ok (.iload_n 1, 1) := by decide +kernel
theorem dX9_row_6 : decode cX9_row 6 = .ok (.invokestatic 61, 3) := by decide +kernel
theorem dX9_row_9 : decode cX9_row 9 = .ok (.ifCond .eq 21, 3) := by decide +kernel
theorem dX9_row_12 : decode cX9_row 12 = .ok (.iload_n 2, 1) := by decide +kernel
theorem dX9_row_13 : decode cX9_row 13 = .ok (.i2l, 1) := by decide +kernel
theorem dX9_row_14 : decode cX9_row 14 = .ok (.lconst 0, 1) := by decide +kernel
theorem dX9_row_15 : decode cX9_row 15 = .ok (.ldc2_w 65, 3) := by decide +kernel
theorem dX9_row_18 : decode cX9_row 18 = .ok (.invokestatic 57, 3) := by decide +kernel
theorem dX9_row_21 : decode cX9_row 21 = .ok (.ifCond .eq 9, 3) := by decide +kernel
theorem dX9_row_24 : decode cX9_row 24 = .ok (.iload_n 3, 1) := by decide +kernel
theorem dX9_row_25 : decode cX9_row 25 = .ok (.bipush 40, 2) := by decide +kernel
theorem dX9_row_27 : decode cX9_row 27 = .ok (.if_icmp .le 6, 3) := by decide +kernel
theorem dX9_row_30 : decode cX9_row 30 = .ok (.ldc 67, 2) := by decide +kernel
theorem dX9_row_32 : decode cX9_row 32 = .ok (.ireturn, 1) := by decide +kernel
theorem dX9_row_33 : decode cX9_row 33 = .ok (.aload_n 0, 1) := by decide +kernel
theorem dX9_row_34 : decode cX9_row 34 = .ok (.iconst 0, 1) := by decide +kernel
theorem dX9_row_35 : decode cX9_row 35 = .ok (.putfield 51, 3) := by decide +kernel
theorem dX9_row_38 : decode cX9_row 38 = .ok (.iload_n 3, 1) := by decide +kernel
theorem dX9_row_39 : decode cX9_row 39 = .ok (.ifCond .ge 9, 3) := by decide +kernel
theorem dX9_row_42 : decode cX9_row 42 = .ok (.aload_n 0, 1) := by decide +kernel
theorem dX9_row_43 : decode cX9_row 43 = .ok (.iconst 4, 1) := by decide +kernel
theorem dX9_row_44 : decode cX9_row 44 = .ok (.invokevirtual 68, 3) := by decide +kernel
theorem dX9_row_47 : decode cX9_row 47 = .ok (.ireturn, 1) := by decide +kernel
theorem dX9_row_48 : decode cX9_row 48 = .ok (.aload_n 0, 1) := by decide +kernel
theorem dX9_row_49 : decode cX9_row 49 = .ok (.getfield 7, 3) := by decide +kernel
theorem dX9_row_52 : decode cX9_row 52 = .ok (.iload_n 1, 1) := by decide +kernel
theorem dX9_row_53 : decode cX9_row 53 = .ok (.iload_n 2, 1) := by decide +kernel
theorem dX9_row_54 : decode cX9_row 54 = .ok (.iastore, 1) := by decide +kernel
theorem dX9_row_55 : decode cX9_row 55 = .ok (.aload_n 0, 1) := by decide +kernel
theorem dX9_row_56 : decode cX9_row 56 = .ok (.getfield 13, 3) := by decide +kernel
theorem dX9_row_59 : decode cX9_row 59 = .ok (.iload_n 1, 1) := by decide +kernel
theorem dX9_row_60 : decode cX9_row 60 = .ok (.iload_n 3, 1) := by decide +kernel
theorem dX9_row_61 : decode cX9_row 61 = .ok (.iastore, 1) := by decide +kernel
theorem dX9_row_62 : decode cX9_row 62 = .ok (.iconst 0, 1) := by decide +kernel
theorem dX9_row_63 : decode cX9_row 63 = .ok (.istore 4, 2) := by decide +kernel
theorem dX9_row_65 : decode cX9_row 65 = .ok (.iload 4, 2) := by decide +kernel
theorem dX9_row_67 : decode cX9_row 67 = .ok (.bipush 40, 2) := by decide +kernel
theorem dX9_row_69 : decode cX9_row 69 = .ok (.if_icmp .ge 22, 3) := by decide +kernel
theorem dX9_row_72 : decode cX9_row 72 = .ok (.aload_n 0, 1) := by decide +kernel
theorem dX9_row_73 : decode cX9_row 73 = .ok (.getfield 16, 3) := by decide +kernel
theorem dX9_row_76 : decode cX9_row 76 = .ok (.bipush 40, 2) := by decide +kernel
theorem dX9_row_78 : decode cX9_row 78 = .ok (.iload_n 1, 1) := by decide +kernel
theorem dX9_row_79 : decode cX9_row 79 = .ok (.imul, 1) := by decide +kernel
theorem dX9_row_80 : decode cX9_row 80 = .ok (.iload 4, 2) := by decide +kernel
theorem dX9_row_82 : decode cX9_row 82 = .ok (.iadd, 1) := by decide +kernel
theorem dX9_row_83 : decode cX9_row 83 = .ok (.iconst 0, 1) := by decide +kernel
theorem dX9_row_84 : decode cX9_row 84 = .ok (.iastore, 1) := by decide +kernel
theorem dX9_row_85 : decode cX9_row 85 = .ok (.iinc 4 1, 3) := by decide +kernel
theorem dX9_row_88 : decode cX9_row 88 = .ok (.goto (-23), 3) := by decide +kernel
theorem dX9_row_91 : decode cX9_row 91 = .ok (.iload_n 3, 1) := by decide +kernel
theorem dX9_row_92 : decode cX9_row 92 = .ok (.ireturn, 1) := by decide +kernel
set_option maxRecDepth 20000 in
theorem ggX9_set_X9_isRow : GoodIn wsX9_set wsX9_isRow := goodIn_r _ [10, 11, 12, 13, 9, 14] (by decide +kernel) (by decide +kernel)
set_option maxRecDepth 20000 in
theorem gX9_set_X9_isRow : GoodIn wsX9_set (va_wsS RX9 61 yX9_isRow wsX9_isRow) := goodIn_app (goodIn_of _ (by decide +kernel)) ggX9_set_X9_isRow
set_option maxRecDepth 20000 in
theorem ggX9_set_X9_finding : GoodIn wsX9_set wsX9_finding := goodIn_r _ [18, 3, 19, 20, 21, 22, 23, 24, 25, 26, 27, 28, 29, 30, 31, 32, 33, 34, 35, 36, 37, 38, 39, 40, 41, 42, 43] (by decide +kernel) (by decide +kernel)
set_option maxRecDepth 20000 in
theorem gX9_set_X9_finding : GoodIn wsX9_set (wsV RX9 68 RX9 yX9_finding wsX9_finding) := goodIn_app (goodIn_of _ (by decide +kernel)) ggX9_set_X9_finding
set_option maxRecDepth 20000 in
theorem ggX9_set_X9_in : GoodIn wsX9_set wsX9_in := goodIn_r _ [14] (by decide +kernel) (by decide +kernel)
set_option maxRecDepth 20000 in
theorem gX9_set_X9_in : GoodIn wsX9_set (va_wsS RX9 57 yX9_in wsX9_in) := goodIn_app (goodIn_of _ (by decide +kernel)) ggX9_set_X9_in
theorem dX9_set_0 : decode cX9_set 0 = .ok (.aload_n 0, 1) := by decide +kernel
theorem dX9_set_1 : decode cX9_set 1 = .ok (.iconst 0, 1) := by decide +kernel
theorem dX9_set_2 : decode cX9_set 2 = .ok (.putfield 47, 3) := by decide +kernel
theorem dX9_set_5 : decode cX9_set 5 = .ok (.iload_n 1, 1) := by decide +kernel
theorem dX9_set_6 : decode cX9_set 6 = .ok (.invokestatic 61, 3) := by decide +kernel
theorem dX9_set_9 : decode cX9_set 9 = .ok (.ifCond .ne 6, 3) := by decide +kernel
theorem dX9_set_12 : decode cX9_set 12 = .ok (.ldc 67, 2) := by decide +kernel
theorem dX9_set_14 : decode cX9_set 14 = .ok (.ireturn, 1) := by decide +kernel
theorem dX9_set_15 : decode cX9_set 15 = .ok (.aload_n 0, 1) := by decide +kernel
theorem dX9_set_16 : decode cX9_set 16 = .ok (.iconst 0, 1) := by decide +kernel
theorem dX9_set_17 : decode cX9_set 17 = .ok (.putfield 51, 3) := by decide +kernel
theorem dX9_set_20 : decode cX9_set 20 = .ok (.aload_n 0, 1) := by decide +kernel
theorem dX9_set_21 : decode cX9_set 21 = .ok (.getfield 7, 3) := by decide +kernel
theorem dX9_set_24 : decode cX9_set 24 = .ok (.iload_n 1, 1) := by decide +kernel
theorem dX9_set_25 : decode cX9_set 25 = .ok (.iaload, 1) := by decide +kernel
theorem dX9_set_26 : decode cX9_set 26 = .ok (.ifCond .ge 9, 3) := by decide +kernel
theorem dX9_set_29 : decode cX9_set 29 = .ok (.aload_n 0, 1) := by decide +kernel
theorem dX9_set_30 : decode cX9_set 30 = .ok (.iconst 1, 1) := by decide +kernel
theorem dX9_set_31 : decode cX9_set 31 = .ok (.invokevirtual 68, 3) := by decide +kernel
theorem dX9_set_34 : decode cX9_set 34 = .ok (.ireturn, 1) := by decide +kernel
theorem dX9_set_35 : decode cX9_set 35 = .ok (.iload_n 2, 1) := by decide +kernel
theorem dX9_set_36 : decode cX9_set 36 = .ok (.i2l, 1) := by decide +kernel
theorem dX9_set_37 : decode cX9_set 37 = .ok (.lconst 0, 1) := by decide +kernel
theorem dX9_set_38 : decode cX9_set 38 = .ok (.aload_n 0, 1) := by decide +kernel
theorem dX9_set_39 : decode cX9_set 39 = .ok (.getfield 13, 3) := by decide +kernel
theorem dX9_set_42 : decode cX9_set 42 = .ok (.iload_n 1, 1) := by decide +kernel
theorem dX9_set_43 : decode cX9_set 43 = .ok (.iaload, 1) := by decide +kernel
theorem dX9_set_44 : decode cX9_set 44 = .ok (.iconst 1, 1) := by decide +kernel
theorem dX9_set_45 : decode cX9_set 45 = .ok (.isub, 1) := by decide +kernel
theorem dX9_set_46 : decode cX9_set 46 = .ok (.i2l, 1) := by decide +kernel
theorem dX9_set_47 : decode cX9_set 47 = .ok (.invokestatic 57, 3) := by decide +kernel
theorem dX9_set_50 : decode cX9_set 50 = .ok (.ifCond .ne 9, 3) := by decide +kernel
theorem dX9_set_53 : decode cX9_set 53 = .ok (.aload_n 0, 1) := by decide +kernel
theorem dX9_set_54 : decode cX9_set 54 = .ok (.iconst 2, 1) := by decide +kernel
theorem dX9_set_55 : decode cX9_set 55 = .ok (.invokevirtual 68, 3) := by decide +kernel
theorem dX9_set_58 : decode cX9_set 58 = .ok (.ireturn, 1) := by decide +kernel
theorem dX9_set_59 : decode cX9_set 59 = .ok (.aload_n 0, 1) := by decide +kernel
theorem dX9_set_60 : decode cX9_set 60 = .ok (.getfield 16, 3) := by decide +kernel
theorem dX9_set_63 : decode cX9_set 63 = .ok (.bipush 40, 2) := by decide +kernel
theorem dX9_set_65 : decode cX9_set 65 = .ok (.iload_n 1, 1) := by decide +kernel
theorem dX9_set_66 : decode cX9_set 66 = .ok (.imul, 1) := by decide +kernel
theorem dX9_set_67 : decode cX9_set 67 = .ok (.iload_n 2, 1) := by decide +kernel
theorem dX9_set_68 : decode cX9_set 68 = .ok (.iadd, 1) := by decide +kernel
theorem dX9_set_69 : decode cX9_set 69 = .ok (.aload_n 0, 1) := by decide +kernel
theorem dX9_set_70 : decode cX9_set 70 = .ok (.getfield 7, 3) := by decide +kernel
theorem dX9_set_73 : decode cX9_set 73 = .ok (.iload_n 1, 1) := by decide +kernel
theorem dX9_set_74 : decode cX9_set 74 = .ok (.iaload, 1) := by decide +kernel
theorem dX9_set_75 : decode cX9_set 75 = .ok (.ifCond .ne 8, 3) := by decide +kernel
theorem dX9_set_78 : decode cX9_set 78 = .ok (.iload_n 3, 1) := by decide +kernel
theorem dX9_set_79 : decode cX9_set 79 = .ok (.i2b, 1) := by decide +kernel
theorem dX9_set_80 : decode cX9_set 80 = .ok (.goto 19, 3) := by decide +kernel
theorem dX9_set_83 : decode cX9_set 83 = .ok (.aload_n 0, 1) := by decide +kernel
theorem dX9_set_84 : decode cX9_set 84 = .ok (.getfield 7, 3) := by decide +kernel
theorem dX9_set_87 : decode cX9_set 87 = .ok (.iload_n 1, 1) := by decide +kernel
theorem dX9_set_88 : decode cX9_set 88 = .ok (.iaload, 1) := by decide +kernel
theorem dX9_set_89 : decode cX9_set 89 = .ok (.iconst 1, 1) := by decide +kernel
theorem dX9_set_90 : decode cX9_set 90 = .ok (.if_icmp .ne 8, 3) := by decide +kernel
theorem dX9_set_93 : decode cX9_set 93 = .ok (.iload_n 3, 1) := by decide +kernel
theorem dX9_set_94 : decode cX9_set 94 = .ok (.i2s, 1) := by decide +kernel
theorem dX9_set_95 : decode cX9_set 95 = .ok (.goto 4, 3) := by decide +kernel
theorem dX9_set_98 : decode cX9_set 98 = .ok (.iload_n 3, 1) := by decide +kernel
theorem dX9_set_99 : decode cX9_set 99 = .ok (.iastore, 1) := by decide +kernel
theorem dX9_set_100 : decode cX9_set 100 = .ok (.aload_n 0, 1) := by decide +kernel
theorem dX9_set_101 : decode cX9_set 101 = .ok (.getfield 16, 3) := by decide +kernel
theorem dX9_set_104 : decode cX9_set 104 = .ok (.bipush 40, 2) := by decide +kernel
theorem dX9_set_106 : decode cX9_set 106 = .ok (.iload_n 1, 1) := by decide +kernel
theorem dX9_set_107 : decode cX9_set 107 = .ok (.imul, 1) := by decide +kernel
theorem dX9_set_108 : decode cX9_set 108 = .ok (.iload_n 2, 1) := by decide +kernel
theorem dX9_set_109 : decode cX9_set 109 = .ok (.iadd, 1) := by decide +kernel
theorem dX9_set_110 : decode cX9_set 110 = .ok (.iaload, 1) := by decide +kernel
theorem dX9_set_111 : decode cX9_set 111 = .ok (.ireturn, 1) := by decide +kernel
set_option maxRecDepth 20000 in
theorem ggX9_copy_X9_isRow : GoodIn wsX9_copy wsX9_isRow := goodIn_r _ [10, 11, 12, 13, 9, 14] (by decide +kernel) (by decide +kernel)
set_option maxRecDepth 20000 in
theorem gX9_copy_X9_isRow : GoodIn wsX9_copy (va_wsS RX9 61 yX9_isRow wsX9_isRow) := goodIn_app (goodIn_of _ (by decide +kernel)) ggX9_copy_X9_isRow
set_option maxRecDepth 20000 in
theorem ggX9_copy_X9_finding : GoodIn wsX9_copy wsX9_finding := goodIn_r _ [18, 3, 19, 20, 21, 22, 23, 24, 25, 26, 27, 28, 29, 30, 31, 32, 33, 34, 35, 36, 37, 38, 39, 40, 41, 42, 43] (by decide +kernel) (by decide +kernel)
set_option maxRecDepth 20000 in
theorem gX9_copy_X9_finding : GoodIn wsX9_copy (wsV RX9 68 RX9 yX9_finding wsX9_finding) := goodIn_app (goodIn_of _ (by decide +kernel)) ggX9_copy_X9_finding
theorem dX9_copy_0 : decode cX9_copy 0 = .ok (.aload_n 0, 1) := by decide +kernel
theorem dX9_copy_1 : decode cX9_copy 1 = .ok (.iconst 0, 1) := by decide +kernel
theorem dX9_copy_2 : decode cX9_copy 2 = .ok (.putfield 47, 3) := by decide +kernel
theorem dX9_copy_5 : decode cX9_copy 5 = .ok (.iload_n 1, 1) := by decide +kernel
theorem dX9_copy_6 : decode cX9_copy 6 = .ok (.invokestatic 61, 3) := by decide +kernel
theorem dX9_copy_9 : decode cX9_copy 9 = .ok (.ifCond .eq 10, 3) := by decide +kernel
theorem dX9_copy_12 : decode cX9_copy 12 = .ok (.iload_n 3, 1) := by decide +kernel
theorem dX9_copy_13 : decode cX9_copy 13 = .ok (.invokestatic 61, 3) := by decide +kernel
theorem dX9_copy_16 : decode cX9_copy 16 = .ok (.ifCond .ne 6, 3) := by decide +kernel
theorem dX9_copy_19 : decode cX9_copy 19 = .ok (.ldc 67, 2) := by decide +kernel
theorem dX9_copy_21 : decode cX9_copy 21 = .ok (.ireturn, 1) := by decide +kernel
theorem dX9_copy_22 : decode cX9_copy 22 = .ok (.aload_n 0, 1) := by decide +kernel
theorem dX9_copy_23 : decode cX9_copy 23 = .ok (.iconst 0, 1) := by decide +kernel
theorem dX9_copy_24 : decode cX9_copy 24 = .ok (.putfield 51, 3) := by decide +kernel
theorem dX9_copy_27 : decode cX9_copy 27 = .ok (.aload_n 0, 1) := by decide +kernel
theorem dX9_copy_28 : decode cX9_copy 28 = .ok (.getfield 7, 3) := by decide +kernel
theorem dX9_copy_31 : decode cX9_copy 31 = .ok (.iload_n 1, 1) := by decide +kernel
theorem dX9_copy_32 : decode cX9_copy 32 = .ok (.iaload, 1) := by decide +kernel
theorem dX9_copy_33 : decode cX9_copy 33 = .ok (.ifCond .lt 12, 3) := by decide +kernel
theorem dX9_copy_36 : decode cX9_copy 36 = .ok (.aload_n 0, 1) := by decide +kernel
theorem dX9_copy_37 : decode cX9_copy 37 = .ok (.getfield 7, 3) := by decide +kernel
theorem dX9_copy_40 : decode cX9_copy 40 = .ok (.iload_n 3, 1) := by decide +kernel
theorem dX9_copy_41 : decode cX9_copy 41 = .ok (.iaload, 1) := by decide +kernel
theorem dX9_copy_42 : decode cX9_copy 42 = .ok (.ifCond .ge 9, 3) := by decide +kernel
theorem dX9_copy_45 : decode cX9_copy 45 = .ok (.aload_n 0, 1) := by decide +kernel
theorem dX9_copy_46 : decode cX9_copy 46 = .ok (.iconst 1, 1) := by decide +kernel
theorem dX9_copy_47 : decode cX9_copy 47 = .ok (.invokevirtual 68, 3) := by decide +kernel
theorem dX9_copy_50 : decode cX9_copy 50 = .ok (.ireturn, 1) := by decide +kernel
theorem dX9_copy_51 : decode cX9_copy 51 = .ok (.aload_n 0, 1) := by decide +kernel
theorem dX9_copy_52 : decode cX9_copy 52 = .ok (.getfield 7, 3) := by decide +kernel
theorem dX9_copy_55 : decode cX9_copy 55 = .ok (.iload_n 1, 1) := by decide +kernel
theorem dX9_copy_56 : decode cX9_copy 56 = .ok (.iaload, 1) := by decide +kernel
theorem dX9_copy_57 : decode cX9_copy 57 = .ok (.aload_n 0, 1) := by decide +kernel
theorem dX9_copy_58 : decode cX9_copy 58 = .ok (.getfield 7, 3) := by decide +kernel
theorem dX9_copy_61 : decode cX9_copy 61 = .ok (.iload_n 3, 1) := by decide +kernel
theorem dX9_copy_62 : decode cX9_copy 62 = .ok (.iaload, 1) := by decide +kernel
theorem dX9_copy_63 : decode cX9_copy 63 = .ok (.if_icmp .eq 9, 3) := by decide +kernel
theorem dX9_copy_66 : decode cX9_copy 66 = .ok (.aload_n 0, 1) := by decide +kernel
theorem dX9_copy_67 : decode cX9_copy 67 = .ok (.iconst 5, 1) := by decide +kernel
theorem dX9_copy_68 : decode cX9_copy 68 = .ok (.invokevirtual 68, 3) := by decide +kernel
theorem dX9_copy_71 : decode cX9_copy 71 = .ok (.ireturn, 1) := by decide +kernel
theorem dX9_copy_72 : decode cX9_copy 72 = .ok (.iload_n 2, 1) := by decide +kernel
theorem dX9_copy_73 : decode cX9_copy 73 = .ok (.ifCond .lt 48, 3) := by decide +kernel
theorem dX9_copy_76 : decode cX9_copy 76 = .ok (.iload 4, 2) := by decide +kernel
theorem dX9_copy_78 : decode cX9_copy 78 = .ok (.ifCond .lt 43, 3) := by decide +kernel
theorem dX9_copy_81 : decode cX9_copy 81 = .ok (.iload 5, 2) := by decide +kernel
theorem dX9_copy_83 : decode cX9_copy 83 = .ok (.ifCond .lt 38, 3) := by decide +kernel
theorem dX9_copy_86 : decode cX9_copy 86 = .ok (.iload_n 2, 1) := by decide +kernel
theorem dX9_copy_87 : decode cX9_copy 87 = .ok (.i2l, 1) := by decide +kernel
theorem dX9_copy_88 : decode cX9_copy 88 = .ok (.iload 5, 2) := by decide +kernel
theorem dX9_copy_90 : decode cX9_copy 90 = .ok (.i2l, 1) := by decide +kernel
theorem dX9_copy_91 : decode cX9_copy 91 = .ok (.ladd, 1) := by decide +kernel
theorem dX9_copy_92 : decode cX9_copy 92 = .ok (.aload_n 0, 1) := by decide +kernel
theorem dX9_copy_93 : decode cX9_copy 93 = .ok (.getfield 13, 3) := by decide +kernel
theorem dX9_copy_96 : decode cX9_copy 96 = .ok (.iload_n 1, 1) := by decide +kernel
theorem dX9_copy_97 : decode cX9_copy 97 = .ok (.iaload, 1) := by decide +kernel
theorem dX9_copy_98 : decode cX9_copy 98 = .ok (.i2l, 1) := by decide +kernel
theorem dX9_copy_99 : decode cX9_copy 99 = .ok (.lcmp, 1) := by decide +kernel
theorem dX9_copy_100 : decode cX9_copy 100 = .ok (.ifCond .gt 21, 3) := by decide +kernel
theorem dX9_copy_103 : decode cX9_copy 103 = .ok (.iload 4, 2) := by decide +kernel
theorem dX9_copy_105 : decode cX9_copy 105 = .ok (.i2l, 1) := by decide +kernel
theorem dX9_copy_106 : decode cX9_copy 106 = .ok (.iload 5, 2) := by decide +kernel
theorem dX9_copy_108 : decode cX9_copy 108 = .ok (.i2l, 1) := by decide +kernel
theorem dX9_copy_109 : decode cX9_copy 109 = .ok (.ladd, 1) := by decide +kernel
theorem dX9_copy_110 : decode cX9_copy 110 = .ok (.aload_n 0, 1) := by decide +kernel
theorem dX9_copy_111 : decode cX9_copy 111 = .ok (.getfield 13, 3) := by decide +kernel
theorem dX9_copy_114 : decode cX9_copy 114 = .ok (.iload_n 3, 1) := by decide +kernel
theorem dX9_copy_115 : decode cX9_copy 115 = .ok (.iaload, 1) := by decide +kernel
theorem dX9_copy_116 : decode cX9_copy 116 = .ok (.i2l, 1) := by decide +kernel
theorem dX9_copy_117 : decode cX9_copy 117 = .ok (.lcmp, 1) := by decide +kernel
theorem dX9_copy_118 : decode cX9_copy 118 = .ok (.ifCond .le 9, 3) := by decide +kernel
theorem dX9_copy_121 : decode cX9_copy 121 = .ok (.aload_n 0, 1) := by decide +kernel
theorem dX9_copy_122 : decode cX9_copy 122 = .ok (.iconst 2, 1) := by decide +kernel
theorem dX9_copy_123 : decode cX9_copy 123 = .ok (.invokevirtual 68, 3) := by decide +kernel
theorem dX9_copy_126 : decode cX9_copy 126 = .ok (.ireturn, 1) := by decide +kernel
theorem dX9_copy_127 : decode cX9_copy 127 = .ok (.iload_n 2, 1) := by decide +kernel
theorem dX9_copy_128 : decode cX9_copy 128 = .ok (.iload 4, 2) := by decide +kernel
theorem dX9_copy_130 : decode cX9_copy 130 = .ok (.if_icmp .lt 7, 3) := by decide +kernel
theorem dX9_copy_133 : decode cX9_copy 133 = .ok (.iconst 1, 1) := by decide +kernel
theorem dX9_copy_134 : decode cX9_copy 134 = .ok (.goto 4, 3) := by decide +kernel
theorem dX9_copy_137 : decode cX9_copy 137 = .ok (.iconst 0, 1) := by decide +kernel
theorem dX9_copy_138 : decode cX9_copy 138 = .ok (.istore 6, 2) := by decide +kernel
theorem dX9_copy_140 : decode cX9_copy 140 = .ok (.iconst 0, 1) := by decide +kernel
theorem dX9_copy_141 : decode cX9_copy 141 = .ok (.istore 7, 2) := by decide +kernel
theorem dX9_copy_143 : decode cX9_copy 143 = .ok (.iload 7, 2) := by decide +kernel
theorem dX9_copy_145 : decode cX9_copy 145 = .ok (.iload 5, 2) := by decide +kernel
theorem dX9_copy_147 : decode cX9_copy 147 = .ok (.if_icmp .ge 57, 3) := by decide +kernel
theorem dX9_copy_150 : decode cX9_copy 150 = .ok (.iload 6, 2) := by decide +kernel
theorem dX9_copy_152 : decode cX9_copy 152 = .ok (.ifCond .eq 8, 3) := by decide +kernel
theorem dX9_copy_155 : decode cX9_copy 155 = .ok (.iload 7, 2) := by decide +kernel
theorem dX9_copy_157 : decode cX9_copy 157 = .ok (.goto 10, 3) := by decide +kernel
theorem dX9_copy_160 : decode cX9_copy 160 = .ok (.iload 5, 2) := by decide +kernel
theorem dX9_copy_162 : decode cX9_copy 162 = .ok (.iconst 1, 1) := by decide +kernel
theorem dX9_copy_163 : decode cX9_copy 163 = .ok (.isub, 1) := by decide +kernel
theorem dX9_copy_164 : decode cX9_copy 164 = .ok (.iload 7, 2) := by decide +kernel
theorem dX9_copy_166 : decode cX9_copy 166 = .ok (.isub, 1) := by decide +kernel
theorem dX9_copy_167 : decode cX9_copy 167 = .ok (.istore 8, 2) := by decide +kernel
theorem dX9_copy_169 : decode cX9_copy 169 = .ok (.aload_n 0, 1) := by decide +kernel
theorem dX9_copy_170 : decode cX9_copy 170 = .ok (.getfield 16, 3) := by decide +kernel
theorem dX9_copy_173 : decode cX9_copy 173 = .ok (.bipush 40, 2) := by decide +kernel
theorem dX9_copy_175 : decode cX9_copy 175 = .ok (.iload_n 3, 1) := by decide +kernel
theorem dX9_copy_176 : decode cX9_copy 176 = .ok (.imul, 1) := by decide +kernel
theorem dX9_copy_177 : decode cX9_copy 177 = .ok (.iload 4, 2) := by decide +kernel
theorem dX9_copy_179 : decode cX9_copy 179 = .ok (.iadd, 1) := by decide +kernel
theorem dX9_copy_180 : decode cX9_copy 180 = .ok (.iload 8, 2) := by decide +kernel
theorem dX9_copy_182 : decode cX9_copy 182 = .ok (.iadd, 1) := by decide +kernel
theorem dX9_copy_183 : decode cX9_copy 183 = .ok (.aload_n 0, 1) := by decide +kernel
theorem dX9_copy_184 : decode cX9_copy 184 = .ok (.getfield 16, 3) := by decide +kernel
theorem dX9_copy_187 : decode cX9_copy 187 = .ok (.bipush 40, 2) := by decide +kernel
theorem dX9_copy_189 : decode cX9_copy 189 = .ok (.iload_n 1, 1) := by decide +kernel
theorem dX9_copy_190 : decode cX9_copy 190 = .ok (.imul, 1) := by decide +kernel
theorem dX9_copy_191 : decode cX9_copy 191 = .ok (.iload_n 2, 1) := by decide +kernel
theorem dX9_copy_192 : decode cX9_copy 192 = .ok (.iadd, 1) := by decide +kernel
theorem dX9_copy_193 : decode cX9_copy 193 = .ok (.iload 8, 2) := by decide +kernel
theorem dX9_copy_195 : decode cX9_copy 195 = .ok (.iadd, 1) := by decide +kernel
theorem dX9_copy_196 : decode cX9_copy 196 = .ok (.iaload, 1) := by decide +kernel
theorem dX9_copy_197 : decode cX9_copy 197 = .ok (.iastore, 1) := by decide +kernel
theorem dX9_copy_198 : decode cX9_copy 198 = .ok (.iinc 7 1, 3) := by decide +kernel
theorem dX9_copy_201 : decode cX9_copy 201 = .ok (.goto (-58), 3) := by decide +kernel
theorem dX9_copy_204 : decode cX9_copy 204 = .ok (.iload 5, 2) := by decide +kernel
theorem dX9_copy_206 : decode cX9_copy 206 = .ok (.ireturn, 1) := by decide +kernel
set_option maxRecDepth 20000 in
theorem ggX9_drop_X9_isRow : GoodIn wsX9_drop wsX9_isRow := goodIn_r _ [9, 10, 11, 12, 8, 13] (by decide +kernel) (by decide +kernel)
set_option maxRecDepth 20000 in
theorem gX9_drop_X9_isRow : GoodIn wsX9_drop (va_wsS RX9 61 yX9_isRow wsX9_isRow) := goodIn_app (goodIn_of _ (by decide +kernel)) ggX9_drop_X9_isRow
set_option maxRecDepth 20000 in
theorem ggX9_drop_X9_finding : GoodIn wsX9_drop wsX9_finding := goodIn_r _ [17, 3, 18, 19, 20, 21, 22, 23, 24, 25, 26, 27, 28, 29, 30, 31, 32, 33, 34, 35, 36, 37, 38, 39, 40, 41, 42] (by decide +kernel) (by decide +kernel)
set_option maxRecDepth 20000 in
theorem gX9_drop_X9_finding : GoodIn wsX9_drop (wsV RX9 68 RX9 yX9_finding wsX9_finding) := goodIn_app (goodIn_of _ (by decide +kernel)) ggX9_drop_X9_finding
theorem dX9_drop_0 : decode cX9_drop 0 = .ok (.aload_n 0, 1) := by decide +kernel
theorem dX9_drop_1 : decode cX9_drop 1 = .ok (.iconst 0, 1) := by decide +kernel
theorem dX9_drop_2 : decode cX9_drop 2 = .ok (.putfield 47, 3) := by decide +kernel
theorem dX9_drop_5 : decode cX9_drop 5 = .ok (.iload_n 1, 1) := by decide +kernel
theorem dX9_drop_6 : decode cX9_drop 6 = .ok (.invokestatic 61, 3) := by decide +kernel
theorem dX9_drop_9 : decode cX9_drop 9 = .ok (.ifCond .ne 6, 3) := by decide +kernel
theorem dX9_drop_12 : decode cX9_drop 12 = .ok (.ldc 67, 2) := by decide +kernel
theorem dX9_drop_14 : decode cX9_drop 14 = .ok (.ireturn, 1) := by decide +kernel
theorem dX9_drop_15 : decode cX9_drop 15 = .ok (.aload_n 0, 1) := by decide +kernel
theorem dX9_drop_16 : decode cX9_drop 16 = .ok (.iconst 0, 1) := by decide +kernel
theorem dX9_drop_17 : decode cX9_drop 17 = .ok (.putfield 51, 3) := by decide +kernel
theorem dX9_drop_20 : decode cX9_drop 20 = .ok (.aload_n 0, 1) := by decide +kernel
theorem dX9_drop_21 : decode cX9_drop 21 = .ok (.getfield 7, 3) := by decide +kernel
theorem dX9_drop_24 : decode cX9_drop 24 = .ok (.iload_n 1, 1) := by decide +kernel
theorem dX9_drop_25 : decode cX9_drop 25 = .ok (.iaload, 1) := by decide +kernel
theorem dX9_drop_26 : decode cX9_drop 26 = .ok (.ifCond .ge 9, 3) := by decide +kernel
theorem dX9_drop_29 : decode cX9_drop 29 = .ok (.aload_n 0, 1) := by decide +kernel
theorem dX9_drop_30 : decode cX9_drop 30 = .ok (.iconst 1, 1) := by decide +kernel
theorem dX9_drop_31 : decode cX9_drop 31 = .ok (.invokevirtual 68, 3) := by decide +kernel
theorem dX9_drop_34 : decode cX9_drop 34 = .ok (.ireturn, 1) := by decide +kernel
theorem dX9_drop_35 : decode cX9_drop 35 = .ok (.aload_n 0, 1) := by decide +kernel
theorem dX9_drop_36 : decode cX9_drop 36 = .ok (.getfield 7, 3) := by decide +kernel
theorem dX9_drop_39 : decode cX9_drop 39 = .ok (.iload_n 1, 1) := by decide +kernel
theorem dX9_drop_40 : decode cX9_drop 40 = .ok (.iconst (-1), 1) := by decide +kernel
theorem dX9_drop_41 : decode cX9_drop 41 = .ok (.iastore, 1) := by decide +kernel
theorem dX9_drop_42 : decode cX9_drop 42 = .ok (.aload_n 0, 1) := by decide +kernel
theorem dX9_drop_43 : decode cX9_drop 43 = .ok (.getfield 13, 3) := by decide +kernel
theorem dX9_drop_46 : decode cX9_drop 46 = .ok (.iload_n 1, 1) := by decide +kernel
theorem dX9_drop_47 : decode cX9_drop 47 = .ok (.iaload, 1) := by decide +kernel
theorem dX9_drop_48 : decode cX9_drop 48 = .ok (.ireturn, 1) := by decide +kernel
set_option maxRecDepth 20000 in
theorem ggX9_feed_X9_in : GoodIn wsX9_feed wsX9_in := goodIn_r _ [10] (by decide +kernel) (by decide +kernel)
set_option maxRecDepth 20000 in
theorem gX9_feed_X9_in : GoodIn wsX9_feed (va_wsS RX9 57 yX9_in wsX9_in) := goodIn_app (goodIn_of _ (by decide +kernel)) ggX9_feed_X9_in
theorem dX9_feed_0 : decode cX9_feed 0 = .ok (.aload_n 0, 1) := by decide +kernel
theorem dX9_feed_1 : decode cX9_feed 1 = .ok (.iconst 0, 1) := by decide +kernel
theorem dX9_feed_2 : decode cX9_feed 2 = .ok (.putfield 47, 3) := by decide +kernel
theorem dX9_feed_5 : decode cX9_feed 5 = .ok (.iload_n 1, 1) := by decide +kernel
theorem dX9_feed_6 : decode cX9_feed 6 = .ok (.i2l, 1) := by decide +kernel
theorem dX9_feed_7 : decode cX9_feed 7 = .ok (.lconst 0, 1) := by decide +kernel
theorem dX9_feed_8 : decode cX9_feed 8 = .ok (.ldc2_w 72, 3) := by decide +kernel
theorem dX9_feed_11 : decode cX9_feed 11 = .ok (.invokestatic 57, 3) := by decide +kernel
theorem dX9_feed_14 : decode cX9_feed 14 = .ok (.ifCond .ne 6, 3) := by decide +kernel
theorem dX9_feed_17 : decode cX9_feed 17 = .ok (.ldc 67, 2) := by decide +kernel
theorem dX9_feed_19 : decode cX9_feed 19 = .ok (.ireturn, 1) := by decide +kernel
theorem dX9_feed_20 : decode cX9_feed 20 = .ok (.aload_n 0, 1) := by decide +kernel
theorem dX9_feed_21 : decode cX9_feed 21 = .ok (.getfield 74, 3) := by decide +kernel
theorem dX9_feed_24 : decode cX9_feed 24 = .ok (.bipush 100, 2) := by decide +kernel
theorem dX9_feed_26 : decode cX9_feed 26 = .ok (.if_icmp .ne 6, 3) := by decide +kernel
theorem dX9_feed_29 : decode cX9_feed 29 = .ok (.ldc 77, 2) := by decide +kernel
theorem dX9_feed_31 : decode cX9_feed 31 = .ok (.ireturn, 1) := by decide +kernel
theorem dX9_feed_32 : decode cX9_feed 32 = .ok (.aload_n 0, 1) := by decide +kernel
theorem dX9_feed_33 : decode cX9_feed 33 = .ok (.getfield 31, 3) := by decide +kernel
theorem dX9_feed_36 : decode cX9_feed 36 = .ok (.aload_n 0, 1) := by decide +kernel
theorem dX9_feed_37 : decode cX9_feed 37 = .ok (.getfield 74, 3) := by decide +kernel
theorem dX9_feed_40 : decode cX9_feed 40 = .ok (.iload_n 1, 1) := by decide +kernel
theorem dX9_feed_41 : decode cX9_feed 41 = .ok (.iastore, 1) := by decide +kernel
theorem dX9_feed_42 : decode cX9_feed 42 = .ok (.aload_n 0, 1) := by decide +kernel
theorem dX9_feed_43 : decode cX9_feed 43 = .ok (.dup, 1) := by decide +kernel
theorem dX9_feed_44 : decode cX9_feed 44 = .ok (.getfield 74, 3) := by decide +kernel
theorem dX9_feed_47 : decode cX9_feed 47 = .ok (.iconst 1, 1) := by decide +kernel
theorem dX9_feed_48 : decode cX9_feed 48 = .ok (.iadd, 1) := by decide +kernel
theorem dX9_feed_49 : decode cX9_feed 49 = .ok (.putfield 74, 3) := by decide +kernel
theorem dX9_feed_52 : decode cX9_feed 52 = .ok (.aload_n 0, 1) := by decide +kernel
theorem dX9_feed_53 : decode cX9_feed 53 = .ok (.getfield 74, 3) := by decide +kernel
theorem dX9_feed_56 : decode cX9_feed 56 = .ok (.ireturn, 1) := by decide +kernel
theorem dX9_bad_0 : decode cX9_bad 0 = .ok (.aload_n 0, 1) := by decide +kernel
theorem dX9_bad_1 : decode cX9_bad 1 = .ok (.getfield 78, 3) := by decide +kernel
theorem dX9_bad_4 : decode cX9_bad 4 = .ok (.ifCond .ne 16, 3) := by decide +kernel
theorem dX9_bad_7 : decode cX9_bad 7 = .ok (.aload_n 0, 1) := by decide +kernel
theorem dX9_bad_8 : decode cX9_bad 8 = .ok (.iload_n 1, 1) := by decide +kernel
theorem dX9_bad_9 : decode cX9_bad 9 = .ok (.putfield 78, 3) := by decide +kernel
theorem dX9_bad_12 : decode cX9_bad 12 = .ok (.aload_n 0, 1) := by decide +kernel
theorem dX9_bad_13 : decode cX9_bad 13 = .ok (.aload_n 0, 1) := by decide +kernel
theorem dX9_bad_14 : decode cX9_bad 14 = .ok (.getfield 81, 3) := by decide +kernel
theorem dX9_bad_17 : decode cX9_bad 17 = .ok (.putfield 84, 3) := by decide +kernel
theorem dX9_bad_20 : decode cX9_bad 20 = .ok (.return_, 1) := by decide +kernel
set_option maxRecDepth 20000 in
theorem ggX9_nextToken_X9_in : GoodIn wsX9_nextToken wsX9_in := goodIn_r _ [15] (by decide +kernel) (by decide +kernel)
set_option maxRecDepth 20000 in
theorem gX9_nextToken_X9_in : GoodIn wsX9_nextToken (va_wsS RX9 57 yX9_in wsX9_in) := goodIn_app (goodIn_of _ (by decide +kernel)) ggX9_nextToken_X9_in
theorem dX9_nextToken_0 : decode cX9_nextToken 0 = .ok (.aload_n 0, 1) := by decide +kernel
theorem dX9_nextToken_1 : decode cX9_nextToken 1 = .ok (.aload_n 0, 1) := by decide +kernel
theorem dX9_nextToken_2 : decode cX9_nextToken 2 = .ok (.getfield 87, 3) := by decide +kernel
theorem dX9_nextToken_5 : decode cX9_nextToken 5 = .ok (.putfield 81, 3) := by decide +kernel
theorem dX9_nextToken_8 : decode cX9_nextToken 8 = .ok (.aload_n 0, 1) := by decide +kernel
theorem dX9_nextToken_9 : decode cX9_nextToken 9 = .ok (.aload_n 0, 1) := by decide +kernel
theorem dX9_nextToken_10 : decode cX9_nextToken 10 = .ok (.getfield 87, 3) := by decide +kernel
theorem dX9_nextToken_13 : decode cX9_nextToken 13 = .ok (.aload_n 0, 1) := by decide +kernel
theorem dX9_nextToken_14 : decode cX9_nextToken 14 = .ok (.getfield 74, 3) := by decide +kernel
theorem dX9_nextToken_17 : decode cX9_nextToken 17 = .ok (.if_icmp .ge 15, 3) := by decide +kernel
theorem dX9_nextToken_20 : decode cX9_nextToken 20 = .ok (.aload_n 0, 1) := by decide +kernel
theorem dX9_nextToken_21 : decode cX9_nextToken 21 = .ok (.getfield 31, 3) := by decide +kernel
theorem dX9_nextToken_24 : decode cX9_nextToken 24 = .ok (.aload_n 0, 1) := by decide +kernel
theorem dX9_nextToken_25 : decode cX9_nextToken 25 = .ok (.getfield 87, 3) := by decide +kernel
theorem dX9_nextToken_28 : decode cX9_nextToken 28 = .ok (.iaload, 1) := by decide +kernel
theorem dX9_nextToken_29 : decode cX9_nextToken 29 = .ok (.goto 5, 3) := by decide +kernel
theorem dX9_nextToken_32 : decode cX9_nextToken 32 = .ok (.ldc 90, 2) := by decide +kernel
theorem dX9_nextToken_34 : decode cX9_nextToken 34 = .ok (.putfield 91, 3) := by decide +kernel
theorem dX9_nextToken_37 : decode cX9_nextToken 37 = .ok (.aload_n 0, 1) := by decide +kernel
theorem dX9_nextToken_38 : decode cX9_nextToken 38 = .ok (.aload_n 0, 1) := by decide +kernel
theorem dX9_nextToken_39 : decode cX9_nextToken 39 = .ok (.getfield 87, 3) := by decide +kernel
theorem dX9_nextToken_42 : decode cX9_nextToken 42 = .ok (.aload_n 0, 1) := by decide +kernel
theorem dX9_nextToken_43 : decode cX9_nextToken 43 = .ok (.getfield 74, 3) := by decide +kernel
theorem dX9_nextToken_46 : decode cX9_nextToken 46 = .ok (.if_icmp .ne 7, 3) := by decide +kernel
theorem dX9_nextToken_49 : decode cX9_nextToken 49 = .ok (.iconst 1, 1) := by decide +kernel
theorem dX9_nextToken_50 : decode cX9_nextToken 50 = .ok (.goto 68, 3) := by decide +kernel
theorem dX9_nextToken_53 : decode cX9_nextToken 53 = .ok (.aload_n 0, 1) := by decide +kernel
theorem dX9_nextToken_54 : decode cX9_nextToken 54 = .ok (.getfield 91, 3) := by decide +kernel
theorem dX9_nextToken_57 : decode cX9_nextToken 57 = .ok (.i2l, 1) := by decide +kernel
theorem dX9_nextToken_58 : decode cX9_nextToken 58 = .ok (.ldc2_w 94, 3) := by decide +kernel
theorem dX9_nextToken_61 : decode cX9_nextToken 61 = .ok (.ldc2_w 96, 3) := by decide +kernel
theorem dX9_nextToken_64 : decode cX9_nextToken 64 = .ok (.invokestatic 57, 3) := by decide +kernel
theorem dX9_nextToken_67 : decode cX9_nextToken 67 = .ok (.ifCond .eq 7, 3) := by decide +kernel
theorem dX9_nextToken_70 : decode cX9_nextToken 70 = .ok (.iconst 2, 1) := by decide +kernel
theorem dX9_nextToken_71 : decode cX9_nextToken 71 = .ok (.goto 47, 3) := by decide +kernel
theorem dX9_nextToken_74 : decode cX9_nextToken 74 = .ok (.aload_n 0, 1) := by decide +kernel
theorem dX9_nextToken_75 : decode cX9_nextToken 75 = .ok (.getfield 91, 3) := by decide +kernel
theorem dX9_nextToken_78 : decode cX9_nextToken 78 = .ok (.i2l, 1) := by decide +kernel
theorem dX9_nextToken_79 : decode cX9_nextToken 79 = .ok (.ldc2_w 98, 3) := by decide +kernel
theorem dX9_nextToken_82 : decode cX9_nextToken 82 = .ok (.ldc2_w 100, 3) := by decide +kernel
theorem dX9_nextToken_85 : decode cX9_nextToken 85 = .ok (.invokestatic 57, 3) := by decide +kernel
theorem dX9_nextToken_88 : decode cX9_nextToken 88 = .ok (.ifCond .eq 7, 3) := by decide +kernel
theorem dX9_nextToken_91 : decode cX9_nextToken 91 = .ok (.iconst 3, 1) := by decide +kernel
theorem dX9_nextToken_92 : decode cX9_nextToken 92 = .ok (.goto 26, 3) := by decide +kernel
theorem dX9_nextToken_95 : decode cX9_nextToken 95 = .ok (.aload_n 0, 1) := by decide +kernel
theorem dX9_nextToken_96 : decode cX9_nextToken 96 = .ok (.getfield 91, 3) := by decide +kernel
theorem dX9_nextToken_99 : decode cX9_nextToken 99 = .ok (.bipush 44, 2) := by decide +kernel
theorem dX9_nextToken_101 : decode cX9_nextToken 101 = .ok (.if_icmp .eq 12, 3) := by decide +kernel
theorem dX9_nextToken_104 : decode cX9_nextToken 104 = .ok (.aload_n 0, 1) := by decide +kernel
theorem dX9_nextToken_105 : decode cX9_nextToken 105 = .ok (.getfield 91, 3) := by decide +kernel
theorem dX9_nextToken_108 : decode cX9_nextToken 108 = .ok (.bipush 59, 2) := by decide +kernel
theorem dX9_nextToken_110 : decode cX9_nextToken 110 = .ok (.if_icmp .ne 7, 3) := by decide +kernel
theorem dX9_nextToken_113 : decode cX9_nextToken 113 = .ok (.iconst 4, 1) := by decide +kernel
theorem dX9_nextToken_114 : decode cX9_nextToken 114 = .ok (.goto 4, 3) := by decide +kernel
theorem dX9_nextToken_117 : decode cX9_nextToken 117 = .ok (.iconst 0, 1) := by decide +kernel
theorem dX9_nextToken_118 : decode cX9_nextToken 118 = .ok (.putfield 102, 3) := by decide +kernel
theorem dX9_nextToken_121 : decode cX9_nextToken 121 = .ok (.aload_n 0, 1) := by decide +kernel
theorem dX9_nextToken_122 : decode cX9_nextToken 122 = .ok (.dup, 1) := by decide +kernel
theorem dX9_nextToken_123 : decode cX9_nextToken 123 = .ok (.getfield 87, 3) := by decide +kernel
theorem dX9_nextToken_126 : decode cX9_nextToken 126 = .ok (.aload_n 0, 1) := by decide +kernel
theorem dX9_nextToken_127 : decode cX9_nextToken 127 = .ok (.getfield 87, 3) := by decide +kernel
theorem dX9_nextToken_130 : decode cX9_nextToken 130 = .ok (.aload_n 0, 1) := by decide +kernel
theorem dX9_nextToken_131 : decode cX9_nextToken 131 = .ok (.getfield 74, 3) := by decide +kernel
theorem dX9_nextToken_134 : decode cX9_nextToken 134 = .ok (.if_icmp .ge 7, 3) := by decide +kernel
theorem dX9_nextToken_137 : decode cX9_nextToken 137 = .ok (.iconst 1, 1) := by decide +kernel
theorem dX9_nextToken_138 : decode cX9_nextToken 138 = .ok (.goto 4, 3) := by decide +kernel
theorem dX9_nextToken_141 : decode cX9_nextToken 141 = .ok (.iconst 0, 1) := by decide +kernel
theorem dX9_nextToken_142 : decode cX9_nextToken 142 = .ok (.iadd, 1) := by decide +kernel
theorem dX9_nextToken_143 : decode cX9_nextToken 143 = .ok (.putfield 87, 3) := by decide +kernel
theorem dX9_nextToken_146 : decode cX9_nextToken 146 = .ok (.aload_n 0, 1) := by decide +kernel
theorem dX9_nextToken_147 : decode cX9_nextToken 147 = .ok (.getfield 102, 3) := by decide +kernel
theorem dX9_nextToken_150 : decode cX9_nextToken 150 = .ok (.iconst 3, 1) := by decide +kernel
theorem dX9_nextToken_151 : decode cX9_nextToken 151 = .ok (.if_icmp .ne 126, 3) := by decide +kernel
theorem dX9_nextToken_154 : decode cX9_nextToken 154 = .ok (.aload_n 0, 1) := by decide +kernel
theorem dX9_nextToken_155 : decode cX9_nextToken 155 = .ok (.dup, 1) := by decide +kernel
theorem dX9_nextToken_156 : decode cX9_nextToken 156 = .ok (.getfield 91, 3) := by decide +kernel
theorem dX9_nextToken_159 : decode cX9_nextToken 159 = .ok (.bipush 48, 2) := by decide +kernel
theorem dX9_nextToken_161 : decode cX9_nextToken 161 = .ok (.isub, 1) := by decide +kernel
theorem dX9_nextToken_162 : decode cX9_nextToken 162 = .ok (.putfield 91, 3) := by decide +kernel
theorem dX9_nextToken_165 : decode cX9_nextToken 165 = .ok (.aload_n 0, 1) := by decide +kernel
theorem dX9_nextToken_166 : decode cX9_nextToken 166 = .ok (.getfield 87, 3) := by decide +kernel
theorem dX9_nextToken_169 : decode cX9_nextToken 169 = .ok (.aload_n 0, 1) := by decide +kernel
theorem dX9_nextToken_170 : decode cX9_nextToken 170 = .ok (.getfield 74, 3) := by decide +kernel
theorem dX9_nextToken_173 : decode cX9_nextToken 173 = .ok (.if_icmp .ge 82, 3) := by decide +kernel
theorem dX9_nextToken_176 : decode cX9_nextToken 176 = .ok (.aload_n 0, 1) := by decide +kernel
theorem dX9_nextToken_177 : decode cX9_nextToken 177 = .ok (.getfield 31, 3) := by decide +kernel
theorem dX9_nextToken_180 : decode cX9_nextToken 180 = .ok (.aload_n 0, 1) := by decide +kernel
theorem dX9_nextToken_181 : decode cX9_nextToken 181 = .ok (.getfield 87, 3) := by decide +kernel
theorem dX9_nextToken_184 : decode cX9_nextToken 184 = .ok (.iaload, 1) := by decide +kernel
theorem dX9_nextToken_185 : decode cX9_nextToken 185 = .ok (.i2l, 1) := by decide +kernel
theorem dX9_nextToken_186 : decode cX9_nextToken 186 = .ok (.ldc2_w 98, 3) := by decide +kernel
theorem dX9_nextToken_189 : decode cX9_nextToken 189 = .ok (.ldc2_w 100, 3) := by decide +kernel
theorem dX9_nextToken_192 : decode cX9_nextToken 192 = .ok (.invokestatic 57, 3) := by decide +kernel
theorem dX9_nextToken_195 : decode cX9_nextToken 195 = .ok (.ifCond .eq 60, 3) := by decide +kernel
theorem dX9_nextToken_198 : decode cX9_nextToken 198 = .ok (.aload_n 0, 1) := by decide +kernel
theorem dX9_nextToken_199 : decode cX9_nextToken 199 = .ok (.aload_n 0, 1) := by decide +kernel
theorem dX9_nextToken_200 : decode cX9_nextToken 200 = .ok (.getfield 87, 3) := by decide +kernel
theorem dX9_nextToken_203 : decode cX9_nextToken 203 = .ok (.aload_n 0, 1) := by decide +kernel
theorem dX9_nextToken_204 : decode cX9_nextToken 204 = .ok (.getfield 81, 3) := by decide +kernel
theorem dX9_nextToken_207 : decode cX9_nextToken 207 = .ok (.isub, 1) := by decide +kernel
theorem dX9_nextToken_208 : decode cX9_nextToken 208 = .ok (.iconst 2, 1) := by decide +kernel
theorem dX9_nextToken_209 : decode cX9_nextToken 209 = .ok (.if_icmp .ge 26, 3) := by decide +kernel
theorem dX9_nextToken_212 : decode cX9_nextToken 212 = .ok (.bipush 10, 2) := by decide +kernel
theorem dX9_nextToken_214 : decode cX9_nextToken 214 = .ok (.aload_n 0, 1) := by decide +kernel
theorem dX9_nextToken_215 : decode cX9_nextToken 215 = .ok (.getfield 91, 3) := by decide +kernel
theorem dX9_nextToken_218 : decode cX9_nextToken 218 = .ok (.imul, 1) := by decide +kernel
theorem dX9_nextToken_219 : decode cX9_nextToken 219 = .ok (.aload_n 0, 1) := by decide +kernel
theorem dX9_nextToken_220 : decode cX9_nextToken 220 = .ok (.getfield 31, 3) := by decide +kernel
theorem dX9_nextToken_223 : decode cX9_nextToken 223 = .ok (.aload_n 0, 1) := by decide +kernel
theorem dX9_nextToken_224 : decode cX9_nextToken 224 = .ok (.getfield 87, 3) := by decide +kernel
theorem dX9_nextToken_227 : decode cX9_nextToken 227 = .ok (.iaload, 1) := by decide +kernel
theorem dX9_nextToken_228 : decode cX9_nextToken 228 = .ok (.iadd, 1) := by decide +kernel
theorem dX9_nextToken_229 : decode cX9_nextToken 229 = .ok (.bipush 48, 2) := by decide +kernel
theorem dX9_nextToken_231 : decode cX9_nextToken 231 = .ok (.isub, 1) := by decide +kernel
theorem dX9_nextToken_232 : decode cX9_nextToken 232 = .ok (.goto 7, 3) := by decide +kernel
theorem dX9_nextToken_235 : decode cX9_nextToken 235 = .ok (.aload_n 0, 1) := by decide +kernel
theorem dX9_nextToken_236 : decode cX9_nextToken 236 = .ok (.getfield 91, 3) := by decide +kernel
theorem dX9_nextToken_239 : decode cX9_nextToken 239 = .ok (.putfield 91, 3) := by decide +kernel
theorem dX9_nextToken_242 : decode cX9_nextToken 242 = .ok (.aload_n 0, 1) := by decide +kernel
theorem dX9_nextToken_243 : decode cX9_nextToken 243 = .ok (.dup, 1) := by decide +kernel
theorem dX9_nextToken_244 : decode cX9_nextToken 244 = .ok (.getfield 87, 3) := by decide +kernel
theorem dX9_nextToken_247 : decode cX9_nextToken 247 = .ok (.iconst 1, 1) := by decide +kernel
theorem dX9_nextToken_248 : decode cX9_nextToken 248 = .ok (.iadd, 1) := by decide +kernel
theorem dX9_nextToken_249 : decode cX9_nextToken 249 = .ok (.putfield 87, 3) := by decide +kernel
theorem dX9_nextToken_252 : decode cX9_nextToken 252 = .ok (.goto (-87), 3) := by decide +kernel
theorem dX9_nextToken_255 : decode cX9_nextToken 255 = .ok (.aload_n 0, 1) := by decide +kernel
theorem dX9_nextToken_256 : decode cX9_nextToken 256 = .ok (.aload_n 0, 1) := by decide +kernel
theorem dX9_nextToken_257 : decode cX9_nextToken 257 = .ok (.getfield 87, 3) := by decide +kernel
theorem dX9_nextToken_260 : decode cX9_nextToken 260 = .ok (.aload_n 0, 1) := by decide +kernel
theorem dX9_nextToken_261 : decode cX9_nextToken 261 = .ok (.getfield 81, 3) := by decide +kernel
theorem dX9_nextToken_264 : decode cX9_nextToken 264 = .ok (.isub, 1) := by decide +kernel
theorem dX9_nextToken_265 : decode cX9_nextToken 265 = .ok (.iconst 2, 1) := by decide +kernel
theorem dX9_nextToken_266 : decode cX9_nextToken 266 = .ok (.if_icmp .le 7, 3) := by decide +kernel
theorem dX9_nextToken_269 : decode cX9_nextToken 269 = .ok (.iconst 0, 1) := by decide +kernel
theorem dX9_nextToken_270 : decode cX9_nextToken 270 = .ok (.goto 4, 3) := by decide +kernel
theorem dX9_nextToken_273 : decode cX9_nextToken 273 = .ok (.iconst 3, 1) := by decide +kernel
theorem dX9_nextToken_274 : decode cX9_nextToken 274 = .ok (.putfield 102, 3) := by decide +kernel
theorem dX9_nextToken_277 : decode cX9_nextToken 277 = .ok (.return_, 1) := by decide +kernel
set_option maxRecDepth 20000 in
theorem ggX9_must_X9_bad : GoodIn wsX9_must wsX9_bad := goodIn_r _ [6, 1, 7, 8, 26, 27, 28, 29, 30, 31, 32, 33, 34, 35, 36, 37, 38, 39, 40, 41, 42, 43, 44, 45, 46, 47, 48, 49] (by decide +kernel) (by decide +kernel)
set_option maxRecDepth 20000 in
theorem gX9_must_X9_bad : GoodIn wsX9_must (wsV RX9 105 RX9 yX9_bad wsX9_bad) := goodIn_app (goodIn_of _ (by decide +kernel)) ggX9_must_X9_bad
set_option maxRecDepth 20000 in
theorem ggX9_must_X9_nextToken : GoodIn wsX9_must wsX9_nextToken := goodIn_r _ [12, 13, 7, 14, 15, 16, 17, 18, 19, 20, 21, 22, 23, 24, 5, 25, 26, 27, 28, 29, 30, 31, 32, 33, 34, 35, 36, 37, 38, 39, 40, 41, 42, 43, 44, 45, 46, 47, 48, 49] (by decide +kernel) (by decide +kernel)
set_option maxRecDepth 20000 in
theorem gX9_must_X9_nextToken : GoodIn wsX9_must (wsV RX9 109 RX9 yX9_nextToken wsX9_nextToken) := goodIn_app (goodIn_of _ (by decide +kernel)) ggX9_must_X9_nextToken
theorem dX9_must_0 : decode cX9_must 0 = .ok (.iload_n 1, 1) := by decide +kernel
theorem dX9_must_1 : decode cX9_must 1 = .ok (.ifCond .ne 8, 3) := by decide +kernel
theorem dX9_must_4 : decode cX9_must 4 = .ok (.aload_n 0, 1) := by decide +kernel
theorem dX9_must_5 : decode cX9_must 5 = .ok (.iconst 1, 1) := by decide +kernel
theorem dX9_must_6 : decode cX9_must 6 = .ok (.invokevirtual 105, 3) := by decide +kernel
theorem dX9_must_9 : decode cX9_must 9 = .ok (.aload_n 0, 1) := by decide +kernel
theorem dX9_must_10 : decode cX9_must 10 = .ok (.getfield 78, 3) := by decide +kernel
theorem dX9_must_13 : decode cX9_must 13 = .ok (.ifCond .ne 7, 3) := by decide +kernel
theorem dX9_must_16 : decode cX9_must 16 = .ok (.aload_n 0, 1) := by decide +kernel
theorem dX9_must_17 : decode cX9_must 17 = .ok (.invokevirtual 109, 3) := by decide +kernel
theorem dX9_must_20 : decode cX9_must 20 = .ok (.return_, 1) := by decide +kernel
theorem dX9_isLetter_0 : decode cX9_isLetter 0 = .ok (.aload_n 0, 1) := by decide +kernel
theorem dX9_isLetter_1 : decode cX9_isLetter 1 = .ok (.getfield 78, 3) := by decide +kernel
theorem dX9_isLetter_4 : decode cX9_isLetter 4 = .ok (.ifCond .ne 23, 3) := by decide +kernel
theorem dX9_isLetter_7 : decode cX9_isLetter 7 = .ok (.aload_n 0, 1) := by decide +kernel
theorem dX9_isLetter_8 : decode cX9_isLetter 8 = .ok (.getfield 102, 3) := by decide +kernel
theorem dX9_isLetter_11 : decode cX9_isLetter 11 = .ok (.iconst 2, 1) := by decide +kernel
theorem dX9_isLetter_12 : decode cX9_isLetter 12 = .ok (.if_icmp .ne 15, 3) := by decide +kernel
theorem dX9_isLetter_15 : decode cX9_isLetter 15 = .ok (.aload_n 0, 1) := by decide +kernel
theorem dX9_isLetter_16 : decode cX9_isLetter 16 = .ok (.getfield 91, 3) := by decide +kernel
theorem dX9_isLetter_19 : decode cX9_isLetter 19 = .ok (.iload_n 1, 1) := by decide +kernel
theorem dX9_isLetter_20 : decode cX9_isLetter 20 = .ok (.if_icmp .ne 7, 3) := by decide +kernel
theorem dX9_isLetter_23 : decode cX9_isLetter 23 = .ok (.iconst 1, 1) := by decide +kernel
theorem dX9_isLetter_24 : decode cX9_isLetter 24 = .ok (.goto 4, 3) := by decide +kernel
theorem dX9_isLetter_27 : decode cX9_isLetter 27 = .ok (.iconst 0, 1) := by decide +kernel
theorem dX9_isLetter_28 : decode cX9_isLetter 28 = .ok (.ireturn, 1) := by decide +kernel
set_option maxRecDepth 20000 in
theorem ggX9_number_X9_bad : GoodIn wsX9_number wsX9_bad := goodIn_r _ [8, 1, 9, 10, 30, 31, 32, 33, 34, 35, 36, 37, 38, 39, 40, 41, 42, 43, 44, 45, 46, 47, 48, 49, 50, 51, 52, 53] (by decide +kernel) (by decide +kernel)
set_option maxRecDepth 20000 in
theorem gX9_number_X9_bad : GoodIn wsX9_number (wsV RX9 105 RX9 yX9_bad wsX9_bad) := goodIn_app (goodIn_of _ (by decide +kernel)) ggX9_number_X9_bad
set_option maxRecDepth 20000 in
theorem ggX9_number_X9_in : GoodIn wsX9_number wsX9_in := goodIn_r _ [13] (by decide +kernel) (by decide +kernel)
set_option maxRecDepth 20000 in
theorem gX9_number_X9_in : GoodIn wsX9_number (va_wsS RX9 57 yX9_in wsX9_in) := goodIn_app (goodIn_of _ (by decide +kernel)) ggX9_number_X9_in
set_option maxRecDepth 20000 in
theorem ggX9_number_X9_must : GoodIn wsX9_number wsX9_must := goodIn_r _ [17, 1, 4, 5, 6, 7, 8, 9, 10, 18, 19, 20, 21, 22, 23, 24, 25, 3, 26, 27, 28, 29, 2, 11, 12, 13, 30, 31, 32, 33, 34, 35, 36, 37, 38, 39, 40, 41, 42, 43, 44, 45, 46, 47, 48, 49, 50, 51, 52, 53] (by decide +kernel) (by decide +kernel)
set_option maxRecDepth 20000 in
theorem gX9_number_X9_must : GoodIn wsX9_number (wsV RX9 112 RX9 yX9_must wsX9_must) := goodIn_app (goodIn_of _ (by decide +kernel)) ggX9_number_X9_must
theorem dX9_number_0 : decode cX9_number 0 = .ok (.aload_n 0, 1) := by decide +kernel
theorem dX9_number_1 : decode cX9_number 1 = .ok (.getfield 78, 3) := by decide +kernel
theorem dX9_number_4 : decode cX9_number 4 = .ok (.ifCond .ne 16, 3) := by decide +kernel
theorem dX9_number_7 : decode cX9_number 7 = .ok (.aload_n 0, 1) := by decide +kernel
theorem dX9_number_8 : decode cX9_number 8 = .ok (.getfield 102, 3) := by decide +kernel
theorem dX9_number_11 : decode cX9_number 11 = .ok (.iconst 3, 1) := by decide +kernel
theorem dX9_number_12 : decode cX9_number 12 = .ok (.if_icmp .eq 8, 3) := by decide +kernel
theorem dX9_number_15 : decode cX9_number 15 = .ok (.aload_n 0, 1) := by decide +kernel
theorem dX9_number_16 : decode cX9_number 16 = .ok (.iconst 1, 1) := by decide +kernel
theorem dX9_number_17 : decode cX9_number 17 = .ok (.invokevirtual 105, 3) := by decide +kernel
theorem dX9_number_20 : decode cX9_number 20 = .ok (.aload_n 0, 1) := by decide +kernel
theorem dX9_number_21 : decode cX9_number 21 = .ok (.getfield 78, 3) := by decide +kernel
theorem dX9_number_24 : decode cX9_number 24 = .ok (.ifCond .ne 23, 3) := by decide +kernel
theorem dX9_number_27 : decode cX9_number 27 = .ok (.aload_n 0, 1) := by decide +kernel
theorem dX9_number_28 : decode cX9_number 28 = .ok (.getfield 91, 3) := by decide +kernel
theorem dX9_number_31 : decode cX9_number 31 = .ok (.i2l, 1) := by decide +kernel
theorem dX9_number_32 : decode cX9_number 32 = .ok (.iload_n 1, 1) := by decide +kernel
theorem dX9_number_33 : decode cX9_number 33 = .ok (.i2l, 1) := by decide +kernel
theorem dX9_number_34 : decode cX9_number 34 = .ok (.iload_n 2, 1) := by decide +kernel
theorem dX9_number_35 : decode cX9_number 35 = .ok (.i2l, 1) := by decide +kernel
theorem dX9_number_36 : decode cX9_number 36 = .ok (.invokestatic 57, 3) := by decide +kernel
theorem dX9_number_39 : decode cX9_number 39 = .ok (.ifCond .ne 8, 3) := by decide +kernel
theorem dX9_number_42 : decode cX9_number 42 = .ok (.aload_n 0, 1) := by decide +kernel
theorem dX9_number_43 : decode cX9_number 43 = .ok (.iconst 2, 1) := by decide +kernel
theorem dX9_number_44 : decode cX9_number 44 = .ok (.invokevirtual 105, 3) := by decide +kernel
theorem dX9_number_47 : decode cX9_number 47 = .ok (.aload_n 0, 1) := by decide +kernel
theorem dX9_number_48 : decode cX9_number 48 = .ok (.getfield 78, 3) := by decide +kernel
theorem dX9_number_51 : decode cX9_number 51 = .ok (.ifCond .ne 10, 3) := by decide +kernel
theorem dX9_number_54 : decode cX9_number 54 = .ok (.aload_n 0, 1) := by decide +kernel
theorem dX9_number_55 : decode cX9_number 55 = .ok (.getfield 91, 3) := by decide +kernel
theorem dX9_number_58 : decode cX9_number 58 = .ok (.goto 4, 3) := by decide +kernel
theorem dX9_number_61 : decode cX9_number 61 = .ok (.iload_n 1, 1) := by decide +kernel
theorem dX9_number_62 : decode cX9_number 62 = .ok (.istore_n 3, 1) := by decide +kernel
theorem dX9_number_63 : decode cX9_number 63 = .ok (.aload_n 0, 1) := by decide +kernel
theorem dX9_number_64 : decode cX9_number 64 = .ok (.iconst 1, 1) := by decide +kernel
theorem dX9_number_65 : decode cX9_number 65 = .ok (.invokevirtual 112, 3) := by decide +kernel
theorem dX9_number_68 : decode cX9_number 68 = .ok (.iload_n 3, 1) := by decide +kernel
theorem dX9_number_69 : decode cX9_number 69 = .ok (.ireturn, 1) := by decide +kernel
set_option maxRecDepth 20000 in
theorem ggX9_mustSign_X9_must : GoodIn wsX9_mustSign wsX9_must := goodIn_r _ [7, 8, 9, 10, 11, 6, 12, 13, 14, 15, 16, 17, 18, 19, 20, 21, 22, 2, 23, 24, 25, 26, 1, 27, 28, 29, 30, 31, 32, 33, 34, 35, 36, 37, 38, 39, 40, 41, 42, 43, 44, 45, 46, 47, 48, 49, 50, 51, 52, 53] (by decide +kernel) (by decide +kernel)
set_option maxRecDepth 20000 in
theorem gX9_mustSign_X9_must : GoodIn wsX9_mustSign (wsV RX9 112 RX9 yX9_must wsX9_must) := goodIn_app (goodIn_of _ (by decide +kernel)) ggX9_mustSign_X9_must
theorem dX9_mustSign_0 : decode cX9_mustSign 0 = .ok (.aload_n 0, 1) := by decide +kernel
theorem dX9_mustSign_1 : decode cX9_mustSign 1 = .ok (.aload_n 0, 1) := by decide +kernel
theorem dX9_mustSign_2 : decode cX9_mustSign 2 = .ok (.getfield 102, 3) := by decide +kernel
theorem dX9_mustSign_5 : decode cX9_mustSign 5 = .ok (.iconst 4, 1) := by decide +kernel
theorem dX9_mustSign_6 : decode cX9_mustSign 6 = .ok (.if_icmp .ne 15, 3) := by decide +kernel
theorem dX9_mustSign_9 : decode cX9_mustSign 9 = .ok (.aload_n 0, 1) := by decide +kernel
theorem dX9_mustSign_10 : decode cX9_mustSign 10 = .ok (.getfield 91, 3) := by decide +kernel
theorem dX9_mustSign_13 : decode cX9_mustSign 13 = .ok (.iload_n 1, 1) := by decide +kernel
theorem dX9_mustSign_14 : decode cX9_mustSign 14 = .ok (.if_icmp .ne 7, 3) := by decide +kernel
theorem dX9_mustSign_17 : decode cX9_mustSign 17 = .ok (.iconst 1, 1) := by decide +kernel
theorem dX9_mustSign_18 : decode cX9_mustSign 18 = .ok (.goto 4, 3) := by decide +kernel
theorem dX9_mustSign_21 : decode cX9_mustSign 21 = .ok (.iconst 0, 1) := by decide +kernel
theorem dX9_mustSign_22 : decode cX9_mustSign 22 = .ok (.invokevirtual 112, 3) := by decide +kernel
theorem dX9_mustSign_25 : decode cX9_mustSign 25 = .ok (.return_, 1) := by decide +kernel
set_option maxRecDepth 20000 in
theorem ggX9_begin_X9_nextToken : GoodIn wsX9_begin wsX9_nextToken := goodIn_r _ [7, 1, 8, 9, 10, 11, 12, 13, 14, 15, 16, 17, 18, 19, 6, 20, 21, 22, 23, 24, 25, 26, 27, 28, 29, 30, 31, 32, 33, 34, 35, 36, 37, 38, 39, 40, 41, 42, 43, 44] (by decide +kernel) (by decide +kernel)
set_option maxRecDepth 20000 in
theorem gX9_begin_X9_nextToken : GoodIn wsX9_begin (wsV RX9 109 RX9 yX9_nextToken wsX9_nextToken) := goodIn_app (goodIn_of _ (by decide +kernel)) ggX9_begin_X9_nextToken
theorem dX9_begin_0 : decode cX9_begin 0 = .ok (.aload_n 0, 1) := by decide +kernel
theorem dX9_begin_1 : decode cX9_begin 1 = .ok (.iconst 0, 1) := by decide +kernel
theorem dX9_begin_2 : decode cX9_begin 2 = .ok (.putfield 87, 3) := by decide +kernel
theorem dX9_begin_5 : decode cX9_begin 5 = .ok (.aload_n 0, 1) := by decide +kernel
theorem dX9_begin_6 : decode cX9_begin 6 = .ok (.iconst 0, 1) := by decide +kernel
theorem dX9_begin_7 : decode cX9_begin 7 = .ok (.putfield 78, 3) := by decide +kernel
theorem dX9_begin_10 : decode cX9_begin 10 = .ok (.aload_n 0, 1) := by decide +kernel
theorem dX9_begin_11 : decode cX9_begin 11 = .ok (.invokevirtual 109, 3) := by decide +kernel
theorem dX9_begin_14 : decode cX9_begin 14 = .ok (.return_, 1) := by decide +kernel
set_option maxRecDepth 20000 in
theorem ggX9_failed_X9_bad : GoodIn wsX9_failed wsX9_bad := goodIn_r _ [9, 1, 10, 11, 12, 13, 14, 15, 16, 17, 18, 19, 20, 21, 22, 23, 24, 25, 26, 27, 28, 29, 30, 31, 32, 33, 34, 35] (by decide +kernel) (by decide +kernel)
set_option maxRecDepth 20000 in
theorem gX9_failed_X9_bad : GoodIn wsX9_failed (wsV RX9 105 RX9 yX9_bad wsX9_bad) := goodIn_app (goodIn_of _ (by decide +kernel)) ggX9_failed_X9_bad
theorem dX9_failed_0 : decode cX9_failed 0 = .ok (.aload_n 0, 1) := by decide +kernel
theorem dX9_failed_1 : decode cX9_failed 1 = .ok (.getfield 78, 3) := by decide +kernel
theorem dX9_failed_4 : decode cX9_failed 4 = .ok (.ifCond .ne 16, 3) := by decide +kernel
theorem dX9_failed_7 : decode cX9_failed 7 = .ok (.aload_n 0, 1) := by decide +kernel
theorem dX9_failed_8 : decode cX9_failed 8 = .ok (.getfield 102, 3) := by decide +kernel
theorem dX9_failed_11 : decode cX9_failed 11 = .ok (.iconst 1, 1) := by decide +kernel
theorem dX9_failed_12 : decode cX9_failed 12 = .ok (.if_icmp .eq 8, 3) := by decide +kernel
theorem dX9_failed_15 : decode cX9_failed 15 = .ok (.aload_n 0, 1) := by decide +kernel
theorem dX9_failed_16 : decode cX9_failed 16 = .ok (.iconst 1, 1) := by decide +kernel
theorem dX9_failed_17 : decode cX9_failed 17 = .ok (.invokevirtual 105, 3) := by decide +kernel
theorem dX9_failed_20 : decode cX9_failed 20 = .ok (.aload_n 0, 1) := by decide +kernel
theorem dX9_failed_21 : decode cX9_failed 21 = .ok (.iconst 0, 1) := by decide +kernel
theorem dX9_failed_22 : decode cX9_failed 22 = .ok (.putfield 74, 3) := by decide +kernel
theorem dX9_failed_25 : decode cX9_failed 25 = .ok (.aload_n 0, 1) := by decide +kernel
theorem dX9_failed_26 : decode cX9_failed 26 = .ok (.aload_n 0, 1) := by decide +kernel
theorem dX9_failed_27 : decode cX9_failed 27 = .ok (.getfield 78, 3) := by decide +kernel
theorem dX9_failed_30 : decode cX9_failed 30 = .ok (.ifCond .le 10, 3) := by decide +kernel
theorem dX9_failed_33 : decode cX9_failed 33 = .ok (.aload_n 0, 1) := by decide +kernel
theorem dX9_failed_34 : decode cX9_failed 34 = .ok (.getfield 78, 3) := by decide +kernel
theorem dX9_failed_37 : decode cX9_failed 37 = .ok (.goto 7, 3) := by decide +kernel
theorem dX9_failed_40 : decode cX9_failed 40 = .ok (.aload_n 0, 1) := by decide +kernel
theorem dX9_failed_41 : decode cX9_failed 41 = .ok (.getfield 116, 3) := by decide +kernel
theorem dX9_failed_44 : decode cX9_failed 44 = .ok (.putfield 116, 3) := by decide +kernel
theorem dX9_failed_47 : decode cX9_failed 47 = .ok (.aload_n 0, 1) := by decide +kernel
theorem dX9_failed_48 : decode cX9_failed 48 = .ok (.getfield 78, 3) := by decide +kernel
theorem dX9_failed_51 : decode cX9_failed 51 = .ok (.ifCond .le 7, 3) := by decide +kernel
theorem dX9_failed_54 : decode cX9_failed 54 = .ok (.iconst 1, 1) := by decide +kernel
theorem dX9_failed_55 : decode cX9_failed 55 = .ok (.goto 4, 3) := by decide +kernel
theorem dX9_failed_58 : decode cX9_failed 58 = .ok (.iconst 0, 1) := by decide +kernel
theorem dX9_failed_59 : decode cX9_failed 59 = .ok (.ireturn, 1) := by decide +kernel
theorem dX9_fault_0 : decode cX9_fault 0 = .ok (.aload_n 0, 1) := by decide +kernel
theorem dX9_fault_1 : decode cX9_fault 1 = .ok (.iconst 0, 1) := by decide +kernel
theorem dX9_fault_2 : decode cX9_fault 2 = .ok (.putfield 47, 3) := by decide +kernel
theorem dX9_fault_5 : decode cX9_fault 5 = .ok (.aload_n 0, 1) := by decide +kernel
theorem dX9_fault_6 : decode cX9_fault 6 = .ok (.getfield 116, 3) := by decide +kernel
theorem dX9_fault_9 : decode cX9_fault 9 = .ok (.ireturn, 1) := by decide +kernel
theorem dX9_kindBy_0 : decode cX9_kindBy 0 = .ok (.iload_n 0, 1) := by decide +kernel
theorem dX9_kindBy_1 : decode cX9_kindBy 1 = .ok (.bipush 99, 2) := by decide +kernel
theorem dX9_kindBy_3 : decode cX9_kindBy 3 = .ok (.if_icmp .ne 7, 3) := by decide +kernel
theorem dX9_kindBy_6 : decode cX9_kindBy 6 = .ok (.iconst 1, 1) := by decide +kernel
theorem dX9_kindBy_7 : decode cX9_kindBy 7 = .ok (.goto 45, 3) := by decide +kernel
theorem dX9_kindBy_10 : decode cX9_kindBy 10 = .ok (.iload_n 0, 1) := by decide +kernel
theorem dX9_kindBy_11 : decode cX9_kindBy 11 = .ok (.bipush 115, 2) := by decide +kernel
theorem dX9_kindBy_13 : decode cX9_kindBy 13 = .ok (.if_icmp .ne 7, 3) := by decide +kernel
theorem dX9_kindBy_16 : decode cX9_kindBy 16 = .ok (.iconst 2, 1) := by decide +kernel
theorem dX9_kindBy_17 : decode cX9_kindBy 17 = .ok (.goto 35, 3) := by decide +kernel
theorem dX9_kindBy_20 : decode cX9_kindBy 20 = .ok (.iload_n 0, 1) := by decide +kernel
theorem dX9_kindBy_21 : decode cX9_kindBy 21 = .ok (.bipush 106, 2) := by decide +kernel
theorem dX9_kindBy_23 : decode cX9_kindBy 23 = .ok (.if_icmp .ne 7, 3) := by decide +kernel
theorem dX9_kindBy_26 : decode cX9_kindBy 26 = .ok (.iconst 3, 1) := by decide +kernel
theorem dX9_kindBy_27 : decode cX9_kindBy 27 = .ok (.goto 25, 3) := by decide +kernel
theorem dX9_kindBy_30 : decode cX9_kindBy 30 = .ok (.iload_n 0, 1) := by decide +kernel
theorem dX9_kindBy_31 : decode cX9_kindBy 31 = .ok (.bipush 103, 2) := by decide +kernel
theorem dX9_kindBy_33 : decode cX9_kindBy 33 = .ok (.if_icmp .ne 7, 3) := by decide +kernel
theorem dX9_kindBy_36 : decode cX9_kindBy 36 = .ok (.iconst 4, 1) := by decide +kernel
theorem dX9_kindBy_37 : decode cX9_kindBy 37 = .ok (.goto 15, 3) := by decide +kernel
theorem dX9_kindBy_40 : decode cX9_kindBy 40 = .ok (.iload_n 0, 1) := by decide +kernel
theorem dX9_kindBy_41 : decode cX9_kindBy 41 = .ok (.bipush 98, 2) := by decide +kernel
theorem dX9_kindBy_43 : decode cX9_kindBy 43 = .ok (.if_icmp .ne 7, 3) := by decide +kernel
theorem dX9_kindBy_46 : decode cX9_kindBy 46 = .ok (.iconst 5, 1) := by decide +kernel
theorem dX9_kindBy_47 : decode cX9_kindBy 47 = .ok (.goto 5, 3) := by decide +kernel
theorem dX9_kindBy_50 : decode cX9_kindBy 50 = .ok (.ldc 90, 2) := by decide +kernel
theorem dX9_kindBy_52 : decode cX9_kindBy 52 = .ok (.ireturn, 1) := by decide +kernel
set_option maxRecDepth 20000 in
theorem ggX9_isSort_X9_kindBy : GoodIn wsX9_isSort wsX9_kindBy := goodIn_r _ [8, 4] (by decide +kernel) (by decide +kernel)
set_option maxRecDepth 20000 in
theorem gX9_isSort_X9_kindBy : GoodIn wsX9_isSort (va_wsS RX9 119 yX9_kindBy wsX9_kindBy) := goodIn_app (goodIn_of _ (by decide +kernel)) ggX9_isSort_X9_kindBy
theorem dX9_isSort_0 : decode cX9_isSort 0 = .ok (.aload_n 0, 1) := by decide +kernel
theorem dX9_isSort_1 : decode cX9_isSort 1 = .ok (.getfield 78, 3) := by decide +kernel
theorem dX9_isSort_4 : decode cX9_isSort 4 = .ok (.ifCond .ne 27, 3) := by decide +kernel
theorem dX9_isSort_7 : decode cX9_isSort 7 = .ok (.aload_n 0, 1) := by decide +kernel
theorem dX9_isSort_8 : decode cX9_isSort 8 = .ok (.getfield 102, 3) := by decide +kernel
theorem dX9_isSort_11 : decode cX9_isSort 11 = .ok (.iconst 2, 1) := by decide +kernel
theorem dX9_isSort_12 : decode cX9_isSort 12 = .ok (.if_icmp .ne 19, 3) := by decide +kernel
theorem dX9_isSort_15 : decode cX9_isSort 15 = .ok (.aload_n 0, 1) := by decide +kernel
theorem dX9_isSort_16 : decode cX9_isSort 16 = .ok (.getfield 91, 3) := by decide +kernel
theorem dX9_isSort_19 : decode cX9_isSort 19 = .ok (.invokestatic 119, 3) := by decide +kernel
theorem dX9_isSort_22 : decode cX9_isSort 22 = .ok (.ldc 90, 2) := by decide +kernel
theorem dX9_isSort_24 : decode cX9_isSort 24 = .ok (.if_icmp .eq 7, 3) := by decide +kernel
theorem dX9_isSort_27 : decode cX9_isSort 27 = .ok (.iconst 1, 1) := by decide +kernel
theorem dX9_isSort_28 : decode cX9_isSort 28 = .ok (.goto 4, 3) := by decide +kernel
theorem dX9_isSort_31 : decode cX9_isSort 31 = .ok (.iconst 0, 1) := by decide +kernel
theorem dX9_isSort_32 : decode cX9_isSort 32 = .ok (.ireturn, 1) := by decide +kernel
set_option maxRecDepth 20000 in
theorem ggX9_readPerson_X9_kindBy : GoodIn wsX9_readPerson wsX9_kindBy := goodIn_r _ [7, 8] (by decide +kernel) (by decide +kernel)
set_option maxRecDepth 20000 in
theorem gX9_readPerson_X9_kindBy : GoodIn wsX9_readPerson (va_wsS RX9 119 yX9_kindBy wsX9_kindBy) := goodIn_app (goodIn_of _ (by decide +kernel)) ggX9_readPerson_X9_kindBy
set_option maxRecDepth 20000 in
theorem ggX9_readPerson_X9_bad : GoodIn wsX9_readPerson wsX9_bad := goodIn_r _ [12, 3, 13, 14, 42, 43, 44, 45, 46, 47, 48, 49, 50, 51, 52, 53, 54, 55, 56, 57, 58, 59, 60, 61, 62, 63, 64, 65] (by decide +kernel) (by decide +kernel)
set_option maxRecDepth 20000 in
theorem gX9_readPerson_X9_bad : GoodIn wsX9_readPerson (wsV RX9 105 RX9 yX9_bad wsX9_bad) := goodIn_app (goodIn_of _ (by decide +kernel)) ggX9_readPerson_X9_bad
set_option maxRecDepth 20000 in
theorem ggX9_readPerson_X9_must : GoodIn wsX9_readPerson wsX9_must := goodIn_r _ [18, 3, 9, 10, 11, 6, 12, 13, 14, 19, 20, 21, 22, 23, 24, 25, 8, 1, 26, 27, 28, 29, 30, 31, 32, 33, 42, 43, 44, 45, 46, 47, 48, 49, 50, 51, 52, 53, 54, 55, 56, 57, 58, 59, 60, 61, 62, 63, 64, 65] (by decide +kernel) (by decide +kernel)
set_option maxRecDepth 20000 in
theorem gX9_readPerson_X9_must : GoodIn wsX9_readPerson (wsV RX9 112 RX9 yX9_must wsX9_must) := goodIn_app (goodIn_of _ (by decide +kernel)) ggX9_readPerson_X9_must
set_option maxRecDepth 20000 in
theorem ggX9_readPerson_X9_number : GoodIn wsX9_readPerson wsX9_number := goodIn_r _ [37, 3, 30, 1, 9, 10, 11, 6, 12, 13, 14, 31, 32, 33, 15, 16, 17, 18, 19, 20, 21, 22, 23, 24, 25, 8, 26, 27, 28, 29, 42, 43, 44, 45, 46, 47, 48, 49, 50, 51, 52, 53, 54, 55, 56, 57, 58, 59, 60, 61, 62, 63, 64, 65] (by decide +kernel) (by decide +kernel)
set_option maxRecDepth 20000 in
theorem gX9_readPerson_X9_number : GoodIn wsX9_readPerson (wsV RX9 122 RX9 yX9_number wsX9_number) := goodIn_app (goodIn_of _ (by decide +kernel)) ggX9_readPerson_X9_number
set_option maxRecDepth 20000 in
theorem ggX9_readPerson_X9_mustSign : GoodIn wsX9_readPerson wsX9_mustSign := goodIn_r _ [41, 30, 1, 15, 16, 17, 6, 18, 3, 9, 10, 11, 12, 13, 14, 19, 20, 21, 22, 23, 24, 25, 8, 26, 27, 28, 29, 31, 32, 33, 42, 43, 44, 45, 46, 47, 48, 49, 50, 51, 52, 53, 54, 55, 56, 57, 58, 59, 60, 61, 62, 63, 64, 65] (by decide +kernel) (by decide +kernel)
set_option maxRecDepth 20000 in
theorem gX9_readPerson_X9_mustSign : GoodIn wsX9_readPerson (wsV RX9 126 RX9 yX9_mustSign wsX9_mustSign) := goodIn_app (goodIn_of _ (by decide +kernel)) ggX9_readPerson_X9_mustSign
theorem dX9_readPerson_0 : decode cX9_readPerson 0 = .ok (.aload_n 0, 1) := by decide +kernel
theorem dX9_readPerson_1 : decode cX9_readPerson 1 = .ok (.getfield 91, 3) := by decide +kernel
theorem dX9_readPerson_4 : decode cX9_readPerson 4 = .ok (.invokestatic 119, 3) := by decide +kernel
theorem dX9_readPerson_7 : decode cX9_readPerson 7 = .ok (.istore_n 1, 1) := by decide +kernel
theorem dX9_readPerson_8 : decode cX9_readPerson 8 = .ok (.aload_n 0, 1) := by decide +kernel
theorem dX9_readPerson_9 : decode cX9_readPerson 9 = .ok (.getfield 22, 3) := by decide +kernel
theorem dX9_readPerson_12 : decode cX9_readPerson 12 = .ok (.iconst 2, 1) := by decide +kernel
theorem dX9_readPerson_13 : decode cX9_readPerson 13 = .ok (.iaload, 1) := by decide +kernel
theorem dX9_readPerson_14 : decode cX9_readPerson 14 = .ok (.bipush 7, 2) := by decide +kernel
theorem dX9_readPerson_16 : decode cX9_readPerson 16 = .ok (.if_icmp .ne 8, 3) := by decide +kernel
theorem dX9_readPerson_19 : decode cX9_readPerson 19 = .ok (.aload_n 0, 1) := by decide +kernel
theorem dX9_readPerson_20 : decode cX9_readPerson 20 = .ok (.iconst 3, 1) := by decide +kernel
theorem dX9_readPerson_21 : decode cX9_readPerson 21 = .ok (.invokevirtual 105, 3) := by decide +kernel
theorem dX9_readPerson_24 : decode cX9_readPerson 24 = .ok (.aload_n 0, 1) := by decide +kernel
theorem dX9_readPerson_25 : decode cX9_readPerson 25 = .ok (.iconst 1, 1) := by decide +kernel
theorem dX9_readPerson_26 : decode cX9_readPerson 26 = .ok (.invokevirtual 112, 3) := by decide +kernel
theorem dX9_readPerson_29 : decode cX9_readPerson 29 = .ok (.aload_n 0, 1) := by decide +kernel
theorem dX9_readPerson_30 : decode cX9_readPerson 30 = .ok (.iconst 0, 1) := by decide +kernel
theorem dX9_readPerson_31 : decode cX9_readPerson 31 = .ok (.bipush 9, 2) := by decide +kernel
theorem dX9_readPerson_33 : decode cX9_readPerson 33 = .ok (.invokevirtual 122, 3) := by decide +kernel
theorem dX9_readPerson_36 : decode cX9_readPerson 36 = .ok (.istore_n 2, 1) := by decide +kernel
theorem dX9_readPerson_37 : decode cX9_readPerson 37 = .ok (.aload_n 0, 1) := by decide +kernel
theorem dX9_readPerson_38 : decode cX9_readPerson 38 = .ok (.bipush 44, 2) := by decide +kernel
theorem dX9_readPerson_40 : decode cX9_readPerson 40 = .ok (.invokevirtual 126, 3) := by decide +kernel
theorem dX9_readPerson_43 : decode cX9_readPerson 43 = .ok (.aload_n 0, 1) := by decide +kernel
theorem dX9_readPerson_44 : decode cX9_readPerson 44 = .ok (.iconst 0, 1) := by decide +kernel
theorem dX9_readPerson_45 : decode cX9_readPerson 45 = .ok (.bipush 9, 2) := by decide +kernel
theorem dX9_readPerson_47 : decode cX9_readPerson 47 = .ok (.invokevirtual 122, 3) := by decide +kernel
theorem dX9_readPerson_50 : decode cX9_readPerson 50 = .ok (.istore_n 3, 1) := by decide +kernel
theorem dX9_readPerson_51 : decode cX9_readPerson 51 = .ok (.aload_n 0, 1) := by decide +kernel
theorem dX9_readPerson_52 : decode cX9_readPerson 52 = .ok (.bipush 44, 2) := by decide +kernel
theorem dX9_readPerson_54 : decode cX9_readPerson 54 = .ok (.invokevirtual 126, 3) := by decide +kernel
theorem dX9_readPerson_57 : decode cX9_readPerson 57 = .ok (.aload_n 0, 1) := by decide +kernel
theorem dX9_readPerson_58 : decode cX9_readPerson 58 = .ok (.iconst 0, 1) := by decide +kernel
theorem dX9_readPerson_59 : decode cX9_readPerson 59 = .ok (.aload_n 0, 1) := by decide +kernel
theorem dX9_readPerson_60 : decode cX9_readPerson 60 = .ok (.getfield 22, 3) := by decide +kernel
theorem dX9_readPerson_63 : decode cX9_readPerson 63 = .ok (.iconst 0, 1) := by decide +kernel
theorem dX9_readPerson_64 : decode cX9_readPerson 64 = .ok (.iaload, 1) := by decide +kernel
theorem dX9_readPerson_65 : decode cX9_readPerson 65 = .ok (.iconst 1, 1) := by decide +kernel
theorem dX9_readPerson_66 : decode cX9_readPerson 66 = .ok (.isub, 1) := by decide +kernel
theorem dX9_readPerson_67 : decode cX9_readPerson 67 = .ok (.invokevirtual 122, 3) := by decide +kernel
theorem dX9_readPerson_70 : decode cX9_readPerson 70 = .ok (.istore 4, 2) := by decide +kernel
theorem dX9_readPerson_72 : decode cX9_readPerson 72 = .ok (.aload_n 0, 1) := by decide +kernel
theorem dX9_readPerson_73 : decode cX9_readPerson 73 = .ok (.bipush 59, 2) := by decide +kernel
theorem dX9_readPerson_75 : decode cX9_readPerson 75 = .ok (.invokevirtual 126, 3) := by decide +kernel
theorem dX9_readPerson_78 : decode cX9_readPerson 78 = .ok (.aload_n 0, 1) := by decide +kernel
theorem dX9_readPerson_79 : decode cX9_readPerson 79 = .ok (.getfield 78, 3) := by decide +kernel
theorem dX9_readPerson_82 : decode cX9_readPerson 82 = .ok (.ifCond .ne 64, 3) := by decide +kernel
theorem dX9_readPerson_85 : decode cX9_readPerson 85 = .ok (.iconst 4, 1) := by decide +kernel
theorem dX9_readPerson_86 : decode cX9_readPerson 86 = .ok (.iconst 5, 1) := by decide +kernel
theorem dX9_readPerson_87 : decode cX9_readPerson 87 = .ok (.aload_n 0, 1) := by decide +kernel
theorem dX9_readPerson_88 : decode cX9_readPerson 88 = .ok (.getfield 22, 3) := by decide +kernel
theorem dX9_readPerson_91 : decode cX9_readPerson 91 = .ok (.iconst 2, 1) := by decide +kernel
theorem dX9_readPerson_92 : decode cX9_readPerson 92 = .ok (.iaload, 1) := by decide +kernel
theorem dX9_readPerson_93 : decode cX9_readPerson 93 = .ok (.imul, 1) := by decide +kernel
theorem dX9_readPerson_94 : decode cX9_readPerson 94 = .ok (.iadd, 1) := by decide +kernel
theorem dX9_readPerson_95 : decode cX9_readPerson 95 = .ok (.istore 5, 2) := by decide +kernel
theorem dX9_readPerson_97 : decode cX9_readPerson 97 = .ok (.aload_n 0, 1) := by decide +kernel
theorem dX9_readPerson_98 : decode cX9_readPerson 98 = .ok (.getfield 22, 3) := by decide +kernel
theorem dX9_readPerson_101 : decode cX9_readPerson 101 = .ok (.iload 5, 2) := by decide +kernel
theorem dX9_readPerson_103 : decode cX9_readPerson 103 = .ok (.iload_n 1, 1) := by decide +kernel
theorem dX9_readPerson_104 : decode cX9_readPerson 104 = .ok (.iastore, 1) := by decide +kernel
theorem dX9_readPerson_105 : decode cX9_readPerson 105 = .ok (.aload_n 0, 1) := by decide +kernel
theorem dX9_readPerson_106 : decode cX9_readPerson 106 = .ok (.getfield 22, 3) := by decide +kernel
theorem dX9_readPerson_109 : decode cX9_readPerson 109 = .ok (.iload 5, 2) := by decide +kernel
theorem dX9_readPerson_111 : decode cX9_readPerson 111 = .ok (.iconst 1, 1) := by decide +kernel
theorem dX9_readPerson_112 : decode cX9_readPerson 112 = .ok (.iadd, 1) := by decide +kernel
theorem dX9_readPerson_113 : decode cX9_readPerson 113 = .ok (.iload_n 2, 1) := by decide +kernel
theorem dX9_readPerson_114 : decode cX9_readPerson 114 = .ok (.iastore, 1) := by decide +kernel
theorem dX9_readPerson_115 : decode cX9_readPerson 115 = .ok (.aload_n 0, 1) := by decide +kernel
theorem dX9_readPerson_116 : decode cX9_readPerson 116 = .ok (.getfield 22, 3) := by decide +kernel
theorem dX9_readPerson_119 : decode cX9_readPerson 119 = .ok (.iload 5, 2) := by decide +kernel
theorem dX9_readPerson_121 : decode cX9_readPerson 121 = .ok (.iconst 2, 1) := by decide +kernel
theorem dX9_readPerson_122 : decode cX9_readPerson 122 = .ok (.iadd, 1) := by decide +kernel
theorem dX9_readPerson_123 : decode cX9_readPerson 123 = .ok (.iload_n 3, 1) := by decide +kernel
theorem dX9_readPerson_124 : decode cX9_readPerson 124 = .ok (.iastore, 1) := by decide +kernel
theorem dX9_readPerson_125 : decode cX9_readPerson 125 = .ok (.aload_n 0, 1) := by decide +kernel
theorem dX9_readPerson_126 : decode cX9_readPerson 126 = .ok (.getfield 22, 3) := by decide +kernel
theorem dX9_readPerson_129 : decode cX9_readPerson 129 = .ok (.iload 5, 2) := by decide +kernel
theorem dX9_readPerson_131 : decode cX9_readPerson 131 = .ok (.iconst 3, 1) := by decide +kernel
theorem dX9_readPerson_132 : decode cX9_readPerson 132 = .ok (.iadd, 1) := by decide +kernel
theorem dX9_readPerson_133 : decode cX9_readPerson 133 = .ok (.iload 4, 2) := by decide +kernel
theorem dX9_readPerson_135 : decode cX9_readPerson 135 = .ok (.iastore, 1) := by decide +kernel
theorem dX9_readPerson_136 : decode cX9_readPerson 136 = .ok (.aload_n 0, 1) := by decide +kernel
theorem dX9_readPerson_137 : decode cX9_readPerson 137 = .ok (.getfield 22, 3) := by decide +kernel
theorem dX9_readPerson_140 : decode cX9_readPerson 140 = .ok (.iconst 2, 1) := by decide +kernel
theorem dX9_readPerson_141 : decode cX9_readPerson 141 = .ok (.dup2, 1) := by decide +kernel
theorem dX9_readPerson_142 : decode cX9_readPerson 142 = .ok (.iaload, 1) := by decide +kernel
theorem dX9_readPerson_143 : decode cX9_readPerson 143 = .ok (.iconst 1, 1) := by decide +kernel
theorem dX9_readPerson_144 : decode cX9_readPerson 144 = .ok (.iadd, 1) := by decide +kernel
theorem dX9_readPerson_145 : decode cX9_readPerson 145 = .ok (.iastore, 1) := by decide +kernel
theorem dX9_readPerson_146 : decode cX9_readPerson 146 = .ok (.return_, 1) := by decide +kernel
set_option maxRecDepth 20000 in
theorem ggX9_ministry_X9_begin : GoodIn wsX9_ministry wsX9_begin := goodIn_r _ [11, 12, 13, 14, 15, 16, 10, 17, 18, 19, 20, 21, 22, 23, 24, 25, 26, 27, 28, 29, 30, 67, 68, 69, 70, 71, 72, 73, 74, 75, 76, 77, 78, 79, 80, 81, 82, 83, 84, 85, 86, 87, 88, 89, 90] (by decide +kernel) (by decide +kernel)
set_option maxRecDepth 20000 in
theorem gX9_ministry_X9_begin : GoodIn wsX9_ministry (wsV RX9 129 RX9 yX9_begin wsX9_begin) := goodIn_app (goodIn_of _ (by decide +kernel)) ggX9_ministry_X9_begin
set_option maxRecDepth 20000 in
theorem ggX9_ministry_X9_isLetter : GoodIn wsX9_ministry wsX9_isLetter := goodIn_r _ [34, 13, 27, 22, 67, 68, 69, 70, 71, 72, 73, 74, 75, 76, 77, 78, 79, 80, 81, 82, 83, 84, 85, 86, 87, 88, 89, 90] (by decide +kernel) (by decide +kernel)
set_option maxRecDepth 20000 in
theorem gX9_ministry_X9_isLetter : GoodIn wsX9_ministry (wsV RX9 132 RX9 yX9_isLetter wsX9_isLetter) := goodIn_app (goodIn_of _ (by decide +kernel)) ggX9_ministry_X9_isLetter
set_option maxRecDepth 20000 in
theorem ggX9_ministry_X9_must : GoodIn wsX9_ministry wsX9_must := goodIn_r _ [38, 13, 39, 40, 41, 10, 42, 18, 4, 14, 15, 16, 17, 12, 19, 20, 21, 22, 23, 24, 25, 26, 27, 28, 29, 30, 67, 68, 69, 70, 71, 72, 73, 74, 75, 76, 77, 78, 79, 80, 81, 82, 83, 84, 85, 86, 87, 88, 89, 90] (by decide +kernel) (by decide +kernel)
set_option maxRecDepth 20000 in
theorem gX9_ministry_X9_must : GoodIn wsX9_ministry (wsV RX9 112 RX9 yX9_must wsX9_must) := goodIn_app (goodIn_of _ (by decide +kernel)) ggX9_ministry_X9_must
set_option maxRecDepth 20000 in
theorem ggX9_ministry_X9_number : GoodIn wsX9_ministry wsX9_number := goodIn_r _ [46, 13, 27, 22, 39, 40, 41, 10, 42, 18, 4, 28, 29, 30, 35, 36, 37, 38, 14, 15, 16, 17, 12, 19, 20, 21, 23, 24, 25, 26, 67, 68, 69, 70, 71, 72, 73, 74, 75, 76, 77, 78, 79, 80, 81, 82, 83, 84, 85, 86, 87, 88, 89, 90] (by decide +kernel) (by decide +kernel)
set_option maxRecDepth 20000 in
theorem gX9_ministry_X9_number : GoodIn wsX9_ministry (wsV RX9 122 RX9 yX9_number wsX9_number) := goodIn_app (goodIn_of _ (by decide +kernel)) ggX9_ministry_X9_number
set_option maxRecDepth 20000 in
theorem ggX9_ministry_X9_mustSign : GoodIn wsX9_ministry wsX9_mustSign := goodIn_r _ [50, 27, 22, 35, 36, 37, 10, 38, 13, 39, 40, 41, 42, 18, 4, 14, 15, 16, 17, 12, 19, 20, 21, 23, 24, 25, 26, 28, 29, 30, 67, 68, 69, 70, 71, 72, 73, 74, 75, 76, 77, 78, 79, 80, 81, 82, 83, 84, 85, 86, 87, 88, 89, 90] (by decide +kernel) (by decide +kernel)
set_option maxRecDepth 20000 in
theorem gX9_ministry_X9_mustSign : GoodIn wsX9_ministry (wsV RX9 126 RX9 yX9_mustSign wsX9_mustSign) := goodIn_app (goodIn_of _ (by decide +kernel)) ggX9_ministry_X9_mustSign
set_option maxRecDepth 20000 in
theorem ggX9_ministry_X9_isSort : GoodIn wsX9_ministry wsX9_isSort := goodIn_r _ [54, 13, 27, 22, 21, 55, 56, 10, 57, 67, 68, 69, 70, 71, 72, 73, 74, 75, 76, 77, 78, 79, 80, 81, 82, 83, 84, 85, 86, 87, 88, 89, 90] (by decide +kernel) (by decide +kernel)
set_option maxRecDepth 20000 in
theorem gX9_ministry_X9_isSort : GoodIn wsX9_ministry (wsV RX9 135 RX9 yX9_isSort wsX9_isSort) := goodIn_app (goodIn_of _ (by decide +kernel)) ggX9_ministry_X9_isSort
set_option maxRecDepth 20000 in
theorem ggX9_ministry_X9_bad : GoodIn wsX9_ministry wsX9_bad := goodIn_r _ [42, 13, 18, 4, 67, 68, 69, 70, 71, 72, 73, 74, 75, 76, 77, 78, 79, 80, 81, 82, 83, 84, 85, 86, 87, 88, 89, 90] (by decide +kernel) (by decide +kernel)
set_option maxRecDepth 20000 in
theorem gX9_ministry_X9_bad : GoodIn wsX9_ministry (wsV RX9 105 RX9 yX9_bad wsX9_bad) := goodIn_app (goodIn_of _ (by decide +kernel)) ggX9_ministry_X9_bad
set_option maxRecDepth 20000 in
theorem ggX9_ministry_X9_readPerson : GoodIn wsX9_ministry wsX9_readPerson := goodIn_r _ [61, 22, 2, 13, 55, 56, 10, 57, 21, 39, 40, 41, 42, 18, 4, 35, 36, 37, 38, 14, 15, 16, 17, 12, 19, 20, 23, 24, 25, 26, 27, 28, 29, 30, 43, 44, 45, 46, 47, 48, 49, 50, 67, 68, 69, 70, 71, 72, 73, 74, 75, 76, 77, 78, 79, 80, 81, 82, 83, 84, 85, 86, 87, 88, 89, 90] (by decide +kernel) (by decide +kernel)
set_option maxRecDepth 20000 in
theorem gX9_ministry_X9_readPerson : GoodIn wsX9_ministry (wsV RX9 139 RX9 yX9_readPerson wsX9_readPerson) := goodIn_app (goodIn_of _ (by decide +kernel)) ggX9_ministry_X9_readPerson
set_option maxRecDepth 20000 in
theorem ggX9_ministry_X9_failed : GoodIn wsX9_ministry wsX9_failed := goodIn_r _ [65, 13, 27, 19, 66, 39, 40, 41, 10, 42, 18, 4, 67, 68, 69, 70, 71, 72, 73, 74, 75, 76, 77, 78, 79, 80, 81, 82, 83, 84, 85, 86, 87, 88, 89, 90] (by decide +kernel) (by decide +kernel)
set_option maxRecDepth 20000 in
theorem gX9_ministry_X9_failed : GoodIn wsX9_ministry (wsV RX9 142 RX9 yX9_failed wsX9_failed) := goodIn_app (goodIn_of _ (by decide +kernel)) ggX9_ministry_X9_failed
theorem dX9_ministry_0 : decode cX9_ministry 0 = .ok (.aload_n 0, 1) := by decide +kernel
theorem dX9_ministry_1 : decode cX9_ministry 1 = .ok (.iconst 0, 1) := by decide +kernel
theorem dX9_ministry_2 : decode cX9_ministry 2 = .ok (.putfield 47, 3) := by decide +kernel
theorem dX9_ministry_5 : decode cX9_ministry 5 = .ok (.aload_n 0, 1) := by decide +kernel
theorem dX9_ministry_6 : decode cX9_ministry 6 = .ok (.invokevirtual 129, 3) := by decide +kernel
theorem dX9_ministry_9 : decode cX9_ministry 9 = .ok (.iconst 0, 1) := by decide +kernel
theorem dX9_ministry_10 : decode cX9_ministry 10 = .ok (.istore_n 1, 1) := by decide +kernel
theorem dX9_ministry_11 : decode cX9_ministry 11 = .ok (.iload_n 1, 1) := by decide +kernel
theorem dX9_ministry_12 : decode cX9_ministry 12 = .ok (.bipush 39, 2) := by decide +kernel
theorem dX9_ministry_14 : decode cX9_ministry 14 = .ok (.if_icmp .ge 16, 3) := by decide +kernel
theorem dX9_ministry_17 : decode cX9_ministry 17 = .ok (.aload_n 0, 1) := by decide +kernel
theorem dX9_ministry_18 : decode cX9_ministry 18 = .ok (.getfield 22, 3) := by decide +kernel
theorem dX9_ministry_21 : decode cX9_ministry 21 = .ok (.iload_n 1, 1) := by decide +kernel
theorem dX9_ministry_22 : decode cX9_ministry 22 = .ok (.iconst 0, 1) := by decide +kernel
theorem dX9_ministry_23 : decode cX9_ministry 23 = .ok (.iastore, 1) := by decide +kernel
theorem dX9_ministry_24 : decode cX9_ministry 24 = .ok (.iinc 1 1, 3) := by decide +kernel
theorem dX9_ministry_27 : decode cX9_ministry 27 = .ok (.goto (-16), 3) := by decide +kernel
theorem dX9_ministry_30 : decode cX9_ministry 30 = .ok (.aload_n 0, 1) := by decide +kernel
theorem dX9_ministry_31 : decode cX9_ministry 31 = .ok (.aload_n 0, 1) := by decide +kernel
theorem dX9_ministry_32 : decode cX9_ministry 32 = .ok (.bipush 109, 2) := by decide +kernel
theorem dX9_ministry_34 : decode cX9_ministry 34 = .ok (.invokevirtual 132, 3) := by decide +kernel
theorem dX9_ministry_37 : decode cX9_ministry 37 = .ok (.invokevirtual 112, 3) := by decide +kernel
theorem dX9_ministry_40 : decode cX9_ministry 40 = .ok (.aload_n 0, 1) := by decide +kernel
theorem dX9_ministry_41 : decode cX9_ministry 41 = .ok (.getfield 22, 3) := by decide +kernel
theorem dX9_ministry_44 : decode cX9_ministry 44 = .ok (.iconst 0, 1) := by decide +kernel
theorem dX9_ministry_45 : decode cX9_ministry 45 = .ok (.aload_n 0, 1) := by decide +kernel
theorem dX9_ministry_46 : decode cX9_ministry 46 = .ok (.iconst 1, 1) := by decide +kernel
theorem dX9_ministry_47 : decode cX9_ministry 47 = .ok (.iconst 4, 1) := by decide +kernel
theorem dX9_ministry_48 : decode cX9_ministry 48 = .ok (.invokevirtual 122, 3) := by decide +kernel
theorem dX9_ministry_51 : decode cX9_ministry 51 = .ok (.iastore, 1) := by decide +kernel
theorem dX9_ministry_52 : decode cX9_ministry 52 = .ok (.aload_n 0, 1) := by decide +kernel
theorem dX9_ministry_53 : decode cX9_ministry 53 = .ok (.bipush 44, 2) := by decide +kernel
theorem dX9_ministry_55 : decode cX9_ministry 55 = .ok (.invokevirtual 126, 3) := by decide +kernel
theorem dX9_ministry_58 : decode cX9_ministry 58 = .ok (.aload_n 0, 1) := by decide +kernel
theorem dX9_ministry_59 : decode cX9_ministry 59 = .ok (.getfield 22, 3) := by decide +kernel
theorem dX9_ministry_62 : decode cX9_ministry 62 = .ok (.iconst 1, 1) := by decide +kernel
theorem dX9_ministry_63 : decode cX9_ministry 63 = .ok (.aload_n 0, 1) := by decide +kernel
theorem dX9_ministry_64 : decode cX9_ministry 64 = .ok (.iconst 1, 1) := by decide +kernel
theorem dX9_ministry_65 : decode cX9_ministry 65 = .ok (.bipush 9, 2) := by decide +kernel
theorem dX9_ministry_67 : decode cX9_ministry 67 = .ok (.invokevirtual 122, 3) := by decide +kernel
theorem dX9_ministry_70 : decode cX9_ministry 70 = .ok (.iastore, 1) := by decide +kernel
theorem dX9_ministry_71 : decode cX9_ministry 71 = .ok (.aload_n 0, 1) := by decide +kernel
theorem dX9_ministry_72 : decode cX9_ministry 72 = .ok (.bipush 59, 2) := by decide +kernel
theorem dX9_ministry_74 : decode cX9_ministry 74 = .ok (.invokevirtual 126, 3) := by decide +kernel
theorem dX9_ministry_77 : decode cX9_ministry 77 = .ok (.aload_n 0, 1) := by decide +kernel
theorem dX9_ministry_78 : decode cX9_ministry 78 = .ok (.invokevirtual 135, 3) := by decide +kernel
theorem dX9_ministry_81 : decode cX9_ministry 81 = .ok (.ifCond .ne 8, 3) := by decide +kernel
theorem dX9_ministry_84 : decode cX9_ministry 84 = .ok (.aload_n 0, 1) := by decide +kernel
theorem dX9_ministry_85 : decode cX9_ministry 85 = .ok (.iconst 1, 1) := by decide +kernel
theorem dX9_ministry_86 : decode cX9_ministry 86 = .ok (.invokevirtual 105, 3) := by decide +kernel
theorem dX9_ministry_89 : decode cX9_ministry 89 = .ok (.aload_n 0, 1) := by decide +kernel
theorem dX9_ministry_90 : decode cX9_ministry 90 = .ok (.invokevirtual 135, 3) := by decide +kernel
theorem dX9_ministry_93 : decode cX9_ministry 93 = .ok (.ifCond .eq 10, 3) := by decide +kernel
theorem dX9_ministry_96 : decode cX9_ministry 96 = .ok (.aload_n 0, 1) := by decide +kernel
theorem dX9_ministry_97 : decode cX9_ministry 97 = .ok (.invokevirtual 139, 3) := by decide +kernel
theorem dX9_ministry_100 : decode cX9_ministry 100 = .ok (.goto (-11), 3) := by decide +kernel
theorem dX9_ministry_103 : decode cX9_ministry 103 = .ok (.aload_n 0, 1) := by decide +kernel
theorem dX9_ministry_104 : decode cX9_ministry 104 = .ok (.invokevirtual 142, 3) := by decide +kernel
theorem dX9_ministry_107 : decode cX9_ministry 107 = .ok (.ifCond .eq 11, 3) := by decide +kernel
theorem dX9_ministry_110 : decode cX9_ministry 110 = .ok (.ldc 145, 2) := by decide +kernel
theorem dX9_ministry_112 : decode cX9_ministry 112 = .ok (.aload_n 0, 1) := by decide +kernel
theorem dX9_ministry_113 : decode cX9_ministry 113 = .ok (.getfield 84, 3) := by decide +kernel
theorem dX9_ministry_116 : decode cX9_ministry 116 = .ok (.isub, 1) := by decide +kernel
theorem dX9_ministry_117 : decode cX9_ministry 117 = .ok (.ireturn, 1) := by decide +kernel
theorem dX9_ministry_118 : decode cX9_ministry 118 = .ok (.aload_n 0, 1) := by decide +kernel
theorem dX9_ministry_119 : decode cX9_ministry 119 = .ok (.iconst 0, 1) := by decide +kernel
theorem dX9_ministry_120 : decode cX9_ministry 120 = .ok (.putfield 146, 3) := by decide +kernel
theorem dX9_ministry_123 : decode cX9_ministry 123 = .ok (.iconst 0, 1) := by decide +kernel
theorem dX9_ministry_124 : decode cX9_ministry 124 = .ok (.istore_n 1, 1) := by decide +kernel
theorem dX9_ministry_125 : decode cX9_ministry 125 = .ok (.iload_n 1, 1) := by decide +kernel
theorem dX9_ministry_126 : decode cX9_ministry 126 = .ok (.bipush 39, 2) := by decide +kernel
theorem dX9_ministry_128 : decode cX9_ministry 128 = .ok (.if_icmp .ge 21, 3) := by decide +kernel
theorem dX9_ministry_131 : decode cX9_ministry 131 = .ok (.aload_n 0, 1) := by decide +kernel
theorem dX9_ministry_132 : decode cX9_ministry 132 = .ok (.getfield 19, 3) := by decide +kernel
theorem dX9_ministry_135 : decode cX9_ministry 135 = .ok (.iload_n 1, 1) := by decide +kernel
theorem dX9_ministry_136 : decode cX9_ministry 136 = .ok (.aload_n 0, 1) := by decide +kernel
theorem dX9_ministry_137 : decode cX9_ministry 137 = .ok (.getfield 22, 3) := by decide +kernel
theorem dX9_ministry_140 : decode cX9_ministry 140 = .ok (.iload_n 1, 1) := by decide +kernel
theorem dX9_ministry_141 : decode cX9_ministry 141 = .ok (.iaload, 1) := by decide +kernel
theorem dX9_ministry_142 : decode cX9_ministry 142 = .ok (.iastore, 1) := by decide +kernel
theorem dX9_ministry_143 : decode cX9_ministry 143 = .ok (.iinc 1 1, 3) := by decide +kernel
theorem dX9_ministry_146 : decode cX9_ministry 146 = .ok (.goto (-21), 3) := by decide +kernel
theorem dX9_ministry_149 : decode cX9_ministry 149 = .ok (.aload_n 0, 1) := by decide +kernel
theorem dX9_ministry_150 : decode cX9_ministry 150 = .ok (.getfield 19, 3) := by decide +kernel
theorem dX9_ministry_153 : decode cX9_ministry 153 = .ok (.iconst 2, 1) := by decide +kernel
theorem dX9_ministry_154 : decode cX9_ministry 154 = .ok (.iaload, 1) := by decide +kernel
theorem dX9_ministry_155 : decode cX9_ministry 155 = .ok (.ireturn, 1) := by decide +kernel
theorem dX9_isThere_0 : decode cX9_isThere 0 = .ok (.aload_n 0, 1) := by decide +kernel
theorem dX9_isThere_1 : decode cX9_isThere 1 = .ok (.getfield 19, 3) := by decide +kernel
theorem dX9_isThere_4 : decode cX9_isThere 4 = .ok (.iconst 0, 1) := by decide +kernel
theorem dX9_isThere_5 : decode cX9_isThere 5 = .ok (.iaload, 1) := by decide +kernel
theorem dX9_isThere_6 : decode cX9_isThere 6 = .ok (.ifCond .le 7, 3) := by decide +kernel
theorem dX9_isThere_9 : decode cX9_isThere 9 = .ok (.iconst 1, 1) := by decide +kernel
theorem dX9_isThere_10 : decode cX9_isThere 10 = .ok (.goto 4, 3) := by decide +kernel
theorem dX9_isThere_13 : decode cX9_isThere 13 = .ok (.iconst 0, 1) := by decide +kernel
theorem dX9_isThere_14 : decode cX9_isThere 14 = .ok (.ireturn, 1) := by decide +kernel
set_option maxRecDepth 20000 in
theorem ggX9_isPerson_X9_in : GoodIn wsX9_isPerson wsX9_in := goodIn_r _ [5] (by decide +kernel) (by decide +kernel)
set_option maxRecDepth 20000 in
theorem gX9_isPerson_X9_in : GoodIn wsX9_isPerson (va_wsS RX9 57 yX9_in wsX9_in) := goodIn_app (goodIn_of _ (by decide +kernel)) ggX9_isPerson_X9_in
theorem dX9_isPerson_0 : decode cX9_isPerson 0 = .ok (.iload_n 1, 1) := by decide +kernel
theorem dX9_isPerson_1 : decode cX9_isPerson 1 = .ok (.i2l, 1) := by decide +kernel
theorem dX9_isPerson_2 : decode cX9_isPerson 2 = .ok (.lconst 0, 1) := by decide +kernel
theorem dX9_isPerson_3 : decode cX9_isPerson 3 = .ok (.aload_n 0, 1) := by decide +kernel
theorem dX9_isPerson_4 : decode cX9_isPerson 4 = .ok (.getfield 19, 3) := by decide +kernel
theorem dX9_isPerson_7 : decode cX9_isPerson 7 = .ok (.iconst 2, 1) := by decide +kernel
theorem dX9_isPerson_8 : decode cX9_isPerson 8 = .ok (.iaload, 1) := by decide +kernel
theorem dX9_isPerson_9 : decode cX9_isPerson 9 = .ok (.iconst 1, 1) := by decide +kernel
theorem dX9_isPerson_10 : decode cX9_isPerson 10 = .ok (.isub, 1) := by decide +kernel
theorem dX9_isPerson_11 : decode cX9_isPerson 11 = .ok (.i2l, 1) := by decide +kernel
theorem dX9_isPerson_12 : decode cX9_isPerson 12 = .ok (.invokestatic 57, 3) := by decide +kernel
theorem dX9_isPerson_15 : decode cX9_isPerson 15 = .ok (.ireturn, 1) := by decide +kernel
set_option maxRecDepth 20000 in
theorem ggX9_isDoor_X9_in : GoodIn wsX9_isDoor wsX9_in := goodIn_r _ [5] (by decide +kernel) (by decide +kernel)
set_option maxRecDepth 20000 in
theorem gX9_isDoor_X9_in : GoodIn wsX9_isDoor (va_wsS RX9 57 yX9_in wsX9_in) := goodIn_app (goodIn_of _ (by decide +kernel)) ggX9_isDoor_X9_in
theorem dX9_isDoor_0 : decode cX9_isDoor 0 = .ok (.iload_n 1, 1) := by decide +kernel
theorem dX9_isDoor_1 : decode cX9_isDoor 1 = .ok (.i2l, 1) := by decide +kernel
theorem dX9_isDoor_2 : decode cX9_isDoor 2 = .ok (.lconst 0, 1) := by decide +kernel
theorem dX9_isDoor_3 : decode cX9_isDoor 3 = .ok (.aload_n 0, 1) := by decide +kernel
theorem dX9_isDoor_4 : decode cX9_isDoor 4 = .ok (.getfield 19, 3) := by decide +kernel
theorem dX9_isDoor_7 : decode cX9_isDoor 7 = .ok (.iconst 0, 1) := by decide +kernel
theorem dX9_isDoor_8 : decode cX9_isDoor 8 = .ok (.iaload, 1) := by decide +kernel
theorem dX9_isDoor_9 : decode cX9_isDoor 9 = .ok (.iconst 1, 1) := by decide +kernel
theorem dX9_isDoor_10 : decode cX9_isDoor 10 = .ok (.isub, 1) := by decide +kernel
theorem dX9_isDoor_11 : decode cX9_isDoor 11 = .ok (.i2l, 1) := by decide +kernel
theorem dX9_isDoor_12 : decode cX9_isDoor 12 = .ok (.invokestatic 57, 3) := by decide +kernel
theorem dX9_isDoor_15 : decode cX9_isDoor 15 = .ok (.ireturn, 1) := by decide +kernel
theorem dX9_of_0 : decode cX9_of 0 = .ok (.aload_n 0, 1) := by decide +kernel
theorem dX9_of_1 : decode cX9_of 1 = .ok (.iconst 4, 1) := by decide +kernel
theorem dX9_of_2 : decode cX9_of 2 = .ok (.iconst 5, 1) := by decide +kernel
theorem dX9_of_3 : decode cX9_of 3 = .ok (.iload_n 1, 1) := by decide +kernel
theorem dX9_of_4 : decode cX9_of 4 = .ok (.imul, 1) := by decide +kernel
theorem dX9_of_5 : decode cX9_of 5 = .ok (.iadd, 1) := by decide +kernel
theorem dX9_of_6 : decode cX9_of 6 = .ok (.iload_n 2, 1) := by decide +kernel
theorem dX9_of_7 : decode cX9_of 7 = .ok (.iadd, 1) := by decide +kernel
theorem dX9_of_8 : decode cX9_of 8 = .ok (.iaload, 1) := by decide +kernel
theorem dX9_of_9 : decode cX9_of 9 = .ok (.ireturn, 1) := by decide +kernel
set_option maxRecDepth 20000 in
theorem ggX9_waits_X9_of : GoodIn wsX9_waits wsX9_of := goodIn_r _ [4] (by decide +kernel) (by decide +kernel)
set_option maxRecDepth 20000 in
theorem gX9_waits_X9_of : GoodIn wsX9_waits (va_wsS RX9 149 yX9_of wsX9_of) := goodIn_app (goodIn_of _ (by decide +kernel)) ggX9_waits_X9_of
theorem dX9_waits_0 : decode cX9_waits 0 = .ok (.aload_n 0, 1) := by decide +kernel
theorem dX9_waits_1 : decode cX9_waits 1 = .ok (.iload_n 1, 1) := by decide +kernel
theorem dX9_waits_2 : decode cX9_waits 2 = .ok (.iconst 3, 1) := by decide +kernel
theorem dX9_waits_3 : decode cX9_waits 3 = .ok (.invokestatic 149, 3) := by decide +kernel
theorem dX9_waits_6 : decode cX9_waits 6 = .ok (.iload_n 2, 1) := by decide +kernel
theorem dX9_waits_7 : decode cX9_waits 7 = .ok (.if_icmp .ne 7, 3) := by decide +kernel
theorem dX9_waits_10 : decode cX9_waits 10 = .ok (.iconst 1, 1) := by decide +kernel
theorem dX9_waits_11 : decode cX9_waits 11 = .ok (.goto 4, 3) := by decide +kernel
theorem dX9_waits_14 : decode cX9_waits 14 = .ok (.iconst 0, 1) := by decide +kernel
theorem dX9_waits_15 : decode cX9_waits 15 = .ok (.ireturn, 1) := by decide +kernel
set_option maxRecDepth 20000 in
theorem ggX9_yields_X9_of : GoodIn wsX9_yields wsX9_of := goodIn_r _ [4] (by decide +kernel) (by decide +kernel)
set_option maxRecDepth 20000 in
theorem gX9_yields_X9_of : GoodIn wsX9_yields (va_wsS RX9 149 yX9_of wsX9_of) := goodIn_app (goodIn_of _ (by decide +kernel)) ggX9_yields_X9_of
theorem dX9_yields_0 : decode cX9_yields 0 = .ok (.aload_n 0, 1) := by decide +kernel
theorem dX9_yields_1 : decode cX9_yields 1 = .ok (.iload_n 1, 1) := by decide +kernel
theorem dX9_yields_2 : decode cX9_yields 2 = .ok (.iconst 0, 1) := by decide +kernel
theorem dX9_yields_3 : decode cX9_yields 3 = .ok (.invokestatic 149, 3) := by decide +kernel
theorem dX9_yields_6 : decode cX9_yields 6 = .ok (.tableswitch 76 1 4 #[30, 51, 72, 74], 30) := by decide +kernel
theorem dX9_yields_36 : decode cX9_yields 36 = .ok (.aload_n 0, 1) := by decide +kernel
theorem dX9_yields_37 : decode cX9_yields 37 = .ok (.iload_n 2, 1) := by decide +kernel
theorem dX9_yields_38 : decode cX9_yields 38 = .ok (.iconst 1, 1) := by decide +kernel
theorem dX9_yields_39 : decode cX9_yields 39 = .ok (.invokestatic 149, 3) := by decide +kernel
theorem dX9_yields_42 : decode cX9_yields 42 = .ok (.aload_n 0, 1) := by decide +kernel
theorem dX9_yields_43 : decode cX9_yields 43 = .ok (.iload_n 1, 1) := by decide +kernel
theorem dX9_yields_44 : decode cX9_yields 44 = .ok (.iconst 1, 1) := by decide +kernel
theorem dX9_yields_45 : decode cX9_yields 45 = .ok (.invokestatic 149, 3) := by decide +kernel
theorem dX9_yields_48 : decode cX9_yields 48 = .ok (.if_icmp .le 7, 3) := by decide +kernel
theorem dX9_yields_51 : decode cX9_yields 51 = .ok (.iconst 1, 1) := by decide +kernel
theorem dX9_yields_52 : decode cX9_yields 52 = .ok (.goto 4, 3) := by decide +kernel
theorem dX9_yields_55 : decode cX9_yields 55 = .ok (.iconst 0, 1) := by decide +kernel
theorem dX9_yields_56 : decode cX9_yields 56 = .ok (.ireturn, 1) := by decide +kernel
theorem dX9_yields_57 : decode cX9_yields 57 = .ok (.aload_n 0, 1) := by decide +kernel
theorem dX9_yields_58 : decode cX9_yields 58 = .ok (.iload_n 2, 1) := by decide +kernel
theorem dX9_yields_59 : decode cX9_yields 59 = .ok (.iconst 1, 1) := by decide +kernel
theorem dX9_yields_60 : decode cX9_yields 60 = .ok (.invokestatic 149, 3) := by decide +kernel
theorem dX9_yields_63 : decode cX9_yields 63 = .ok (.aload_n 0, 1) := by decide +kernel
theorem dX9_yields_64 : decode cX9_yields 64 = .ok (.iload_n 1, 1) := by decide +kernel
theorem dX9_yields_65 : decode cX9_yields 65 = .ok (.iconst 1, 1) := by decide +kernel
theorem dX9_yields_66 : decode cX9_yields 66 = .ok (.invokestatic 149, 3) := by decide +kernel
theorem dX9_yields_69 : decode cX9_yields 69 = .ok (.if_icmp .lt 7, 3) := by decide +kernel
theorem dX9_yields_72 : decode cX9_yields 72 = .ok (.iconst 1, 1) := by decide +kernel
theorem dX9_yields_73 : decode cX9_yields 73 = .ok (.goto 4, 3) := by decide +kernel
theorem dX9_yields_76 : decode cX9_yields 76 = .ok (.iconst 0, 1) := by decide +kernel
theorem dX9_yields_77 : decode cX9_yields 77 = .ok (.ireturn, 1) := by decide +kernel
theorem dX9_yields_78 : decode cX9_yields 78 = .ok (.iconst 1, 1) := by decide +kernel
theorem dX9_yields_79 : decode cX9_yields 79 = .ok (.ireturn, 1) := by decide +kernel
theorem dX9_yields_80 : decode cX9_yields 80 = .ok (.iconst 0, 1) := by decide +kernel
theorem dX9_yields_81 : decode cX9_yields 81 = .ok (.ireturn, 1) := by decide +kernel
theorem dX9_yields_82 : decode cX9_yields 82 = .ok (.aload_n 0, 1) := by decide +kernel
theorem dX9_yields_83 : decode cX9_yields 83 = .ok (.iload_n 2, 1) := by decide +kernel
theorem dX9_yields_84 : decode cX9_yields 84 = .ok (.iconst 2, 1) := by decide +kernel
theorem dX9_yields_85 : decode cX9_yields 85 = .ok (.invokestatic 149, 3) := by decide +kernel
theorem dX9_yields_88 : decode cX9_yields 88 = .ok (.aload_n 0, 1) := by decide +kernel
theorem dX9_yields_89 : decode cX9_yields 89 = .ok (.iload_n 1, 1) := by decide +kernel
theorem dX9_yields_90 : decode cX9_yields 90 = .ok (.iconst 2, 1) := by decide +kernel
theorem dX9_yields_91 : decode cX9_yields 91 = .ok (.invokestatic 149, 3) := by decide +kernel
theorem dX9_yields_94 : decode cX9_yields 94 = .ok (.if_icmp .le 7, 3) := by decide +kernel
theorem dX9_yields_97 : decode cX9_yields 97 = .ok (.iconst 1, 1) := by decide +kernel
theorem dX9_yields_98 : decode cX9_yields 98 = .ok (.goto 4, 3) := by decide +kernel
theorem dX9_yields_101 : decode cX9_yields 101 = .ok (.iconst 0, 1) := by decide +kernel
theorem dX9_yields_102 : decode cX9_yields 102 = .ok (.ireturn, 1) := by decide +kernel
set_option maxRecDepth 20000 in
theorem ggX9_yieldsTo_X9_of : GoodIn wsX9_yieldsTo wsX9_of := goodIn_r _ [4] (by decide +kernel) (by decide +kernel)
set_option maxRecDepth 20000 in
theorem gX9_yieldsTo_X9_of : GoodIn wsX9_yieldsTo (va_wsS RX9 149 yX9_of wsX9_of) := goodIn_app (goodIn_of _ (by decide +kernel)) ggX9_yieldsTo_X9_of
set_option maxRecDepth 20000 in
theorem ggX9_yieldsTo_X9_waits : GoodIn wsX9_yieldsTo wsX9_waits := goodIn_r _ [7, 1, 2, 3, 4] (by decide +kernel) (by decide +kernel)
set_option maxRecDepth 20000 in
theorem gX9_yieldsTo_X9_waits : GoodIn wsX9_yieldsTo (va_wsS RX9 153 yX9_waits wsX9_waits) := goodIn_app (goodIn_of _ (by decide +kernel)) ggX9_yieldsTo_X9_waits
set_option maxRecDepth 20000 in
theorem ggX9_yieldsTo_X9_yields : GoodIn wsX9_yieldsTo wsX9_yields := goodIn_r _ [10, 1, 2, 3, 4] (by decide +kernel) (by decide +kernel)
set_option maxRecDepth 20000 in
theorem gX9_yieldsTo_X9_yields : GoodIn wsX9_yieldsTo (va_wsS RX9 157 yX9_yields wsX9_yields) := goodIn_app (goodIn_of _ (by decide +kernel)) ggX9_yieldsTo_X9_yields
theorem dX9_yieldsTo_0 : decode cX9_yieldsTo 0 = .ok (.iconst 0, 1) := by decide +kernel
theorem dX9_yieldsTo_1 : decode cX9_yieldsTo 1 = .ok (.istore_n 2, 1) := by decide +kernel
theorem dX9_yieldsTo_2 : decode cX9_yieldsTo 2 = .ok (.iconst 0, 1) := by decide +kernel
theorem dX9_yieldsTo_3 : decode cX9_yieldsTo 3 = .ok (.istore_n 3, 1) := by decide +kernel
theorem dX9_yieldsTo_4 : decode cX9_yieldsTo 4 = .ok (.iload_n 3, 1) := by decide +kernel
theorem dX9_yieldsTo_5 : decode cX9_yieldsTo 5 = .ok (.aload_n 0, 1) := by decide +kernel
theorem dX9_yieldsTo_6 : decode cX9_yieldsTo 6 = .ok (.iconst 2, 1) := by decide +kernel
theorem dX9_yieldsTo_7 : decode cX9_yieldsTo 7 = .ok (.iaload, 1) := by decide +kernel
theorem dX9_yieldsTo_8 : decode cX9_yieldsTo 8 = .ok (.if_icmp .ge 77, 3) := by decide +kernel
theorem dX9_yieldsTo_11 : decode cX9_yieldsTo 11 = .ok (.iload_n 3, 1) := by decide +kernel
theorem dX9_yieldsTo_12 : decode cX9_yieldsTo 12 = .ok (.iload_n 1, 1) := by decide +kernel
theorem dX9_yieldsTo_13 : decode cX9_yieldsTo 13 = .ok (.if_icmp .eq 39, 3) := by decide +kernel
theorem dX9_yieldsTo_16 : decode cX9_yieldsTo 16 = .ok (.aload_n 0, 1) := by decide +kernel
theorem dX9_yieldsTo_17 : decode cX9_yieldsTo 17 = .ok (.iload_n 1, 1) := by decide +kernel
theorem dX9_yieldsTo_18 : decode cX9_yieldsTo 18 = .ok (.iconst 3, 1) := by decide +kernel
theorem dX9_yieldsTo_19 : decode cX9_yieldsTo 19 = .ok (.invokestatic 149, 3) := by decide +kernel
theorem dX9_yieldsTo_22 : decode cX9_yieldsTo 22 = .ok (.ifCond .lt 30, 3) := by decide +kernel
theorem dX9_yieldsTo_25 : decode cX9_yieldsTo 25 = .ok (.aload_n 0, 1) := by decide +kernel
theorem dX9_yieldsTo_26 : decode cX9_yieldsTo 26 = .ok (.iload_n 3, 1) := by decide +kernel
theorem dX9_yieldsTo_27 : decode cX9_yieldsTo 27 = .ok (.aload_n 0, 1) := by decide +kernel
theorem dX9_yieldsTo_28 : decode cX9_yieldsTo 28 = .ok (.iload_n 1, 1) := by decide +kernel
theorem dX9_yieldsTo_29 : decode cX9_yieldsTo 29 = .ok (.iconst 3, 1) := by decide +kernel
theorem dX9_yieldsTo_30 : decode cX9_yieldsTo 30 = .ok (.invokestatic 149, 3) := by decide +kernel
theorem dX9_yieldsTo_33 : decode cX9_yieldsTo 33 = .ok (.invokestatic 153, 3) := by decide +kernel
theorem dX9_yieldsTo_36 : decode cX9_yieldsTo 36 = .ok (.ifCond .eq 16, 3) := by decide +kernel
theorem dX9_yieldsTo_39 : decode cX9_yieldsTo 39 = .ok (.aload_n 0, 1) := by decide +kernel
theorem dX9_yieldsTo_40 : decode cX9_yieldsTo 40 = .ok (.iload_n 3, 1) := by decide +kernel
theorem dX9_yieldsTo_41 : decode cX9_yieldsTo 41 = .ok (.iconst 4, 1) := by decide +kernel
theorem dX9_yieldsTo_42 : decode cX9_yieldsTo 42 = .ok (.invokestatic 149, 3) := by decide +kernel
theorem dX9_yieldsTo_45 : decode cX9_yieldsTo 45 = .ok (.ifCond .ne 7, 3) := by decide +kernel
theorem dX9_yieldsTo_48 : decode cX9_yieldsTo 48 = .ok (.iconst 1, 1) := by decide +kernel
theorem dX9_yieldsTo_49 : decode cX9_yieldsTo 49 = .ok (.goto 4, 3) := by decide +kernel
theorem dX9_yieldsTo_52 : decode cX9_yieldsTo 52 = .ok (.iconst 0, 1) := by decide +kernel
theorem dX9_yieldsTo_53 : decode cX9_yieldsTo 53 = .ok (.istore 4, 2) := by decide +kernel
theorem dX9_yieldsTo_55 : decode cX9_yieldsTo 55 = .ok (.iload_n 2, 1) := by decide +kernel
theorem dX9_yieldsTo_56 : decode cX9_yieldsTo 56 = .ok (.iload 4, 2) := by decide +kernel
theorem dX9_yieldsTo_58 : decode cX9_yieldsTo 58 = .ok (.ifCond .eq 18, 3) := by decide +kernel
theorem dX9_yieldsTo_61 : decode cX9_yieldsTo 61 = .ok (.aload_n 0, 1) := by decide +kernel
theorem dX9_yieldsTo_62 : decode cX9_yieldsTo 62 = .ok (.iload_n 1, 1) := by decide +kernel
theorem dX9_yieldsTo_63 : decode cX9_yieldsTo 63 = .ok (.iload_n 3, 1) := by decide +kernel
theorem dX9_yieldsTo_64 : decode cX9_yieldsTo 64 = .ok (.invokestatic 157, 3) := by decide +kernel
theorem dX9_yieldsTo_67 : decode cX9_yieldsTo 67 = .ok (.ifCond .eq 9, 3) := by decide +kernel
theorem dX9_yieldsTo_70 : decode cX9_yieldsTo 70 = .ok (.iconst 1, 1) := by decide +kernel
theorem dX9_yieldsTo_71 : decode cX9_yieldsTo 71 = .ok (.iload_n 3, 1) := by decide +kernel
theorem dX9_yieldsTo_72 : decode cX9_yieldsTo 72 = .ok (.ishl, 1) := by decide +kernel
theorem dX9_yieldsTo_73 : decode cX9_yieldsTo 73 = .ok (.goto 4, 3) := by decide +kernel
theorem dX9_yieldsTo_76 : decode cX9_yieldsTo 76 = .ok (.iconst 0, 1) := by decide +kernel
theorem dX9_yieldsTo_77 : decode cX9_yieldsTo 77 = .ok (.ior, 1) := by decide +kernel
theorem dX9_yieldsTo_78 : decode cX9_yieldsTo 78 = .ok (.istore_n 2, 1) := by decide +kernel
theorem dX9_yieldsTo_79 : decode cX9_yieldsTo 79 = .ok (.iinc 3 1, 3) := by decide +kernel
theorem dX9_yieldsTo_82 : decode cX9_yieldsTo 82 = .ok (.goto (-78), 3) := by decide +kernel
theorem dX9_yieldsTo_85 : decode cX9_yieldsTo 85 = .ok (.iload_n 2, 1) := by decide +kernel
theorem dX9_yieldsTo_86 : decode cX9_yieldsTo 86 = .ok (.ireturn, 1) := by decide +kernel
set_option maxRecDepth 20000 in
theorem ggX9_may_X9_of : GoodIn wsX9_may wsX9_of := goodIn_r _ [4] (by decide +kernel) (by decide +kernel)
set_option maxRecDepth 20000 in
theorem gX9_may_X9_of : GoodIn wsX9_may (va_wsS RX9 149 yX9_of wsX9_of) := goodIn_app (goodIn_of _ (by decide +kernel)) ggX9_may_X9_of
set_option maxRecDepth 20000 in
theorem ggX9_may_X9_yieldsTo : GoodIn wsX9_may wsX9_yieldsTo := goodIn_r _ [7, 1, 2, 3, 4, 8, 9, 10, 11, 12, 13] (by decide +kernel) (by decide +kernel)
set_option maxRecDepth 20000 in
theorem gX9_may_X9_yieldsTo : GoodIn wsX9_may (va_wsS RX9 160 yX9_yieldsTo wsX9_yieldsTo) := goodIn_app (goodIn_of _ (by decide +kernel)) ggX9_may_X9_yieldsTo
theorem dX9_may_0 : decode cX9_may 0 = .ok (.aload_n 0, 1) := by decide +kernel
theorem dX9_may_1 : decode cX9_may 1 = .ok (.iload_n 1, 1) := by decide +kernel
theorem dX9_may_2 : decode cX9_may 2 = .ok (.iconst 3, 1) := by decide +kernel
theorem dX9_may_3 : decode cX9_may 3 = .ok (.invokestatic 149, 3) := by decide +kernel
theorem dX9_may_6 : decode cX9_may 6 = .ok (.ifCond .lt 24, 3) := by decide +kernel
theorem dX9_may_9 : decode cX9_may 9 = .ok (.aload_n 0, 1) := by decide +kernel
theorem dX9_may_10 : decode cX9_may 10 = .ok (.iload_n 1, 1) := by decide +kernel
theorem dX9_may_11 : decode cX9_may 11 = .ok (.iconst 4, 1) := by decide +kernel
theorem dX9_may_12 : decode cX9_may 12 = .ok (.invokestatic 149, 3) := by decide +kernel
theorem dX9_may_15 : decode cX9_may 15 = .ok (.ifCond .gt 11, 3) := by decide +kernel
theorem dX9_may_18 : decode cX9_may 18 = .ok (.aload_n 0, 1) := by decide +kernel
theorem dX9_may_19 : decode cX9_may 19 = .ok (.iload_n 1, 1) := by decide +kernel
theorem dX9_may_20 : decode cX9_may 20 = .ok (.invokestatic 160, 3) := by decide +kernel
theorem dX9_may_23 : decode cX9_may 23 = .ok (.ifCond .ne 7, 3) := by decide +kernel
theorem dX9_may_26 : decode cX9_may 26 = .ok (.iconst 1, 1) := by decide +kernel
theorem dX9_may_27 : decode cX9_may 27 = .ok (.goto 4, 3) := by decide +kernel
theorem dX9_may_30 : decode cX9_may 30 = .ok (.iconst 0, 1) := by decide +kernel
theorem dX9_may_31 : decode cX9_may 31 = .ok (.ireturn, 1) := by decide +kernel
set_option maxRecDepth 20000 in
theorem ggX9_goesAt_X9_waits : GoodIn wsX9_goesAt wsX9_waits := goodIn_r _ [5, 6, 7, 4, 8] (by decide +kernel) (by decide +kernel)
set_option maxRecDepth 20000 in
theorem gX9_goesAt_X9_waits : GoodIn wsX9_goesAt (va_wsS RX9 153 yX9_waits wsX9_waits) := goodIn_app (goodIn_of _ (by decide +kernel)) ggX9_goesAt_X9_waits
set_option maxRecDepth 20000 in
theorem ggX9_goesAt_X9_may : GoodIn wsX9_goesAt wsX9_may := goodIn_r _ [11, 6, 7, 4, 8, 12, 13, 14, 2, 3, 5, 15, 16, 17] (by decide +kernel) (by decide +kernel)
set_option maxRecDepth 20000 in
theorem gX9_goesAt_X9_may : GoodIn wsX9_goesAt (va_wsS RX9 164 yX9_may wsX9_may) := goodIn_app (goodIn_of _ (by decide +kernel)) ggX9_goesAt_X9_may
theorem dX9_goesAt_0 : decode cX9_goesAt 0 = .ok (.ldc 90, 2) := by decide +kernel
theorem dX9_goesAt_2 : decode cX9_goesAt 2 = .ok (.istore_n 2, 1) := by decide +kernel
theorem dX9_goesAt_3 : decode cX9_goesAt 3 = .ok (.aload_n 0, 1) := by decide +kernel
theorem dX9_goesAt_4 : decode cX9_goesAt 4 = .ok (.iconst 2, 1) := by decide +kernel
theorem dX9_goesAt_5 : decode cX9_goesAt 5 = .ok (.iaload, 1) := by decide +kernel
theorem dX9_goesAt_6 : decode cX9_goesAt 6 = .ok (.iconst 1, 1) := by decide +kernel
theorem dX9_goesAt_7 : decode cX9_goesAt 7 = .ok (.isub, 1) := by decide +kernel
theorem dX9_goesAt_8 : decode cX9_goesAt 8 = .ok (.istore_n 3, 1) := by decide +kernel
theorem dX9_goesAt_9 : decode cX9_goesAt 9 = .ok (.iload_n 3, 1) := by decide +kernel
theorem dX9_goesAt_10 : decode cX9_goesAt 10 = .ok (.ifCond .lt 32, 3) := by decide +kernel
theorem dX9_goesAt_13 : decode cX9_goesAt 13 = .ok (.aload_n 0, 1) := by decide +kernel
theorem dX9_goesAt_14 : decode cX9_goesAt 14 = .ok (.iload_n 3, 1) := by decide +kernel
theorem dX9_goesAt_15 : decode cX9_goesAt 15 = .ok (.iload_n 1, 1) := by decide +kernel
theorem dX9_goesAt_16 : decode cX9_goesAt 16 = .ok (.invokestatic 153, 3) := by decide +kernel
theorem dX9_goesAt_19 : decode cX9_goesAt 19 = .ok (.ifCond .eq 15, 3) := by decide +kernel
theorem dX9_goesAt_22 : decode cX9_goesAt 22 = .ok (.aload_n 0, 1) := by decide +kernel
theorem dX9_goesAt_23 : decode cX9_goesAt 23 = .ok (.iload_n 3, 1) := by decide +kernel
theorem dX9_goesAt_24 : decode cX9_goesAt 24 = .ok (.invokestatic 164, 3) := by decide +kernel
theorem dX9_goesAt_27 : decode cX9_goesAt 27 = .ok (.ifCond .eq 7, 3) := by decide +kernel
theorem dX9_goesAt_30 : decode cX9_goesAt 30 = .ok (.iload_n 3, 1) := by decide +kernel
theorem dX9_goesAt_31 : decode cX9_goesAt 31 = .ok (.goto 4, 3) := by decide +kernel
theorem dX9_goesAt_34 : decode cX9_goesAt 34 = .ok (.iload_n 2, 1) := by decide +kernel
theorem dX9_goesAt_35 : decode cX9_goesAt 35 = .ok (.istore_n 2, 1) := by decide +kernel
theorem dX9_goesAt_36 : decode cX9_goesAt 36 = .ok (.iinc 3 (-1), 3) := by decide +kernel
theorem dX9_goesAt_39 : decode cX9_goesAt 39 = .ok (.goto (-30), 3) := by decide +kernel
theorem dX9_goesAt_42 : decode cX9_goesAt 42 = .ok (.iload_n 2, 1) := by decide +kernel
theorem dX9_goesAt_43 : decode cX9_goesAt 43 = .ok (.ireturn, 1) := by decide +kernel
set_option maxRecDepth 20000 in
theorem ggX9_step_X9_goesAt : GoodIn wsX9_step wsX9_goesAt := goodIn_r _ [6, 2, 7, 8, 5, 9, 10, 11, 12, 13, 14, 15, 16, 17, 18, 19, 20, 21] (by decide +kernel) (by decide +kernel)
set_option maxRecDepth 20000 in
theorem gX9_step_X9_goesAt : GoodIn wsX9_step (va_wsS RX9 168 yX9_goesAt wsX9_goesAt) := goodIn_app (goodIn_of _ (by decide +kernel)) ggX9_step_X9_goesAt
set_option maxRecDepth 20000 in
theorem ggX9_step_X9_of : GoodIn wsX9_step wsX9_of := goodIn_r _ [12] (by decide +kernel) (by decide +kernel)
set_option maxRecDepth 20000 in
theorem gX9_step_X9_of : GoodIn wsX9_step (va_wsS RX9 149 yX9_of wsX9_of) := goodIn_app (goodIn_of _ (by decide +kernel)) ggX9_step_X9_of
theorem dX9_step_0 : decode cX9_step 0 = .ok (.iconst 0, 1) := by decide +kernel
theorem dX9_step_1 : decode cX9_step 1 = .ok (.istore_n 2, 1) := by decide +kernel
theorem dX9_step_2 : decode cX9_step 2 = .ok (.iconst 0, 1) := by decide +kernel
theorem dX9_step_3 : decode cX9_step 3 = .ok (.istore_n 3, 1) := by decide +kernel
theorem dX9_step_4 : decode cX9_step 4 = .ok (.iload_n 3, 1) := by decide +kernel
theorem dX9_step_5 : decode cX9_step 5 = .ok (.aload_n 1, 1) := by decide +kernel
theorem dX9_step_6 : decode cX9_step 6 = .ok (.iconst 0, 1) := by decide +kernel
theorem dX9_step_7 : decode cX9_step 7 = .ok (.iaload, 1) := by decide +kernel
theorem dX9_step_8 : decode cX9_step 8 = .ok (.if_icmp .ge 20, 3) := by decide +kernel
theorem dX9_step_11 : decode cX9_step 11 = .ok (.aload_n 0, 1) := by decide +kernel
theorem dX9_step_12 : decode cX9_step 12 = .ok (.getfield 34, 3) := by decide +kernel
theorem dX9_step_15 : decode cX9_step 15 = .ok (.iload_n 3, 1) := by decide +kernel
theorem dX9_step_16 : decode cX9_step 16 = .ok (.aload_n 1, 1) := by decide +kernel
theorem dX9_step_17 : decode cX9_step 17 = .ok (.iload_n 3, 1) := by decide +kernel
theorem dX9_step_18 : decode cX9_step 18 = .ok (.invokestatic 168, 3) := by decide +kernel
theorem dX9_step_21 : decode cX9_step 21 = .ok (.iastore, 1) := by decide +kernel
theorem dX9_step_22 : decode cX9_step 22 = .ok (.iinc 3 1, 3) := by decide +kernel
theorem dX9_step_25 : decode cX9_step 25 = .ok (.goto (-21), 3) := by decide +kernel
theorem dX9_step_28 : decode cX9_step 28 = .ok (.iconst 0, 1) := by decide +kernel
theorem dX9_step_29 : decode cX9_step 29 = .ok (.istore_n 3, 1) := by decide +kernel
theorem dX9_step_30 : decode cX9_step 30 = .ok (.iload_n 3, 1) := by decide +kernel
theorem dX9_step_31 : decode cX9_step 31 = .ok (.aload_n 1, 1) := by decide +kernel
theorem dX9_step_32 : decode cX9_step 32 = .ok (.iconst 0, 1) := by decide +kernel
theorem dX9_step_33 : decode cX9_step 33 = .ok (.iaload, 1) := by decide +kernel
theorem dX9_step_34 : decode cX9_step 34 = .ok (.if_icmp .ge 49, 3) := by decide +kernel
theorem dX9_step_37 : decode cX9_step 37 = .ok (.aload_n 0, 1) := by decide +kernel
theorem dX9_step_38 : decode cX9_step 38 = .ok (.getfield 34, 3) := by decide +kernel
theorem dX9_step_41 : decode cX9_step 41 = .ok (.iload_n 3, 1) := by decide +kernel
theorem dX9_step_42 : decode cX9_step 42 = .ok (.iaload, 1) := by decide +kernel
theorem dX9_step_43 : decode cX9_step 43 = .ok (.ldc 90, 2) := by decide +kernel
theorem dX9_step_45 : decode cX9_step 45 = .ok (.if_icmp .eq 32, 3) := by decide +kernel
theorem dX9_step_48 : decode cX9_step 48 = .ok (.iconst 4, 1) := by decide +kernel
theorem dX9_step_49 : decode cX9_step 49 = .ok (.iconst 5, 1) := by decide +kernel
theorem dX9_step_50 : decode cX9_step 50 = .ok (.aload_n 0, 1) := by decide +kernel
theorem dX9_step_51 : decode cX9_step 51 = .ok (.getfield 34, 3) := by decide +kernel
theorem dX9_step_54 : decode cX9_step 54 = .ok (.iload_n 3, 1) := by decide +kernel
theorem dX9_step_55 : decode cX9_step 55 = .ok (.iaload, 1) := by decide +kernel
theorem dX9_step_56 : decode cX9_step 56 = .ok (.imul, 1) := by decide +kernel
theorem dX9_step_57 : decode cX9_step 57 = .ok (.iadd, 1) := by decide +kernel
theorem dX9_step_58 : decode cX9_step 58 = .ok (.istore 4, 2) := by decide +kernel
theorem dX9_step_60 : decode cX9_step 60 = .ok (.aload_n 1, 1) := by decide +kernel
theorem dX9_step_61 : decode cX9_step 61 = .ok (.iload 4, 2) := by decide +kernel
theorem dX9_step_63 : decode cX9_step 63 = .ok (.iconst 3, 1) := by decide +kernel
theorem dX9_step_64 : decode cX9_step 64 = .ok (.iadd, 1) := by decide +kernel
theorem dX9_step_65 : decode cX9_step 65 = .ok (.iconst (-1), 1) := by decide +kernel
theorem dX9_step_66 : decode cX9_step 66 = .ok (.iastore, 1) := by decide +kernel
theorem dX9_step_67 : decode cX9_step 67 = .ok (.aload_n 1, 1) := by decide +kernel
theorem dX9_step_68 : decode cX9_step 68 = .ok (.iload 4, 2) := by decide +kernel
theorem dX9_step_70 : decode cX9_step 70 = .ok (.iconst 4, 1) := by decide +kernel
theorem dX9_step_71 : decode cX9_step 71 = .ok (.iadd, 1) := by decide +kernel
theorem dX9_step_72 : decode cX9_step 72 = .ok (.iconst 0, 1) := by decide +kernel
theorem dX9_step_73 : decode cX9_step 73 = .ok (.iastore, 1) := by decide +kernel
theorem dX9_step_74 : decode cX9_step 74 = .ok (.iinc 2 1, 3) := by decide +kernel
theorem dX9_step_77 : decode cX9_step 77 = .ok (.iinc 3 1, 3) := by decide +kernel
theorem dX9_step_80 : decode cX9_step 80 = .ok (.goto (-50), 3) := by decide +kernel
theorem dX9_step_83 : decode cX9_step 83 = .ok (.iconst 0, 1) := by decide +kernel
theorem dX9_step_84 : decode cX9_step 84 = .ok (.istore_n 3, 1) := by decide +kernel
theorem dX9_step_85 : decode cX9_step 85 = .ok (.iload_n 3, 1) := by decide +kernel
theorem dX9_step_86 : decode cX9_step 86 = .ok (.aload_n 1, 1) := by decide +kernel
theorem dX9_step_87 : decode cX9_step 87 = .ok (.iconst 2, 1) := by decide +kernel
theorem dX9_step_88 : decode cX9_step 88 = .ok (.iaload, 1) := by decide +kernel
theorem dX9_step_89 : decode cX9_step 89 = .ok (.if_icmp .ge 35, 3) := by decide +kernel
theorem dX9_step_92 : decode cX9_step 92 = .ok (.aload_n 1, 1) := by decide +kernel
theorem dX9_step_93 : decode cX9_step 93 = .ok (.iconst 4, 1) := by decide +kernel
theorem dX9_step_94 : decode cX9_step 94 = .ok (.iconst 5, 1) := by decide +kernel
theorem dX9_step_95 : decode cX9_step 95 = .ok (.iload_n 3, 1) := by decide +kernel
theorem dX9_step_96 : decode cX9_step 96 = .ok (.imul, 1) := by decide +kernel
theorem dX9_step_97 : decode cX9_step 97 = .ok (.iadd, 1) := by decide +kernel
theorem dX9_step_98 : decode cX9_step 98 = .ok (.iconst 4, 1) := by decide +kernel
theorem dX9_step_99 : decode cX9_step 99 = .ok (.iadd, 1) := by decide +kernel
theorem dX9_step_100 : decode cX9_step 100 = .ok (.dup2, 1) := by decide +kernel
theorem dX9_step_101 : decode cX9_step 101 = .ok (.iaload, 1) := by decide +kernel
theorem dX9_step_102 : decode cX9_step 102 = .ok (.aload_n 1, 1) := by decide +kernel
theorem dX9_step_103 : decode cX9_step 103 = .ok (.iload_n 3, 1) := by decide +kernel
theorem dX9_step_104 : decode cX9_step 104 = .ok (.iconst 4, 1) := by decide +kernel
theorem dX9_step_105 : decode cX9_step 105 = .ok (.invokestatic 149, 3) := by decide +kernel
theorem dX9_step_108 : decode cX9_step 108 = .ok (.ifCond .le 7, 3) := by decide +kernel
theorem dX9_step_111 : decode cX9_step 111 = .ok (.iconst 1, 1) := by decide +kernel
theorem dX9_step_112 : decode cX9_step 112 = .ok (.goto 4, 3) := by decide +kernel
theorem dX9_step_115 : decode cX9_step 115 = .ok (.iconst 0, 1) := by decide +kernel
theorem dX9_step_116 : decode cX9_step 116 = .ok (.isub, 1) := by decide +kernel
theorem dX9_step_117 : decode cX9_step 117 = .ok (.iastore, 1) := by decide +kernel
theorem dX9_step_118 : decode cX9_step 118 = .ok (.iinc 3 1, 3) := by decide +kernel
theorem dX9_step_121 : decode cX9_step 121 = .ok (.goto (-36), 3) := by decide +kernel
theorem dX9_step_124 : decode cX9_step 124 = .ok (.aload_n 1, 1) := by decide +kernel
theorem dX9_step_125 : decode cX9_step 125 = .ok (.iconst 3, 1) := by decide +kernel
theorem dX9_step_126 : decode cX9_step 126 = .ok (.dup2, 1) := by decide +kernel
theorem dX9_step_127 : decode cX9_step 127 = .ok (.iaload, 1) := by decide +kernel
theorem dX9_step_128 : decode cX9_step 128 = .ok (.iconst 1, 1) := by decide +kernel
theorem dX9_step_129 : decode cX9_step 129 = .ok (.iadd, 1) := by decide +kernel
theorem dX9_step_130 : decode cX9_step 130 = .ok (.iastore, 1) := by decide +kernel
theorem dX9_step_131 : decode cX9_step 131 = .ok (.iload_n 2, 1) := by decide +kernel
theorem dX9_step_132 : decode cX9_step 132 = .ok (.ireturn, 1) := by decide +kernel
set_option maxRecDepth 20000 in
theorem ggX9_stepsOf_X9_step : GoodIn wsX9_stepsOf wsX9_step := goodIn_r _ [5, 6, 7, 8, 9, 4, 10, 11, 12, 13, 14, 15, 16, 17, 18, 19, 20, 21, 22, 23, 24, 25, 26, 27, 28, 29, 30, 31, 32, 33, 34, 35, 36, 37, 38, 39, 40, 41, 42, 43, 44, 45, 46, 47, 48, 49] (by decide +kernel) (by decide +kernel)
set_option maxRecDepth 20000 in
theorem gX9_stepsOf_X9_step : GoodIn wsX9_stepsOf (wsV RX9 171 RX9 yX9_step wsX9_step) := goodIn_app (goodIn_of _ (by decide +kernel)) ggX9_stepsOf_X9_step
theorem dX9_stepsOf_0 : decode cX9_stepsOf 0 = .ok (.iconst 0, 1) := by decide +kernel
theorem dX9_stepsOf_1 : decode cX9_stepsOf 1 = .ok (.istore_n 3, 1) := by decide +kernel
theorem dX9_stepsOf_2 : decode cX9_stepsOf 2 = .ok (.iconst 0, 1) := by decide +kernel
theorem dX9_stepsOf_3 : decode cX9_stepsOf 3 = .ok (.istore 4, 2) := by decide +kernel
theorem dX9_stepsOf_5 : decode cX9_stepsOf 5 = .ok (.iload 4, 2) := by decide +kernel
theorem dX9_stepsOf_7 : decode cX9_stepsOf 7 = .ok (.iload_n 2, 1) := by decide +kernel
theorem dX9_stepsOf_8 : decode cX9_stepsOf 8 = .ok (.if_icmp .ge 17, 3) := by decide +kernel
theorem dX9_stepsOf_11 : decode cX9_stepsOf 11 = .ok (.iload_n 3, 1) := by decide +kernel
theorem dX9_stepsOf_12 : decode cX9_stepsOf 12 = .ok (.aload_n 0, 1) := by decide +kernel
theorem dX9_stepsOf_13 : decode cX9_stepsOf 13 = .ok (.aload_n 1, 1) := by decide +kernel
theorem dX9_stepsOf_14 : decode cX9_stepsOf 14 = .ok (.invokevirtual 171, 3) := by decide +kernel
theorem dX9_stepsOf_17 : decode cX9_stepsOf 17 = .ok (.iadd, 1) := by decide +kernel
theorem dX9_stepsOf_18 : decode cX9_stepsOf 18 = .ok (.istore_n 3, 1) := by decide +kernel
theorem dX9_stepsOf_19 : decode cX9_stepsOf 19 = .ok (.iinc 4 1, 3) := by decide +kernel
theorem dX9_stepsOf_22 : decode cX9_stepsOf 22 = .ok (.goto (-17), 3) := by decide +kernel
theorem dX9_stepsOf_25 : decode cX9_stepsOf 25 = .ok (.iload_n 3, 1) := by decide +kernel
theorem dX9_stepsOf_26 : decode cX9_stepsOf 26 = .ok (.ireturn, 1) := by decide +kernel
set_option maxRecDepth 20000 in
theorem ggX9_waiting_X9_waits : GoodIn wsX9_waiting wsX9_waits := goodIn_r _ [4, 5, 6, 3, 7] (by decide +kernel) (by decide +kernel)
set_option maxRecDepth 20000 in
theorem gX9_waiting_X9_waits : GoodIn wsX9_waiting (va_wsS RX9 153 yX9_waits wsX9_waits) := goodIn_app (goodIn_of _ (by decide +kernel)) ggX9_waiting_X9_waits
theorem dX9_waiting_0 : decode cX9_waiting 0 = .ok (.iconst 0, 1) := by decide +kernel
theorem dX9_waiting_1 : decode cX9_waiting 1 = .ok (.istore_n 2, 1) := by decide +kernel
theorem dX9_waiting_2 : decode cX9_waiting 2 = .ok (.iconst 0, 1) := by decide +kernel
theorem dX9_waiting_3 : decode cX9_waiting 3 = .ok (.istore_n 3, 1) := by decide +kernel
theorem dX9_waiting_4 : decode cX9_waiting 4 = .ok (.iload_n 3, 1) := by decide +kernel
theorem dX9_waiting_5 : decode cX9_waiting 5 = .ok (.aload_n 0, 1) := by decide +kernel
theorem dX9_waiting_6 : decode cX9_waiting 6 = .ok (.iconst 2, 1) := by decide +kernel
theorem dX9_waiting_7 : decode cX9_waiting 7 = .ok (.iaload, 1) := by decide +kernel
theorem dX9_waiting_8 : decode cX9_waiting 8 = .ok (.if_icmp .ge 28, 3) := by decide +kernel
theorem dX9_waiting_11 : decode cX9_waiting 11 = .ok (.iload_n 2, 1) := by decide +kernel
theorem dX9_waiting_12 : decode cX9_waiting 12 = .ok (.aload_n 0, 1) := by decide +kernel
theorem dX9_waiting_13 : decode cX9_waiting 13 = .ok (.iload_n 3, 1) := by decide +kernel
theorem dX9_waiting_14 : decode cX9_waiting 14 = .ok (.iload_n 1, 1) := by decide +kernel
theorem dX9_waiting_15 : decode cX9_waiting 15 = .ok (.invokestatic 153, 3) := by decide +kernel
theorem dX9_waiting_18 : decode cX9_waiting 18 = .ok (.ifCond .eq 9, 3) := by decide +kernel
theorem dX9_waiting_21 : decode cX9_waiting 21 = .ok (.iconst 1, 1) := by decide +kernel
theorem dX9_waiting_22 : decode cX9_waiting 22 = .ok (.iload_n 3, 1) := by decide +kernel
theorem dX9_waiting_23 : decode cX9_waiting 23 = .ok (.ishl, 1) := by decide +kernel
theorem dX9_waiting_24 : decode cX9_waiting 24 = .ok (.goto 4, 3) := by decide +kernel
theorem dX9_waiting_27 : decode cX9_waiting 27 = .ok (.iconst 0, 1) := by decide +kernel
theorem dX9_waiting_28 : decode cX9_waiting 28 = .ok (.ior, 1) := by decide +kernel
theorem dX9_waiting_29 : decode cX9_waiting 29 = .ok (.istore_n 2, 1) := by decide +kernel
theorem dX9_waiting_30 : decode cX9_waiting 30 = .ok (.iinc 3 1, 3) := by decide +kernel
theorem dX9_waiting_33 : decode cX9_waiting 33 = .ok (.goto (-29), 3) := by decide +kernel
theorem dX9_waiting_36 : decode cX9_waiting 36 = .ok (.iload_n 2, 1) := by decide +kernel
theorem dX9_waiting_37 : decode cX9_waiting 37 = .ok (.ireturn, 1) := by decide +kernel
theorem dX9_bits_0 : decode cX9_bits 0 = .ok (.iconst 0, 1) := by decide +kernel
theorem dX9_bits_1 : decode cX9_bits 1 = .ok (.istore_n 1, 1) := by decide +kernel
theorem dX9_bits_2 : decode cX9_bits 2 = .ok (.iconst 0, 1) := by decide +kernel
theorem dX9_bits_3 : decode cX9_bits 3 = .ok (.istore_n 2, 1) := by decide +kernel
theorem dX9_bits_4 : decode cX9_bits 4 = .ok (.iload_n 2, 1) := by decide +kernel
theorem dX9_bits_5 : decode cX9_bits 5 = .ok (.bipush 7, 2) := by decide +kernel
theorem dX9_bits_7 : decode cX9_bits 7 = .ok (.if_icmp .ge 17, 3) := by decide +kernel
theorem dX9_bits_10 : decode cX9_bits 10 = .ok (.iload_n 1, 1) := by decide +kernel
theorem dX9_bits_11 : decode cX9_bits 11 = .ok (.iload_n 0, 1) := by decide +kernel
theorem dX9_bits_12 : decode cX9_bits 12 = .ok (.iload_n 2, 1) := by decide +kernel
theorem dX9_bits_13 : decode cX9_bits 13 = .ok (.ishr, 1) := by decide +kernel
theorem dX9_bits_14 : decode cX9_bits 14 = .ok (.iconst 1, 1) := by decide +kernel
theorem dX9_bits_15 : decode cX9_bits 15 = .ok (.iand, 1) := by decide +kernel
theorem dX9_bits_16 : decode cX9_bits 16 = .ok (.iadd, 1) := by decide +kernel
theorem dX9_bits_17 : decode cX9_bits 17 = .ok (.istore_n 1, 1) := by decide +kernel
theorem dX9_bits_18 : decode cX9_bits 18 = .ok (.iinc 2 1, 3) := by decide +kernel
theorem dX9_bits_21 : decode cX9_bits 21 = .ok (.goto (-17), 3) := by decide +kernel
theorem dX9_bits_24 : decode cX9_bits 24 = .ok (.iload_n 1, 1) := by decide +kernel
theorem dX9_bits_25 : decode cX9_bits 25 = .ok (.ireturn, 1) := by decide +kernel
set_option maxRecDepth 20000 in
theorem ggX9_nobodies_X9_of : GoodIn wsX9_nobodies wsX9_of := goodIn_r _ [4] (by decide +kernel) (by decide +kernel)
set_option maxRecDepth 20000 in
theorem gX9_nobodies_X9_of : GoodIn wsX9_nobodies (va_wsS RX9 149 yX9_of wsX9_of) := goodIn_app (goodIn_of _ (by decide +kernel)) ggX9_nobodies_X9_of
theorem dX9_nobodies_0 : decode cX9_nobodies 0 = .ok (.iconst 0, 1) := by decide +kernel
theorem dX9_nobodies_1 : decode cX9_nobodies 1 = .ok (.istore_n 1, 1) := by decide +kernel
theorem dX9_nobodies_2 : decode cX9_nobodies 2 = .ok (.iconst 0, 1) := by decide +kernel
theorem dX9_nobodies_3 : decode cX9_nobodies 3 = .ok (.istore_n 2, 1) := by decide +kernel
theorem dX9_nobodies_4 : decode cX9_nobodies 4 = .ok (.iload_n 2, 1) := by decide +kernel
theorem dX9_nobodies_5 : decode cX9_nobodies 5 = .ok (.aload_n 0, 1) := by decide +kernel
theorem dX9_nobodies_6 : decode cX9_nobodies 6 = .ok (.iconst 2, 1) := by decide +kernel
theorem dX9_nobodies_7 : decode cX9_nobodies 7 = .ok (.iaload, 1) := by decide +kernel
theorem dX9_nobodies_8 : decode cX9_nobodies 8 = .ok (.if_icmp .ge 28, 3) := by decide +kernel
theorem dX9_nobodies_11 : decode cX9_nobodies 11 = .ok (.iload_n 1, 1) := by decide +kernel
theorem dX9_nobodies_12 : decode cX9_nobodies 12 = .ok (.aload_n 0, 1) := by decide +kernel
theorem dX9_nobodies_13 : decode cX9_nobodies 13 = .ok (.iload_n 2, 1) := by decide +kernel
theorem dX9_nobodies_14 : decode cX9_nobodies 14 = .ok (.iconst 4, 1) := by decide +kernel
theorem dX9_nobodies_15 : decode cX9_nobodies 15 = .ok (.invokestatic 149, 3) := by decide +kernel
theorem dX9_nobodies_18 : decode cX9_nobodies 18 = .ok (.ifCond .le 9, 3) := by decide +kernel
theorem dX9_nobodies_21 : decode cX9_nobodies 21 = .ok (.iconst 1, 1) := by decide +kernel
theorem dX9_nobodies_22 : decode cX9_nobodies 22 = .ok (.iload_n 2, 1) := by decide +kernel
theorem dX9_nobodies_23 : decode cX9_nobodies 23 = .ok (.ishl, 1) := by decide +kernel
theorem dX9_nobodies_24 : decode cX9_nobodies 24 = .ok (.goto 4, 3) := by decide +kernel
theorem dX9_nobodies_27 : decode cX9_nobodies 27 = .ok (.iconst 0, 1) := by decide +kernel
theorem dX9_nobodies_28 : decode cX9_nobodies 28 = .ok (.ior, 1) := by decide +kernel
theorem dX9_nobodies_29 : decode cX9_nobodies 29 = .ok (.istore_n 1, 1) := by decide +kernel
theorem dX9_nobodies_30 : decode cX9_nobodies 30 = .ok (.iinc 2 1, 3) := by decide +kernel
theorem dX9_nobodies_33 : decode cX9_nobodies 33 = .ok (.goto (-29), 3) := by decide +kernel
theorem dX9_nobodies_36 : decode cX9_nobodies 36 = .ok (.iload_n 1, 1) := by decide +kernel
theorem dX9_nobodies_37 : decode cX9_nobodies 37 = .ok (.ireturn, 1) := by decide +kernel
theorem dX9_layThen_0 : decode cX9_layThen 0 = .ok (.iconst 0, 1) := by decide +kernel
theorem dX9_layThen_1 : decode cX9_layThen 1 = .ok (.istore_n 1, 1) := by decide +kernel
theorem dX9_layThen_2 : decode cX9_layThen 2 = .ok (.iload_n 1, 1) := by decide +kernel
theorem dX9_layThen_3 : decode cX9_layThen 3 = .ok (.bipush 39, 2) := by decide +kernel
theorem dX9_layThen_5 : decode cX9_layThen 5 = .ok (.if_icmp .ge 21, 3) := by decide +kernel
theorem dX9_layThen_8 : decode cX9_layThen 8 = .ok (.aload_n 0, 1) := by decide +kernel
theorem dX9_layThen_9 : decode cX9_layThen 9 = .ok (.getfield 25, 3) := by decide +kernel
theorem dX9_layThen_12 : decode cX9_layThen 12 = .ok (.iload_n 1, 1) := by decide +kernel
theorem dX9_layThen_13 : decode cX9_layThen 13 = .ok (.aload_n 0, 1) := by decide +kernel
theorem dX9_layThen_14 : decode cX9_layThen 14 = .ok (.getfield 19, 3) := by decide +kernel
theorem dX9_layThen_17 : decode cX9_layThen 17 = .ok (.iload_n 1, 1) := by decide +kernel
theorem dX9_layThen_18 : decode cX9_layThen 18 = .ok (.iaload, 1) := by decide +kernel
theorem dX9_layThen_19 : decode cX9_layThen 19 = .ok (.iastore, 1) := by decide +kernel
theorem dX9_layThen_20 : decode cX9_layThen 20 = .ok (.iinc 1 1, 3) := by decide +kernel
theorem dX9_layThen_23 : decode cX9_layThen 23 = .ok (.goto (-21), 3) := by decide +kernel
theorem dX9_layThen_26 : decode cX9_layThen 26 = .ok (.return_, 1) := by decide +kernel
set_option maxRecDepth 20000 in
theorem ggX9_leftAt_X9_stepsOf : GoodIn wsX9_leftAt wsX9_stepsOf := goodIn_r _ [6, 7, 8, 9, 5, 10, 11, 12, 13, 14, 15, 16, 17, 18, 19, 20, 21, 22, 23, 24, 25, 26, 27, 28, 29, 30, 37, 38, 39, 40, 41, 42, 43, 44, 45, 46, 47, 48, 49, 50, 51, 52, 53, 54, 55, 56, 57, 58, 59, 60] (by decide +kernel) (by decide +kernel)
set_option maxRecDepth 20000 in
theorem gX9_leftAt_X9_stepsOf : GoodIn wsX9_leftAt (wsV RX9 175 RX9 yX9_stepsOf wsX9_stepsOf) := goodIn_app (goodIn_of _ (by decide +kernel)) ggX9_leftAt_X9_stepsOf
set_option maxRecDepth 20000 in
theorem ggX9_leftAt_X9_waiting : GoodIn wsX9_leftAt wsX9_waiting := goodIn_r _ [33, 16, 17, 5, 18, 19, 20, 21] (by decide +kernel) (by decide +kernel)
set_option maxRecDepth 20000 in
theorem gX9_leftAt_X9_waiting : GoodIn wsX9_leftAt (va_wsS RX9 178 yX9_waiting wsX9_waiting) := goodIn_app (goodIn_of _ (by decide +kernel)) ggX9_leftAt_X9_waiting
set_option maxRecDepth 20000 in
theorem ggX9_leftAt_X9_bits : GoodIn wsX9_leftAt wsX9_bits := goodIn_r _ [36] (by decide +kernel) (by decide +kernel)
set_option maxRecDepth 20000 in
theorem gX9_leftAt_X9_bits : GoodIn wsX9_leftAt (va_wsS RX9 181 yX9_bits wsX9_bits) := goodIn_app (goodIn_of _ (by decide +kernel)) ggX9_leftAt_X9_bits
theorem dX9_leftAt_0 : decode cX9_leftAt 0 = .ok (.aload_n 0, 1) := by decide +kernel
theorem dX9_leftAt_1 : decode cX9_leftAt 1 = .ok (.aload_n 0, 1) := by decide +kernel
theorem dX9_leftAt_2 : decode cX9_leftAt 2 = .ok (.getfield 25, 3) := by decide +kernel
theorem dX9_leftAt_5 : decode cX9_leftAt 5 = .ok (.bipush 60, 2) := by decide +kernel
theorem dX9_leftAt_7 : decode cX9_leftAt 7 = .ok (.invokevirtual 175, 3) := by decide +kernel

theorem dX6_holds_8 : decode cX6_holds 8 = .ok (.iload_n 2, 1) := by decide +kernel
theorem dX6_holds_9 : decode cX6_holds 9 = .ok (.aload_n 0, 1) := by decide +kernel
theorem dX6_holds_10 : decode cX6_holds 10 = .ok (.getfield 19, 3) := by decide +kernel
theorem dX6_holds_13 : decode cX6_holds 13 = .ok (.iload_n 1, 1) := by decide +kernel
theorem dX6_holds_14 : decode cX6_holds 14 = .ok (.isub, 1) := by decide +kernel
theorem dX6_holds_15 : decode cX6_holds 15 = .ok (.if_icmp .gt 7, 3) := by decide +kernel
theorem dX6_holds_18 : decode cX6_holds 18 = .ok (.iconst 1, 1) := by decide +kernel
theorem dX6_holds_19 : decode cX6_holds 19 = .ok (.goto 4, 3) := by decide +kernel
theorem dX6_holds_22 : decode cX6_holds 22 = .ok (.iconst 0, 1) := by decide +kernel
theorem dX6_holds_23 : decode cX6_holds 23 = .ok (.ireturn, 1) := by decide +kernel
theorem dX6_put_0 : decode cX6_put 0 = .ok (.aload_n 0, 1) := by decide +kernel
theorem dX6_put_1 : decode cX6_put 1 = .ok (.getfield 9, 3) := by decide +kernel
theorem dX6_put_4 : decode cX6_put 4 = .ok (.iload_n 1, 1) := by decide +kernel
theorem dX6_put_5 : decode cX6_put 5 = .ok (.aload_n 0, 1) := by decide +kernel
theorem dX6_put_6 : decode cX6_put 6 = .ok (.getfield 15, 3) := by decide +kernel
theorem dX6_put_9 : decode cX6_put 9 = .ok (.ifCond .ne 8, 3) := by decide +kernel
theorem dX6_put_12 : decode cX6_put 12 = .ok (.iload_n 2, 1) := by decide +kernel
theorem dX6_put_13 : decode cX6_put 13 = .ok (.i2b, 1) := by decide +kernel
theorem dX6_put_14 : decode cX6_put 14 = .ok (.goto 17, 3) := by decide +kernel
theorem dX6_put_17 : decode cX6_put 17 = .ok (.aload_n 0, 1) := by decide +kernel
theorem dX6_put_18 : decode cX6_put 18 = .ok (.getfield 15, 3) := by decide +kernel
theorem dX6_put_21 : decode cX6_put 21 = .ok (.iconst 1, 1) := by decide +kernel
theorem dX6_put_22 : decode cX6_put 22 = .ok (.if_icmp .ne 8, 3) := by decide +kernel
theorem dX6_put_25 : decode cX6_put 25 = .ok (.iload_n 2, 1) := by decide +kernel
theorem dX6_put_26 : decode cX6_put 26 = .ok (.i2s, 1) := by decide +kernel
theorem dX6_put_27 : decode cX6_put 27 = .ok (.goto 4, 3) := by decide +kernel
theorem dX6_put_30 : decode cX6_put 30 = .ok (.iload_n 2, 1) := by decide +kernel
theorem dX6_put_31 : decode cX6_put 31 = .ok (.iastore, 1) := by decide +kernel
theorem dX6_put_32 : decode cX6_put 32 = .ok (.aload_n 0, 1) := by decide +kernel
theorem dX6_put_33 : decode cX6_put 33 = .ok (.getfield 9, 3) := by decide +kernel
theorem dX6_put_36 : decode cX6_put 36 = .ok (.iload_n 1, 1) := by decide +kernel
theorem dX6_put_37 : decode cX6_put 37 = .ok (.iaload, 1) := by decide +kernel
theorem dX6_put_38 : decode cX6_put 38 = .ok (.ireturn, 1) := by decide +kernel
theorem dX6_clear_0 : decode cX6_clear 0 = .ok (.aload_n 0, 1) := by decide +kernel
theorem dX6_clear_1 : decode cX6_clear 1 = .ok (.getfield 19, 3) := by decide +kernel
theorem dX6_clear_4 : decode cX6_clear 4 = .ok (.istore_n 1, 1) := by decide +kernel
theorem dX6_clear_5 : decode cX6_clear 5 = .ok (.aload_n 0, 1) := by decide +kernel
theorem dX6_clear_6 : decode cX6_clear 6 = .ok (.iconst (-1), 1) := by decide +kernel
theorem dX6_clear_7 : decode cX6_clear 7 = .ok (.putfield 19, 3) := by decide +kernel
theorem dX6_clear_10 : decode cX6_clear 10 = .ok (.iload_n 1, 1) := by decide +kernel
theorem dX6_clear_11 : decode cX6_clear 11 = .ok (.ireturn, 1) := by decide +kernel
theorem dX7_init_0 : decode cX7_init 0 = .ok (.aload_n 0, 1) := by decide +kernel
theorem dX7_init_1 : decode cX7_init 1 = .ok (.invokespecial 3, 3) := by decide +kernel
theorem dX7_init_4 : decode cX7_init 4 = .ok (.aload_n 0, 1) := by decide +kernel
theorem dX7_init_5 : decode cX7_init 5 = .ok (.bipush 100, 2) := by decide +kernel
theorem dX7_init_7 : decode cX7_init 7 = .ok (.newarray .int, 2) := by decide +kernel
theorem dX7_init_9 : decode cX7_init 9 = .ok (.putfield 9, 3) := by decide +kernel
theorem dX7_init_12 : decode cX7_init 12 = .ok (.aload_n 0, 1) := by decide +kernel
theorem dX7_init_13 : decode cX7_init 13 = .ok (.iconst 0, 1) := by decide +kernel
theorem dX7_init_14 : decode cX7_init 14 = .ok (.putfield 15, 3) := by decide +kernel
theorem dX7_init_17 : decode cX7_init 17 = .ok (.aload_n 0, 1) := by decide +kernel
theorem dX7_init_18 : decode cX7_init 18 = .ok (.iconst 0, 1) := by decide +kernel
theorem dX7_init_19 : decode cX7_init 19 = .ok (.putfield 19, 3) := by decide +kernel
theorem dX7_init_22 : decode cX7_init 22 = .ok (.aload_n 0, 1) := by decide +kernel
theorem dX7_init_23 : decode cX7_init 23 = .ok (.iconst 0, 1) := by decide +kernel
theorem dX7_init_24 : decode cX7_init 24 = .ok (.putfield 22, 3) := by decide +kernel
theorem dX7_init_27 : decode cX7_init 27 = .ok (.return_, 1) := by decide +kernel
theorem dX7_add_0 : decode cX7_add 0 = .ok (.aload_n 0, 1) := by decide +kernel
theorem dX7_add_1 : decode cX7_add 1 = .ok (.getfield 15, 3) := by decide +kernel
theorem dX7_add_4 : decode cX7_add 4 = .ok (.bipush 100, 2) := by decide +kernel
theorem dX7_add_6 : decode cX7_add 6 = .ok (.if_icmp .lt 5, 3) := by decide +kernel
theorem dX7_add_9 : decode cX7_add 9 = .ok (.iconst 0, 1) := by decide +kernel
theorem dX7_add_10 : decode cX7_add 10 = .ok (.ireturn, 1) := by decide +kernel
theorem dX7_add_11 : decode cX7_add 11 = .ok (.aload_n 0, 1) := by decide +kernel
theorem dX7_add_12 : decode cX7_add 12 = .ok (.getfield 9, 3) := by decide +kernel
theorem dX7_add_15 : decode cX7_add 15 = .ok (.aload_n 0, 1) := by decide +kernel
theorem dX7_add_16 : decode cX7_add 16 = .ok (.getfield 15, 3) := by decide +kernel
theorem dX7_add_19 : decode cX7_add 19 = .ok (.iload_n 1, 1) := by decide +kernel
theorem dX7_add_20 : decode cX7_add 20 = .ok (.iastore, 1) := by decide +kernel
theorem dX7_add_21 : decode cX7_add 21 = .ok (.aload_n 0, 1) := by decide +kernel
theorem dX7_add_22 : decode cX7_add 22 = .ok (.dup, 1) := by decide +kernel
theorem dX7_add_23 : decode cX7_add 23 = .ok (.getfield 15, 3) := by decide +kernel
theorem dX7_add_26 : decode cX7_add 26 = .ok (.iconst 1, 1) := by decide +kernel
theorem dX7_add_27 : decode cX7_add 27 = .ok (.iadd, 1) := by decide +kernel
theorem dX7_add_28 : decode cX7_add 28 = .ok (.putfield 15, 3) := by decide +kernel
theorem dX7_add_31 : decode cX7_add 31 = .ok (.iconst 1, 1) := by decide +kernel
theorem dX7_add_32 : decode cX7_add 32 = .ok (.ireturn, 1) := by decide +kernel
set_option maxRecDepth 20000 in
theorem ggX7_readInto_X7_readLaw : GoodIn wsX7_readInto wsX7_readLaw := goodIn_r _ [6, 7, 8, 9, 5, 10, 1, 11, 12, 13, 14, 15, 16, 17, 18, 19, 20, 21, 22, 23, 24, 25, 26, 27, 28, 29, 30, 31, 32, 33, 34, 35, 36, 37, 38, 39, 40, 63, 64, 65, 66, 67, 68, 69, 70, 71, 72, 73, 74, 75] (by decide +kernel) (by decide +kernel)
set_option maxRecDepth 20000 in
theorem gX7_readInto_X7_readLaw : GoodIn wsX7_readInto (wsV RX7 25 RX7 yX7_readLaw wsX7_readLaw) := goodIn_app (goodIn_of _ (by decide +kernel)) ggX7_readInto_X7_readLaw
set_option maxRecDepth 20000 in
theorem ggX7_readInto_X7_readPeople : GoodIn wsX7_readInto wsX7_readPeople := goodIn_r _ [44, 1, 15, 45, 46, 47, 5, 48, 49, 50, 11, 12, 13, 14, 16, 51, 52, 53, 17, 18, 19, 20, 21, 22, 23, 24, 25, 26, 27, 28, 29, 30, 31, 7, 8, 9, 10, 54, 55, 56, 35, 57, 39, 58, 59, 60, 61, 62, 63, 64, 65, 66, 67, 68, 69, 70, 71, 72, 73, 74, 75] (by decide +kernel) (by decide +kernel)
set_option maxRecDepth 20000 in
theorem gX7_readInto_X7_readPeople : GoodIn wsX7_readInto (wsV RX7 29 RX7 yX7_readPeople wsX7_readPeople) := goodIn_app (goodIn_of _ (by decide +kernel)) ggX7_readInto_X7_readPeople
theorem dX7_readInto_0 : decode cX7_readInto 0 = .ok (.aload_n 0, 1) := by decide +kernel
theorem dX7_readInto_1 : decode cX7_readInto 1 = .ok (.iconst 0, 1) := by decide +kernel
theorem dX7_readInto_2 : decode cX7_readInto 2 = .ok (.putfield 19, 3) := by decide +kernel
theorem dX7_readInto_5 : decode cX7_readInto 5 = .ok (.aload_n 0, 1) := by decide +kernel
theorem dX7_readInto_6 : decode cX7_readInto 6 = .ok (.aload_n 1, 1) := by decide +kernel
theorem dX7_readInto_7 : decode cX7_readInto 7 = .ok (.invokevirtual 25, 3) := by decide +kernel
theorem dX7_readInto_10 : decode cX7_readInto 10 = .ok (.ifCond .eq 15, 3) := by decide +kernel
theorem dX7_readInto_13 : decode cX7_readInto 13 = .ok (.aload_n 0, 1) := by decide +kernel
theorem dX7_readInto_14 : decode cX7_readInto 14 = .ok (.aload_n 1, 1) := by decide +kernel
theorem dX7_readInto_15 : decode cX7_readInto 15 = .ok (.invokevirtual 29, 3) := by decide +kernel
theorem dX7_readInto_18 : decode cX7_readInto 18 = .ok (.ifCond .eq 7, 3) := by decide +kernel
theorem dX7_readInto_21 : decode cX7_readInto 21 = .ok (.iconst 1, 1) := by decide +kernel
theorem dX7_readInto_22 : decode cX7_readInto 22 = .ok (.goto 4, 3) := by decide +kernel
theorem dX7_readInto_25 : decode cX7_readInto 25 = .ok (.iconst 0, 1) := by decide +kernel
theorem dX7_readInto_26 : decode cX7_readInto 26 = .ok (.ireturn, 1) := by decide +kernel
set_option maxRecDepth 20000 in
theorem ggX7_readLaw_X7_takes : GoodIn wsX7_readLaw wsX7_takes := goodIn_r _ [5, 6, 7, 8, 9, 4, 10, 11, 12, 13, 14, 15, 16, 17, 37, 38, 39, 40] (by decide +kernel) (by decide +kernel)
set_option maxRecDepth 20000 in
theorem gX7_readLaw_X7_takes : GoodIn wsX7_readLaw (wsV RX7 32 RX7 yX7_takes wsX7_takes) := goodIn_app (goodIn_of _ (by decide +kernel)) ggX7_readLaw_X7_takes
set_option maxRecDepth 20000 in
theorem ggX7_readLaw_X7_numberBefore : GoodIn wsX7_readLaw wsX7_numberBefore := goodIn_r _ [21, 6, 11, 12, 22, 23, 4, 24, 13, 14, 15, 16, 17, 25, 26, 27, 1, 2, 3, 5, 7, 8, 9, 10, 37, 38, 39, 40] (by decide +kernel) (by decide +kernel)
set_option maxRecDepth 20000 in
theorem gX7_readLaw_X7_numberBefore : GoodIn wsX7_readLaw (wsV RX7 36 RX7 yX7_numberBefore wsX7_numberBefore) := goodIn_app (goodIn_of _ (by decide +kernel)) ggX7_readLaw_X7_numberBefore
set_option maxRecDepth 20000 in
theorem ggX7_readLaw_X3_begin : GoodIn wsX7_readLaw wsX3_begin := goodIn_r _ [32, 33, 34, 35, 36, 41, 42, 43, 44, 45, 46, 47, 48, 49] (by decide +kernel) (by decide +kernel)
set_option maxRecDepth 20000 in
theorem gX7_readLaw_X3_begin : GoodIn wsX7_readLaw (wsV RX7 40 RX3 yX3_begin wsX3_begin) := goodIn_app (goodIn_of _ (by decide +kernel)) ggX7_readLaw_X3_begin
theorem dX7_readLaw_0 : decode cX7_readLaw 0 = .ok (.aload_n 0, 1) := by decide +kernel
theorem dX7_readLaw_1 : decode cX7_readLaw 1 = .ok (.bipush 109, 2) := by decide +kernel
theorem dX7_readLaw_3 : decode cX7_readLaw 3 = .ok (.invokevirtual 32, 3) := by decide +kernel
theorem dX7_readLaw_6 : decode cX7_readLaw 6 = .ok (.ifCond .ne 5, 3) := by decide +kernel
theorem dX7_readLaw_9 : decode cX7_readLaw 9 = .ok (.iconst 0, 1) := by decide +kernel
theorem dX7_readLaw_10 : decode cX7_readLaw 10 = .ok (.ireturn, 1) := by decide +kernel
theorem dX7_readLaw_11 : decode cX7_readLaw 11 = .ok (.aload_n 0, 1) := by decide +kernel
theorem dX7_readLaw_12 : decode cX7_readLaw 12 = .ok (.iconst 1, 1) := by decide +kernel
theorem dX7_readLaw_13 : decode cX7_readLaw 13 = .ok (.iconst 4, 1) := by decide +kernel
theorem dX7_readLaw_14 : decode cX7_readLaw 14 = .ok (.bipush 44, 2) := by decide +kernel
theorem dX7_readLaw_16 : decode cX7_readLaw 16 = .ok (.invokevirtual 36, 3) := by decide +kernel
theorem dX7_readLaw_19 : decode cX7_readLaw 19 = .ok (.istore_n 2, 1) := by decide +kernel
theorem dX7_readLaw_20 : decode cX7_readLaw 20 = .ok (.iload_n 2, 1) := by decide +kernel
theorem dX7_readLaw_21 : decode cX7_readLaw 21 = .ok (.iconst (-1), 1) := by decide +kernel
theorem dX7_readLaw_22 : decode cX7_readLaw 22 = .ok (.if_icmp .ne 5, 3) := by decide +kernel
theorem dX7_readLaw_25 : decode cX7_readLaw 25 = .ok (.iconst 0, 1) := by decide +kernel
theorem dX7_readLaw_26 : decode cX7_readLaw 26 = .ok (.ireturn, 1) := by decide +kernel
theorem dX7_readLaw_27 : decode cX7_readLaw 27 = .ok (.aload_n 0, 1) := by decide +kernel
theorem dX7_readLaw_28 : decode cX7_readLaw 28 = .ok (.iconst 1, 1) := by decide +kernel
theorem dX7_readLaw_29 : decode cX7_readLaw 29 = .ok (.bipush 9, 2) := by decide +kernel
theorem dX7_readLaw_31 : decode cX7_readLaw 31 = .ok (.bipush 59, 2) := by decide +kernel
theorem dX7_readLaw_33 : decode cX7_readLaw 33 = .ok (.invokevirtual 36, 3) := by decide +kernel
theorem dX7_readLaw_36 : decode cX7_readLaw 36 = .ok (.istore_n 3, 1) := by decide +kernel
theorem dX7_readLaw_37 : decode cX7_readLaw 37 = .ok (.iload_n 3, 1) := by decide +kernel
theorem dX7_readLaw_38 : decode cX7_readLaw 38 = .ok (.iconst (-1), 1) := by decide +kernel
theorem dX7_readLaw_39 : decode cX7_readLaw 39 = .ok (.if_icmp .ne 5, 3) := by decide +kernel
theorem dX7_readLaw_42 : decode cX7_readLaw 42 = .ok (.iconst 0, 1) := by decide +kernel
theorem dX7_readLaw_43 : decode cX7_readLaw 43 = .ok (.ireturn, 1) := by decide +kernel
theorem dX7_readLaw_44 : decode cX7_readLaw 44 = .ok (.aload_n 1, 1) := by decide +kernel
theorem dX7_readLaw_45 : decode cX7_readLaw 45 = .ok (.iload_n 2, 1) := by decide +kernel
theorem dX7_readLaw_46 : decode cX7_readLaw 46 = .ok (.iload_n 3, 1) := by decide +kernel
theorem dX7_readLaw_47 : decode cX7_readLaw 47 = .ok (.invokevirtual 40, 3) := by decide +kernel
theorem dX7_readLaw_50 : decode cX7_readLaw 50 = .ok (.iconst 1, 1) := by decide +kernel
theorem dX7_readLaw_51 : decode cX7_readLaw 51 = .ok (.ireturn, 1) := by decide +kernel
set_option maxRecDepth 20000 in
theorem ggX7_readPeople_X7_readPerson : GoodIn wsX7_readPeople wsX7_readPerson := goodIn_r _ [7, 8, 1, 9, 10, 11, 12, 6, 13, 2, 14, 15, 16, 17, 18, 19, 20, 21, 22, 23, 24, 25, 26, 27, 28, 29, 30, 31, 32, 33, 34, 35, 36, 37, 38, 39, 40, 41, 42, 43, 44, 45, 46, 47, 52, 53, 54, 55, 56, 57, 58, 59, 60, 48, 49, 50, 51] (by decide +kernel) (by decide +kernel)
set_option maxRecDepth 20000 in
theorem gX7_readPeople_X7_readPerson : GoodIn wsX7_readPeople (wsV RX7 46 RX7 yX7_readPerson wsX7_readPerson) := goodIn_app (goodIn_of _ (by decide +kernel)) ggX7_readPeople_X7_readPerson
theorem dX7_readPeople_0 : decode cX7_readPeople 0 = .ok (.iconst 0, 1) := by decide +kernel
theorem dX7_readPeople_1 : decode cX7_readPeople 1 = .ok (.istore_n 2, 1) := by decide +kernel
theorem dX7_readPeople_2 : decode cX7_readPeople 2 = .ok (.iload_n 2, 1) := by decide +kernel
theorem dX7_readPeople_3 : decode cX7_readPeople 3 = .ok (.bipush 7, 2) := by decide +kernel
theorem dX7_readPeople_5 : decode cX7_readPeople 5 = .ok (.if_icmp .gt 32, 3) := by decide +kernel
theorem dX7_readPeople_8 : decode cX7_readPeople 8 = .ok (.aload_n 0, 1) := by decide +kernel
theorem dX7_readPeople_9 : decode cX7_readPeople 9 = .ok (.aload_n 1, 1) := by decide +kernel
theorem dX7_readPeople_10 : decode cX7_readPeople 10 = .ok (.invokevirtual 46, 3) := by decide +kernel
theorem dX7_readPeople_13 : decode cX7_readPeople 13 = .ok (.ifCond .ne 5, 3) := by decide +kernel
theorem dX7_readPeople_16 : decode cX7_readPeople 16 = .ok (.iconst 0, 1) := by decide +kernel
theorem dX7_readPeople_17 : decode cX7_readPeople 17 = .ok (.ireturn, 1) := by decide +kernel
theorem dX7_readPeople_18 : decode cX7_readPeople 18 = .ok (.aload_n 0, 1) := by decide +kernel
theorem dX7_readPeople_19 : decode cX7_readPeople 19 = .ok (.getfield 19, 3) := by decide +kernel
theorem dX7_readPeople_22 : decode cX7_readPeople 22 = .ok (.aload_n 0, 1) := by decide +kernel
theorem dX7_readPeople_23 : decode cX7_readPeople 23 = .ok (.getfield 15, 3) := by decide +kernel
theorem dX7_readPeople_26 : decode cX7_readPeople 26 = .ok (.if_icmp .lt 5, 3) := by decide +kernel
theorem dX7_readPeople_29 : decode cX7_readPeople 29 = .ok (.iconst 1, 1) := by decide +kernel
theorem dX7_readPeople_30 : decode cX7_readPeople 30 = .ok (.ireturn, 1) := by decide +kernel
theorem dX7_readPeople_31 : decode cX7_readPeople 31 = .ok (.iinc 2 1, 3) := by decide +kernel
theorem dX7_readPeople_34 : decode cX7_readPeople 34 = .ok (.goto (-32), 3) := by decide +kernel
theorem dX7_readPeople_37 : decode cX7_readPeople 37 = .ok (.iconst 0, 1) := by decide +kernel
theorem dX7_readPeople_38 : decode cX7_readPeople 38 = .ok (.ireturn, 1) := by decide +kernel
set_option maxRecDepth 20000 in
theorem ggX7_readPerson_X7_here : GoodIn wsX7_readPerson wsX7_here := goodIn_r _ [8, 2, 9, 10, 53, 54, 55, 56] (by decide +kernel) (by decide +kernel)
set_option maxRecDepth 20000 in
theorem gX7_readPerson_X7_here : GoodIn wsX7_readPerson (wsV RX7 49 RX7 yX7_here wsX7_here) := goodIn_app (goodIn_of _ (by decide +kernel)) ggX7_readPerson_X7_here
set_option maxRecDepth 20000 in
theorem ggX7_readPerson_X7_kindTold : GoodIn wsX7_readPerson wsX7_kindTold := goodIn_r _ [13] (by decide +kernel) (by decide +kernel)
set_option maxRecDepth 20000 in
theorem gX7_readPerson_X7_kindTold : GoodIn wsX7_readPerson (va_wsS RX7 53 yX7_kindTold wsX7_kindTold) := goodIn_app (goodIn_of _ (by decide +kernel)) ggX7_readPerson_X7_kindTold
set_option maxRecDepth 20000 in
theorem ggX7_readPerson_X7_fails : GoodIn wsX7_readPerson wsX7_fails := goodIn_r _ [17, 18, 53, 54, 55, 56] (by decide +kernel) (by decide +kernel)
set_option maxRecDepth 20000 in
theorem gX7_readPerson_X7_fails : GoodIn wsX7_readPerson (wsV RX7 57 RX7 yX7_fails wsX7_fails) := goodIn_app (goodIn_of _ (by decide +kernel)) ggX7_readPerson_X7_fails
set_option maxRecDepth 20000 in
theorem ggX7_readPerson_X7_numberBefore : GoodIn wsX7_readPerson wsX7_numberBefore := goodIn_r _ [22, 2, 9, 10, 23, 24, 7, 25, 14, 15, 16, 17, 18, 26, 27, 28, 29, 30, 31, 32, 4, 5, 6, 8, 53, 54, 55, 56] (by decide +kernel) (by decide +kernel)
set_option maxRecDepth 20000 in
theorem gX7_readPerson_X7_numberBefore : GoodIn wsX7_readPerson (wsV RX7 36 RX7 yX7_numberBefore wsX7_numberBefore) := goodIn_app (goodIn_of _ (by decide +kernel)) ggX7_readPerson_X7_numberBefore
set_option maxRecDepth 20000 in
theorem ggX7_readPerson_X3_admit : GoodIn wsX7_readPerson wsX3_admit := goodIn_r _ [37, 38, 39, 40, 41, 42, 43, 44, 45, 46, 47, 48, 49, 50, 51, 52] (by decide +kernel) (by decide +kernel)
set_option maxRecDepth 20000 in
theorem gX7_readPerson_X3_admit : GoodIn wsX7_readPerson (wsV RX7 67 RX3 yX3_admit wsX3_admit) := goodIn_app (goodIn_of _ (by decide +kernel)) ggX7_readPerson_X3_admit
theorem dX7_readPerson_0 : decode cX7_readPerson 0 = .ok (.aload_n 0, 1) := by decide +kernel
theorem dX7_readPerson_1 : decode cX7_readPerson 1 = .ok (.invokevirtual 49, 3) := by decide +kernel
theorem dX7_readPerson_4 : decode cX7_readPerson 4 = .ok (.invokestatic 53, 3) := by decide +kernel
theorem dX7_readPerson_7 : decode cX7_readPerson 7 = .ok (.istore_n 2, 1) := by decide +kernel
theorem dX7_readPerson_8 : decode cX7_readPerson 8 = .ok (.iload_n 2, 1) := by decide +kernel
theorem dX7_readPerson_9 : decode cX7_readPerson 9 = .ok (.ifCond .ne 9, 3) := by decide +kernel
theorem dX7_readPerson_12 : decode cX7_readPerson 12 = .ok (.aload_n 0, 1) := by decide +kernel
theorem dX7_readPerson_13 : decode cX7_readPerson 13 = .ok (.iconst 1, 1) := by decide +kernel
theorem dX7_readPerson_14 : decode cX7_readPerson 14 = .ok (.invokevirtual 57, 3) := by decide +kernel
theorem dX7_readPerson_17 : decode cX7_readPerson 17 = .ok (.ireturn, 1) := by decide +kernel
theorem dX7_readPerson_18 : decode cX7_readPerson 18 = .ok (.aload_n 1, 1) := by decide +kernel
theorem dX7_readPerson_19 : decode cX7_readPerson 19 = .ok (.getfield 61, 3) := by decide +kernel
theorem dX7_readPerson_22 : decode cX7_readPerson 22 = .ok (.bipush 7, 2) := by decide +kernel
theorem dX7_readPerson_24 : decode cX7_readPerson 24 = .ok (.if_icmp .lt 9, 3) := by decide +kernel
theorem dX7_readPerson_27 : decode cX7_readPerson 27 = .ok (.aload_n 0, 1) := by decide +kernel
theorem dX7_readPerson_28 : decode cX7_readPerson 28 = .ok (.iconst 3, 1) := by decide +kernel
theorem dX7_readPerson_29 : decode cX7_readPerson 29 = .ok (.invokevirtual 57, 3) := by decide +kernel
theorem dX7_readPerson_32 : decode cX7_readPerson 32 = .ok (.ireturn, 1) := by decide +kernel
theorem dX7_readPerson_33 : decode cX7_readPerson 33 = .ok (.aload_n 0, 1) := by decide +kernel
theorem dX7_readPerson_34 : decode cX7_readPerson 34 = .ok (.dup, 1) := by decide +kernel
theorem dX7_readPerson_35 : decode cX7_readPerson 35 = .ok (.getfield 19, 3) := by decide +kernel
theorem dX7_readPerson_38 : decode cX7_readPerson 38 = .ok (.iconst 1, 1) := by decide +kernel
theorem dX7_readPerson_39 : decode cX7_readPerson 39 = .ok (.iadd, 1) := by decide +kernel
theorem dX7_readPerson_40 : decode cX7_readPerson 40 = .ok (.putfield 19, 3) := by decide +kernel
theorem dX7_readPerson_43 : decode cX7_readPerson 43 = .ok (.aload_n 0, 1) := by decide +kernel
theorem dX7_readPerson_44 : decode cX7_readPerson 44 = .ok (.iconst 0, 1) := by decide +kernel
theorem dX7_readPerson_45 : decode cX7_readPerson 45 = .ok (.bipush 9, 2) := by decide +kernel
theorem dX7_readPerson_47 : decode cX7_readPerson 47 = .ok (.bipush 44, 2) := by decide +kernel
theorem dX7_readPerson_49 : decode cX7_readPerson 49 = .ok (.invokevirtual 36, 3) := by decide +kernel
theorem dX7_readPerson_52 : decode cX7_readPerson 52 = .ok (.istore_n 3, 1) := by decide +kernel
theorem dX7_readPerson_53 : decode cX7_readPerson 53 = .ok (.iload_n 3, 1) := by decide +kernel
theorem dX7_readPerson_54 : decode cX7_readPerson 54 = .ok (.iconst (-1), 1) := by decide +kernel
theorem dX7_readPerson_55 : decode cX7_readPerson 55 = .ok (.if_icmp .ne 5, 3) := by decide +kernel
theorem dX7_readPerson_58 : decode cX7_readPerson 58 = .ok (.iconst 0, 1) := by decide +kernel
theorem dX7_readPerson_59 : decode cX7_readPerson 59 = .ok (.ireturn, 1) := by decide +kernel
theorem dX7_readPerson_60 : decode cX7_readPerson 60 = .ok (.aload_n 0, 1) := by decide +kernel
theorem dX7_readPerson_61 : decode cX7_readPerson 61 = .ok (.iconst 0, 1) := by decide +kernel
theorem dX7_readPerson_62 : decode cX7_readPerson 62 = .ok (.bipush 9, 2) := by decide +kernel
theorem dX7_readPerson_64 : decode cX7_readPerson 64 = .ok (.bipush 44, 2) := by decide +kernel
theorem dX7_readPerson_66 : decode cX7_readPerson 66 = .ok (.invokevirtual 36, 3) := by decide +kernel
theorem dX7_readPerson_69 : decode cX7_readPerson 69 = .ok (.istore 4, 2) := by decide +kernel
theorem dX7_readPerson_71 : decode cX7_readPerson 71 = .ok (.iload 4, 2) := by decide +kernel
theorem dX7_readPerson_73 : decode cX7_readPerson 73 = .ok (.iconst (-1), 1) := by decide +kernel
theorem dX7_readPerson_74 : decode cX7_readPerson 74 = .ok (.if_icmp .ne 5, 3) := by decide +kernel
theorem dX7_readPerson_77 : decode cX7_readPerson 77 = .ok (.iconst 0, 1) := by decide +kernel
theorem dX7_readPerson_78 : decode cX7_readPerson 78 = .ok (.ireturn, 1) := by decide +kernel
theorem dX7_readPerson_79 : decode cX7_readPerson 79 = .ok (.aload_n 0, 1) := by decide +kernel
theorem dX7_readPerson_80 : decode cX7_readPerson 80 = .ok (.iconst 0, 1) := by decide +kernel
theorem dX7_readPerson_81 : decode cX7_readPerson 81 = .ok (.aload_n 1, 1) := by decide +kernel
theorem dX7_readPerson_82 : decode cX7_readPerson 82 = .ok (.getfield 64, 3) := by decide +kernel
theorem dX7_readPerson_85 : decode cX7_readPerson 85 = .ok (.iconst 1, 1) := by decide +kernel
theorem dX7_readPerson_86 : decode cX7_readPerson 86 = .ok (.isub, 1) := by decide +kernel
theorem dX7_readPerson_87 : decode cX7_readPerson 87 = .ok (.bipush 59, 2) := by decide +kernel
theorem dX7_readPerson_89 : decode cX7_readPerson 89 = .ok (.invokevirtual 36, 3) := by decide +kernel
theorem dX7_readPerson_92 : decode cX7_readPerson 92 = .ok (.istore 5, 2) := by decide +kernel
theorem dX7_readPerson_94 : decode cX7_readPerson 94 = .ok (.iload 5, 2) := by decide +kernel
theorem dX7_readPerson_96 : decode cX7_readPerson 96 = .ok (.iconst (-1), 1) := by decide +kernel
theorem dX7_readPerson_97 : decode cX7_readPerson 97 = .ok (.if_icmp .ne 5, 3) := by decide +kernel
theorem dX7_readPerson_100 : decode cX7_readPerson 100 = .ok (.iconst 0, 1) := by decide +kernel
theorem dX7_readPerson_101 : decode cX7_readPerson 101 = .ok (.ireturn, 1) := by decide +kernel
theorem dX7_readPerson_102 : decode cX7_readPerson 102 = .ok (.aload_n 1, 1) := by decide +kernel
theorem dX7_readPerson_103 : decode cX7_readPerson 103 = .ok (.iload_n 2, 1) := by decide +kernel
theorem dX7_readPerson_104 : decode cX7_readPerson 104 = .ok (.iload_n 3, 1) := by decide +kernel
theorem dX7_readPerson_105 : decode cX7_readPerson 105 = .ok (.iload 4, 2) := by decide +kernel
theorem dX7_readPerson_107 : decode cX7_readPerson 107 = .ok (.iload 5, 2) := by decide +kernel
theorem dX7_readPerson_109 : decode cX7_readPerson 109 = .ok (.invokevirtual 67, 3) := by decide +kernel
theorem dX7_readPerson_112 : decode cX7_readPerson 112 = .ok (.iconst 1, 1) := by decide +kernel
theorem dX7_readPerson_113 : decode cX7_readPerson 113 = .ok (.ireturn, 1) := by decide +kernel
theorem dX7_kindTold_0 : decode cX7_kindTold 0 = .ok (.iload_n 0, 1) := by decide +kernel
theorem dX7_kindTold_1 : decode cX7_kindTold 1 = .ok (.lookupswitch 61 #[(98, 59), (99, 51), (103, 57), (106, 55), (115, 53)], 51) := by decide +kernel
theorem dX7_kindTold_52 : decode cX7_kindTold 52 = .ok (.iconst 1, 1) := by decide +kernel
theorem dX7_kindTold_53 : decode cX7_kindTold 53 = .ok (.ireturn, 1) := by decide +kernel
theorem dX7_kindTold_54 : decode cX7_kindTold 54 = .ok (.iconst 2, 1) := by decide +kernel
theorem dX7_kindTold_55 : decode cX7_kindTold 55 = .ok (.ireturn, 1) := by decide +kernel
theorem dX7_kindTold_56 : decode cX7_kindTold 56 = .ok (.iconst 3, 1) := by decide +kernel
theorem dX7_kindTold_57 : decode cX7_kindTold 57 = .ok (.ireturn, 1) := by decide +kernel
theorem dX7_kindTold_58 : decode cX7_kindTold 58 = .ok (.iconst 4, 1) := by decide +kernel
theorem dX7_kindTold_59 : decode cX7_kindTold 59 = .ok (.ireturn, 1) := by decide +kernel
theorem dX7_kindTold_60 : decode cX7_kindTold 60 = .ok (.iconst 5, 1) := by decide +kernel
theorem dX7_kindTold_61 : decode cX7_kindTold 61 = .ok (.ireturn, 1) := by decide +kernel
theorem dX7_kindTold_62 : decode cX7_kindTold 62 = .ok (.iconst 0, 1) := by decide +kernel
theorem dX7_kindTold_63 : decode cX7_kindTold 63 = .ok (.ireturn, 1) := by decide +kernel
set_option maxRecDepth 20000 in
theorem ggX7_numberBefore_X7_isFigure : GoodIn wsX7_numberBefore wsX7_isFigure := goodIn_r _ [7] (by decide +kernel) (by decide +kernel)
set_option maxRecDepth 20000 in
theorem gX7_numberBefore_X7_isFigure : GoodIn wsX7_numberBefore (va_wsS RX7 71 yX7_isFigure wsX7_isFigure) := goodIn_app (goodIn_of _ (by decide +kernel)) ggX7_numberBefore_X7_isFigure
set_option maxRecDepth 20000 in
theorem ggX7_numberBefore_X7_fails : GoodIn wsX7_numberBefore wsX7_fails := goodIn_r _ [11, 12, 24, 25, 26, 27] (by decide +kernel) (by decide +kernel)
set_option maxRecDepth 20000 in
theorem gX7_numberBefore_X7_fails : GoodIn wsX7_numberBefore (wsV RX7 57 RX7 yX7_fails wsX7_fails) := goodIn_app (goodIn_of _ (by decide +kernel)) ggX7_numberBefore_X7_fails
set_option maxRecDepth 20000 in
theorem ggX7_numberBefore_X8_within : GoodIn wsX7_numberBefore wsX8_within := goodIn_r _ [15] (by decide +kernel) (by decide +kernel)
set_option maxRecDepth 20000 in
theorem gX7_numberBefore_X8_within_n74 : GoodIn wsX7_numberBefore (wsX8_within) := ggX7_numberBefore_X8_within
set_option maxRecDepth 20000 in
theorem ggX7_numberBefore_X7_takes : GoodIn wsX7_numberBefore wsX7_takes := goodIn_r _ [19, 1, 20, 21, 22, 6, 23, 2, 3, 8, 9, 10, 11, 12, 24, 25, 26, 27] (by decide +kernel) (by decide +kernel)
set_option maxRecDepth 20000 in
theorem gX7_numberBefore_X7_takes : GoodIn wsX7_numberBefore (wsV RX7 32 RX7 yX7_takes wsX7_takes) := goodIn_app (goodIn_of _ (by decide +kernel)) ggX7_numberBefore_X7_takes
theorem dX7_numberBefore_0 : decode cX7_numberBefore 0 = .ok (.iconst 0, 1) := by decide +kernel
theorem dX7_numberBefore_1 : decode cX7_numberBefore 1 = .ok (.istore 4, 2) := by decide +kernel
theorem dX7_numberBefore_3 : decode cX7_numberBefore 3 = .ok (.iconst 0, 1) := by decide +kernel
theorem dX7_numberBefore_4 : decode cX7_numberBefore 4 = .ok (.istore 5, 2) := by decide +kernel
theorem dX7_numberBefore_6 : decode cX7_numberBefore 6 = .ok (.aload_n 0, 1) := by decide +kernel
theorem dX7_numberBefore_7 : decode cX7_numberBefore 7 = .ok (.getfield 19, 3) := by decide +kernel
theorem dX7_numberBefore_10 : decode cX7_numberBefore 10 = .ok (.istore 6, 2) := by decide +kernel
theorem dX7_numberBefore_12 : decode cX7_numberBefore 12 = .ok (.iload 6, 2) := by decide +kernel
theorem dX7_numberBefore_14 : decode cX7_numberBefore 14 = .ok (.aload_n 0, 1) := by decide +kernel
theorem dX7_numberBefore_15 : decode cX7_numberBefore 15 = .ok (.getfield 15, 3) := by decide +kernel
theorem dX7_numberBefore_18 : decode cX7_numberBefore 18 = .ok (.if_icmp .ge 49, 3) := by decide +kernel
theorem dX7_numberBefore_21 : decode cX7_numberBefore 21 = .ok (.iload 4, 2) := by decide +kernel
theorem dX7_numberBefore_23 : decode cX7_numberBefore 23 = .ok (.iconst 3, 1) := by decide +kernel
theorem dX7_numberBefore_24 : decode cX7_numberBefore 24 = .ok (.if_icmp .ge 43, 3) := by decide +kernel
theorem dX7_numberBefore_27 : decode cX7_numberBefore 27 = .ok (.aload_n 0, 1) := by decide +kernel
theorem dX7_numberBefore_28 : decode cX7_numberBefore 28 = .ok (.getfield 9, 3) := by decide +kernel
theorem dX7_numberBefore_31 : decode cX7_numberBefore 31 = .ok (.iload 6, 2) := by decide +kernel
theorem dX7_numberBefore_33 : decode cX7_numberBefore 33 = .ok (.iaload, 1) := by decide +kernel
theorem dX7_numberBefore_34 : decode cX7_numberBefore 34 = .ok (.invokestatic 71, 3) := by decide +kernel
theorem dX7_numberBefore_37 : decode cX7_numberBefore 37 = .ok (.ifCond .eq 30, 3) := by decide +kernel
theorem dX7_numberBefore_40 : decode cX7_numberBefore 40 = .ok (.iload 5, 2) := by decide +kernel
theorem dX7_numberBefore_42 : decode cX7_numberBefore 42 = .ok (.bipush 10, 2) := by decide +kernel
theorem dX7_numberBefore_44 : decode cX7_numberBefore 44 = .ok (.imul, 1) := by decide +kernel
theorem dX7_numberBefore_45 : decode cX7_numberBefore 45 = .ok (.aload_n 0, 1) := by decide +kernel
theorem dX7_numberBefore_46 : decode cX7_numberBefore 46 = .ok (.getfield 9, 3) := by decide +kernel
theorem dX7_numberBefore_49 : decode cX7_numberBefore 49 = .ok (.iload 6, 2) := by decide +kernel
theorem dX7_numberBefore_51 : decode cX7_numberBefore 51 = .ok (.iaload, 1) := by decide +kernel
theorem dX7_numberBefore_52 : decode cX7_numberBefore 52 = .ok (.bipush 48, 2) := by decide +kernel
theorem dX7_numberBefore_54 : decode cX7_numberBefore 54 = .ok (.isub, 1) := by decide +kernel
theorem dX7_numberBefore_55 : decode cX7_numberBefore 55 = .ok (.iadd, 1) := by decide +kernel
theorem dX7_numberBefore_56 : decode cX7_numberBefore 56 = .ok (.istore 5, 2) := by decide +kernel
theorem dX7_numberBefore_58 : decode cX7_numberBefore 58 = .ok (.iinc 4 1, 3) := by decide +kernel
theorem dX7_numberBefore_61 : decode cX7_numberBefore 61 = .ok (.iinc 6 1, 3) := by decide +kernel
theorem dX7_numberBefore_64 : decode cX7_numberBefore 64 = .ok (.goto (-52), 3) := by decide +kernel
theorem dX7_numberBefore_67 : decode cX7_numberBefore 67 = .ok (.iload 4, 2) := by decide +kernel
theorem dX7_numberBefore_69 : decode cX7_numberBefore 69 = .ok (.ifCond .eq 9, 3) := by decide +kernel
theorem dX7_numberBefore_72 : decode cX7_numberBefore 72 = .ok (.iload 4, 2) := by decide +kernel
theorem dX7_numberBefore_74 : decode cX7_numberBefore 74 = .ok (.iconst 2, 1) := by decide +kernel
theorem dX7_numberBefore_75 : decode cX7_numberBefore 75 = .ok (.if_icmp .le 11, 3) := by decide +kernel
theorem dX7_numberBefore_78 : decode cX7_numberBefore 78 = .ok (.aload_n 0, 1) := by decide +kernel
theorem dX7_numberBefore_79 : decode cX7_numberBefore 79 = .ok (.iconst 1, 1) := by decide +kernel
theorem dX7_numberBefore_80 : decode cX7_numberBefore 80 = .ok (.invokevirtual 57, 3) := by decide +kernel
theorem dX7_numberBefore_83 : decode cX7_numberBefore 83 = .ok (.pop, 1) := by decide +kernel
theorem dX7_numberBefore_84 : decode cX7_numberBefore 84 = .ok (.iconst (-1), 1) := by decide +kernel
theorem dX7_numberBefore_85 : decode cX7_numberBefore 85 = .ok (.ireturn, 1) := by decide +kernel
theorem dX7_numberBefore_86 : decode cX7_numberBefore 86 = .ok (.iload 5, 2) := by decide +kernel
theorem dX7_numberBefore_88 : decode cX7_numberBefore 88 = .ok (.iload_n 1, 1) := by decide +kernel
theorem dX7_numberBefore_89 : decode cX7_numberBefore 89 = .ok (.iload_n 2, 1) := by decide +kernel
theorem dX7_numberBefore_90 : decode cX7_numberBefore 90 = .ok (.invokestatic 74, 3) := by decide +kernel
theorem dX7_numberBefore_93 : decode cX7_numberBefore 93 = .ok (.ifCond .ne 11, 3) := by decide +kernel
theorem dX7_numberBefore_96 : decode cX7_numberBefore 96 = .ok (.aload_n 0, 1) := by decide +kernel
theorem dX7_numberBefore_97 : decode cX7_numberBefore 97 = .ok (.iconst 2, 1) := by decide +kernel
theorem dX7_numberBefore_98 : decode cX7_numberBefore 98 = .ok (.invokevirtual 57, 3) := by decide +kernel
theorem dX7_numberBefore_101 : decode cX7_numberBefore 101 = .ok (.pop, 1) := by decide +kernel
theorem dX7_numberBefore_102 : decode cX7_numberBefore 102 = .ok (.iconst (-1), 1) := by decide +kernel
theorem dX7_numberBefore_103 : decode cX7_numberBefore 103 = .ok (.ireturn, 1) := by decide +kernel
theorem dX7_numberBefore_104 : decode cX7_numberBefore 104 = .ok (.aload_n 0, 1) := by decide +kernel
theorem dX7_numberBefore_105 : decode cX7_numberBefore 105 = .ok (.dup, 1) := by decide +kernel
theorem dX7_numberBefore_106 : decode cX7_numberBefore 106 = .ok (.getfield 19, 3) := by decide +kernel
theorem dX7_numberBefore_109 : decode cX7_numberBefore 109 = .ok (.iload 4, 2) := by decide +kernel
theorem dX7_numberBefore_111 : decode cX7_numberBefore 111 = .ok (.iadd, 1) := by decide +kernel
theorem dX7_numberBefore_112 : decode cX7_numberBefore 112 = .ok (.putfield 19, 3) := by decide +kernel
theorem dX7_numberBefore_115 : decode cX7_numberBefore 115 = .ok (.aload_n 0, 1) := by decide +kernel
theorem dX7_numberBefore_116 : decode cX7_numberBefore 116 = .ok (.iload_n 3, 1) := by decide +kernel
theorem dX7_numberBefore_117 : decode cX7_numberBefore 117 = .ok (.invokevirtual 32, 3) := by decide +kernel
theorem dX7_numberBefore_120 : decode cX7_numberBefore 120 = .ok (.ifCond .eq 8, 3) := by decide +kernel
theorem dX7_numberBefore_123 : decode cX7_numberBefore 123 = .ok (.iload 5, 2) := by decide +kernel
theorem dX7_numberBefore_125 : decode cX7_numberBefore 125 = .ok (.goto 4, 3) := by decide +kernel
theorem dX7_numberBefore_128 : decode cX7_numberBefore 128 = .ok (.iconst (-1), 1) := by decide +kernel
theorem dX7_numberBefore_129 : decode cX7_numberBefore 129 = .ok (.ireturn, 1) := by decide +kernel
set_option maxRecDepth 20000 in
theorem ggX7_takes_X7_here : GoodIn wsX7_takes wsX7_here := goodIn_r _ [6, 1, 7, 8, 14, 15, 16, 17] (by decide +kernel) (by decide +kernel)
set_option maxRecDepth 20000 in
theorem gX7_takes_X7_here : GoodIn wsX7_takes (wsV RX7 49 RX7 yX7_here wsX7_here) := goodIn_app (goodIn_of _ (by decide +kernel)) ggX7_takes_X7_here
set_option maxRecDepth 20000 in
theorem ggX7_takes_X7_fails : GoodIn wsX7_takes wsX7_fails := goodIn_r _ [12, 13, 14, 15, 16, 17] (by decide +kernel) (by decide +kernel)
set_option maxRecDepth 20000 in
theorem gX7_takes_X7_fails : GoodIn wsX7_takes (wsV RX7 57 RX7 yX7_fails wsX7_fails) := goodIn_app (goodIn_of _ (by decide +kernel)) ggX7_takes_X7_fails
theorem dX7_takes_0 : decode cX7_takes 0 = .ok (.aload_n 0, 1) := by decide +kernel
theorem dX7_takes_1 : decode cX7_takes 1 = .ok (.invokevirtual 49, 3) := by decide +kernel
theorem dX7_takes_4 : decode cX7_takes 4 = .ok (.iload_n 1, 1) := by decide +kernel
theorem dX7_takes_5 : decode cX7_takes 5 = .ok (.if_icmp .eq 9, 3) := by decide +kernel
theorem dX7_takes_8 : decode cX7_takes 8 = .ok (.aload_n 0, 1) := by decide +kernel
theorem dX7_takes_9 : decode cX7_takes 9 = .ok (.iconst 1, 1) := by decide +kernel
theorem dX7_takes_10 : decode cX7_takes 10 = .ok (.invokevirtual 57, 3) := by decide +kernel
theorem dX7_takes_13 : decode cX7_takes 13 = .ok (.ireturn, 1) := by decide +kernel
theorem dX7_takes_14 : decode cX7_takes 14 = .ok (.aload_n 0, 1) := by decide +kernel
theorem dX7_takes_15 : decode cX7_takes 15 = .ok (.dup, 1) := by decide +kernel
theorem dX7_takes_16 : decode cX7_takes 16 = .ok (.getfield 19, 3) := by decide +kernel
theorem dX7_takes_19 : decode cX7_takes 19 = .ok (.iconst 1, 1) := by decide +kernel
theorem dX7_takes_20 : decode cX7_takes 20 = .ok (.iadd, 1) := by decide +kernel
theorem dX7_takes_21 : decode cX7_takes 21 = .ok (.putfield 19, 3) := by decide +kernel
theorem dX7_takes_24 : decode cX7_takes 24 = .ok (.iconst 1, 1) := by decide +kernel
theorem dX7_takes_25 : decode cX7_takes 25 = .ok (.ireturn, 1) := by decide +kernel
theorem dX7_here_0 : decode cX7_here 0 = .ok (.aload_n 0, 1) := by decide +kernel
theorem dX7_here_1 : decode cX7_here 1 = .ok (.getfield 19, 3) := by decide +kernel
theorem dX7_here_4 : decode cX7_here 4 = .ok (.aload_n 0, 1) := by decide +kernel
theorem dX7_here_5 : decode cX7_here 5 = .ok (.getfield 15, 3) := by decide +kernel
theorem dX7_here_8 : decode cX7_here 8 = .ok (.if_icmp .ge 15, 3) := by decide +kernel
theorem dX7_here_11 : decode cX7_here 11 = .ok (.aload_n 0, 1) := by decide +kernel
theorem dX7_here_12 : decode cX7_here 12 = .ok (.getfield 9, 3) := by decide +kernel
theorem dX7_here_15 : decode cX7_here 15 = .ok (.aload_n 0, 1) := by decide +kernel
theorem dX7_here_16 : decode cX7_here 16 = .ok (.getfield 19, 3) := by decide +kernel
theorem dX7_here_19 : decode cX7_here 19 = .ok (.iaload, 1) := by decide +kernel
theorem dX7_here_20 : decode cX7_here 20 = .ok (.goto 4, 3) := by decide +kernel
theorem dX7_here_23 : decode cX7_here 23 = .ok (.iconst (-1), 1) := by decide +kernel
theorem dX7_here_24 : decode cX7_here 24 = .ok (.ireturn, 1) := by decide +kernel
theorem dX7_isFigure_0 : decode cX7_isFigure 0 = .ok (.iload_n 0, 1) := by decide +kernel
theorem dX7_isFigure_1 : decode cX7_isFigure 1 = .ok (.bipush 48, 2) := by decide +kernel
theorem dX7_isFigure_3 : decode cX7_isFigure 3 = .ok (.if_icmp .lt 13, 3) := by decide +kernel
theorem dX7_isFigure_6 : decode cX7_isFigure 6 = .ok (.iload_n 0, 1) := by decide +kernel
theorem dX7_isFigure_7 : decode cX7_isFigure 7 = .ok (.bipush 57, 2) := by decide +kernel
theorem dX7_isFigure_9 : decode cX7_isFigure 9 = .ok (.if_icmp .gt 7, 3) := by decide +kernel
theorem dX7_isFigure_12 : decode cX7_isFigure 12 = .ok (.iconst 1, 1) := by decide +kernel
theorem dX7_isFigure_13 : decode cX7_isFigure 13 = .ok (.goto 4, 3) := by decide +kernel
theorem dX7_isFigure_16 : decode cX7_isFigure 16 = .ok (.iconst 0, 1) := by decide +kernel
theorem dX7_isFigure_17 : decode cX7_isFigure 17 = .ok (.ireturn, 1) := by decide +kernel
theorem dX7_fails_0 : decode cX7_fails 0 = .ok (.aload_n 0, 1) := by decide +kernel
theorem dX7_fails_1 : decode cX7_fails 1 = .ok (.iload_n 1, 1) := by decide +kernel
theorem dX7_fails_2 : decode cX7_fails 2 = .ok (.putfield 22, 3) := by decide +kernel
theorem dX7_fails_5 : decode cX7_fails 5 = .ok (.iconst 0, 1) := by decide +kernel
theorem dX7_fails_6 : decode cX7_fails 6 = .ok (.ireturn, 1) := by decide +kernel
set_option maxRecDepth 20000 in
theorem ggX8_init_X7_init : GoodIn wsX8_init wsX7_init := goodIn_r _ [32, 33, 2, 3, 34, 35, 36, 37, 38, 103, 104, 105, 106] (by decide +kernel) (by decide +kernel)
set_option maxRecDepth 20000 in
theorem gX8_init_X7_init_n17 : GoodIn wsX8_init (wsX7_init) := ggX8_init_X7_init
set_option maxRecDepth 20000 in
theorem ggX8_init_X3_init : GoodIn wsX8_init wsX3_init := goodIn_r _ [40, 41, 2, 3, 42, 43, 44, 45, 34, 46, 47, 48, 49, 50, 107, 108, 109, 110, 111, 112, 113, 114, 115] (by decide +kernel) (by decide +kernel)
set_option maxRecDepth 20000 in
theorem gX8_init_X3_init_n24 : GoodIn wsX8_init (wsX3_init) := ggX8_init_X3_init
set_option maxRecDepth 20000 in
theorem ggX8_init_X0_init : GoodIn wsX8_init wsX0_init := goodIn_r _ [53, 54, 2, 3, 55, 56, 57, 58, 11, 12, 39, 40, 41, 42, 43, 44, 45, 34, 46, 47, 48, 49, 50, 116, 117, 118, 107, 108, 109, 110, 111, 112, 113, 114, 115] (by decide +kernel) (by decide +kernel)
set_option maxRecDepth 20000 in
theorem gX8_init_X0_init : GoodIn wsX8_init (wsX0_init) := ggX8_init_X0_init
set_option maxRecDepth 20000 in
theorem ggX8_init_X2_init : GoodIn wsX8_init wsX2_init := goodIn_r _ [60, 61, 2, 3, 62, 11, 12, 63, 64, 65, 66, 67, 68, 69, 70, 71, 39, 40, 41, 42, 43, 44, 45, 34, 46, 47, 48, 49, 50, 72, 73, 74, 75, 76, 77, 78, 79, 80, 81, 82, 107, 108, 109, 110, 111, 112, 113, 114, 115, 119, 120, 121, 127, 128, 129, 130, 131] (by decide +kernel) (by decide +kernel)
set_option maxRecDepth 20000 in
theorem gX8_init_X2_init_n42 : GoodIn wsX8_init (wsX2_init) := ggX8_init_X2_init
set_option maxRecDepth 20000 in
theorem ggX8_init_X1_init : GoodIn wsX8_init wsX1_init := goodIn_r _ [84, 85, 2, 3, 34, 86, 87, 122, 123] (by decide +kernel) (by decide +kernel)
set_option maxRecDepth 20000 in
theorem gX8_init_X1_init_n49 : GoodIn wsX8_init (wsX1_init) := ggX8_init_X1_init
set_option maxRecDepth 20000 in
theorem ggX8_init_X6_init : GoodIn wsX8_init wsX6_init := goodIn_r _ [89, 90, 2, 3, 34, 91, 92, 93, 124, 125, 126] (by decide +kernel) (by decide +kernel)
set_option maxRecDepth 20000 in
theorem gX8_init_X6_init_n61 : GoodIn wsX8_init (wsX6_init) := ggX8_init_X6_init
theorem dX8_init_0 : decode cX8_init 0 = .ok (.aload_n 0, 1) := by decide +kernel
theorem dX8_init_1 : decode cX8_init 1 = .ok (.invokespecial 1, 3) := by decide +kernel
theorem dX8_init_4 : decode cX8_init 4 = .ok (.aload_n 0, 1) := by decide +kernel
theorem dX8_init_5 : decode cX8_init 5 = .ok (.bipush 8, 2) := by decide +kernel
theorem dX8_init_7 : decode cX8_init 7 = .ok (.anewarray 9, 3) := by decide +kernel
theorem dX8_init_10 : decode cX8_init 10 = .ok (.putfield 11, 3) := by decide +kernel
theorem dX8_init_13 : decode cX8_init 13 = .ok (.aload_n 0, 1) := by decide +kernel
theorem dX8_init_14 : decode cX8_init 14 = .ok (.new 15, 3) := by decide +kernel
theorem dX8_init_17 : decode cX8_init 17 = .ok (.dup, 1) := by decide +kernel
theorem dX8_init_18 : decode cX8_init 18 = .ok (.invokespecial 17, 3) := by decide +kernel
theorem dX8_init_21 : decode cX8_init 21 = .ok (.putfield 18, 3) := by decide +kernel
theorem dX8_init_24 : decode cX8_init 24 = .ok (.aload_n 0, 1) := by decide +kernel
theorem dX8_init_25 : decode cX8_init 25 = .ok (.new 22, 3) := by decide +kernel
theorem dX8_init_28 : decode cX8_init 28 = .ok (.dup, 1) := by decide +kernel
theorem dX8_init_29 : decode cX8_init 29 = .ok (.invokespecial 24, 3) := by decide +kernel
theorem dX8_init_32 : decode cX8_init 32 = .ok (.putfield 25, 3) := by decide +kernel
theorem dX8_init_35 : decode cX8_init 35 = .ok (.aload_n 0, 1) := by decide +kernel
theorem dX8_init_36 : decode cX8_init 36 = .ok (.new 29, 3) := by decide +kernel
theorem dX8_init_39 : decode cX8_init 39 = .ok (.dup, 1) := by decide +kernel
theorem dX8_init_40 : decode cX8_init 40 = .ok (.invokespecial 31, 3) := by decide +kernel
theorem dX8_init_43 : decode cX8_init 43 = .ok (.putfield 32, 3) := by decide +kernel
theorem dX8_init_46 : decode cX8_init 46 = .ok (.aload_n 0, 1) := by decide +kernel
theorem dX8_init_47 : decode cX8_init 47 = .ok (.iconst 2, 1) := by decide +kernel
theorem dX8_init_48 : decode cX8_init 48 = .ok (.anewarray 22, 3) := by decide +kernel
theorem dX8_init_51 : decode cX8_init 51 = .ok (.putfield 36, 3) := by decide +kernel
theorem dX8_init_54 : decode cX8_init 54 = .ok (.aload_n 0, 1) := by decide +kernel
theorem dX8_init_55 : decode cX8_init 55 = .ok (.new 40, 3) := by decide +kernel
theorem dX8_init_58 : decode cX8_init 58 = .ok (.dup, 1) := by decide +kernel
theorem dX8_init_59 : decode cX8_init 59 = .ok (.invokespecial 42, 3) := by decide +kernel
theorem dX8_init_62 : decode cX8_init 62 = .ok (.putfield 43, 3) := by decide +kernel
theorem dX8_init_65 : decode cX8_init 65 = .ok (.aload_n 0, 1) := by decide +kernel
theorem dX8_init_66 : decode cX8_init 66 = .ok (.new 47, 3) := by decide +kernel
theorem dX8_init_69 : decode cX8_init 69 = .ok (.dup, 1) := by decide +kernel
theorem dX8_init_70 : decode cX8_init 70 = .ok (.invokespecial 49, 3) := by decide +kernel
theorem dX8_init_73 : decode cX8_init 73 = .ok (.putfield 50, 3) := by decide +kernel
theorem dX8_init_76 : decode cX8_init 76 = .ok (.aload_n 0, 1) := by decide +kernel
theorem dX8_init_77 : decode cX8_init 77 = .ok (.iconst 0, 1) := by decide +kernel
theorem dX8_init_78 : decode cX8_init 78 = .ok (.putfield 54, 3) := by decide +kernel
theorem dX8_init_81 : decode cX8_init 81 = .ok (.aload_n 0, 1) := by decide +kernel
theorem dX8_init_82 : decode cX8_init 82 = .ok (.iconst 0, 1) := by decide +kernel
theorem dX8_init_83 : decode cX8_init 83 = .ok (.putfield 58, 3) := by decide +kernel
theorem dX8_init_86 : decode cX8_init 86 = .ok (.iconst 0, 1) := by decide +kernel
theorem dX8_init_87 : decode cX8_init 87 = .ok (.istore_n 1, 1) := by decide +kernel
theorem dX8_init_88 : decode cX8_init 88 = .ok (.iload_n 1, 1) := by decide +kernel
theorem dX8_init_89 : decode cX8_init 89 = .ok (.bipush 8, 2) := by decide +kernel
theorem dX8_init_91 : decode cX8_init 91 = .ok (.if_icmp .ge 22, 3) := by decide +kernel
theorem dX8_init_94 : decode cX8_init 94 = .ok (.aload_n 0, 1) := by decide +kernel
theorem dX8_init_95 : decode cX8_init 95 = .ok (.getfield 11, 3) := by decide +kernel
theorem dX8_init_98 : decode cX8_init 98 = .ok (.iload_n 1, 1) := by decide +kernel
theorem dX8_init_99 : decode cX8_init 99 = .ok (.new 9, 3) := by decide +kernel
theorem dX8_init_102 : decode cX8_init 102 = .ok (.dup, 1) := by decide +kernel
theorem dX8_init_103 : decode cX8_init 103 = .ok (.invokespecial 61, 3) := by decide +kernel
theorem dX8_init_106 : decode cX8_init 106 = .ok (.aastore, 1) := by decide +kernel
theorem dX8_init_107 : decode cX8_init 107 = .ok (.iinc 1 1, 3) := by decide +kernel
theorem dX8_init_110 : decode cX8_init 110 = .ok (.goto (-22), 3) := by decide +kernel
theorem dX8_init_113 : decode cX8_init 113 = .ok (.iconst 0, 1) := by decide +kernel
theorem dX8_init_114 : decode cX8_init 114 = .ok (.istore_n 1, 1) := by decide +kernel
theorem dX8_init_115 : decode cX8_init 115 = .ok (.iload_n 1, 1) := by decide +kernel
theorem dX8_init_116 : decode cX8_init 116 = .ok (.iconst 2, 1) := by decide +kernel
theorem dX8_init_117 : decode cX8_init 117 = .ok (.if_icmp .ge 22, 3) := by decide +kernel
theorem dX8_init_120 : decode cX8_init 120 = .ok (.aload_n 0, 1) := by decide +kernel
theorem dX8_init_121 : decode cX8_init 121 = .ok (.getfield 36, 3) := by decide +kernel
theorem dX8_init_124 : decode cX8_init 124 = .ok (.iload_n 1, 1) := by decide +kernel
theorem dX8_init_125 : decode cX8_init 125 = .ok (.new 22, 3) := by decide +kernel
theorem dX8_init_128 : decode cX8_init 128 = .ok (.dup, 1) := by decide +kernel
theorem dX8_init_129 : decode cX8_init 129 = .ok (.invokespecial 24, 3) := by decide +kernel
theorem dX8_init_132 : decode cX8_init 132 = .ok (.aastore, 1) := by decide +kernel
theorem dX8_init_133 : decode cX8_init 133 = .ok (.iinc 1 1, 3) := by decide +kernel
theorem dX8_init_136 : decode cX8_init 136 = .ok (.goto (-21), 3) := by decide +kernel
theorem dX8_init_139 : decode cX8_init 139 = .ok (.return_, 1) := by decide +kernel
set_option maxRecDepth 20000 in
theorem ggX8_row_X8_isRow : GoodIn wsX8_row wsX8_isRow := goodIn_r _ [6, 7, 8, 5, 9] (by decide +kernel) (by decide +kernel)
set_option maxRecDepth 20000 in
theorem gX8_row_X8_isRow : GoodIn wsX8_row (va_wsS RX8 62 yX8_isRow wsX8_isRow) := goodIn_app (goodIn_of _ (by decide +kernel)) ggX8_row_X8_isRow
set_option maxRecDepth 20000 in
theorem ggX8_row_X8_within : GoodIn wsX8_row wsX8_within := goodIn_r _ [9] (by decide +kernel) (by decide +kernel)
set_option maxRecDepth 20000 in
theorem gX8_row_X8_within : GoodIn wsX8_row (va_wsS RX8 66 yX8_within wsX8_within) := goodIn_app (goodIn_of _ (by decide +kernel)) ggX8_row_X8_within
set_option maxRecDepth 20000 in
theorem ggX8_row_X8_found : GoodIn wsX8_row wsX8_found := goodIn_r _ [13, 14, 15, 28, 29, 30, 31, 32, 33, 34, 35, 36] (by decide +kernel) (by decide +kernel)
set_option maxRecDepth 20000 in
theorem gX8_row_X8_found : GoodIn wsX8_row (wsV RX8 71 RX8 yX8_found wsX8_found) := goodIn_app (goodIn_of _ (by decide +kernel)) ggX8_row_X8_found
set_option maxRecDepth 20000 in
theorem ggX8_row_X6_lay : GoodIn wsX8_row wsX6_lay := goodIn_r _ [20, 21, 22, 23, 37, 38, 39] (by decide +kernel) (by decide +kernel)
set_option maxRecDepth 20000 in
theorem gX8_row_X6_lay : GoodIn wsX8_row (wsV RX8 75 RX6 yX6_lay wsX6_lay) := goodIn_app (goodIn_of _ (by decide +kernel)) ggX8_row_X6_lay
set_option maxRecDepth 20000 in
theorem ggX8_row_X8_fine : GoodIn wsX8_row wsX8_fine := goodIn_r _ [27, 14, 28, 29, 30, 31, 32, 33, 34, 35, 36] (by decide +kernel) (by decide +kernel)
set_option maxRecDepth 20000 in
theorem gX8_row_X8_fine : GoodIn wsX8_row (wsV RX8 79 RX8 yX8_fine wsX8_fine) := goodIn_app (goodIn_of _ (by decide +kernel)) ggX8_row_X8_fine
theorem dX8_row_0 : decode cX8_row 0 = .ok (.iload_n 1, 1) := by decide +kernel
theorem dX8_row_1 : decode cX8_row 1 = .ok (.invokestatic 62, 3) := by decide +kernel
theorem dX8_row_4 : decode cX8_row 4 = .ok (.ifCond .eq 18, 3) := by decide +kernel
theorem dX8_row_7 : decode cX8_row 7 = .ok (.iload_n 2, 1) := by decide +kernel
theorem dX8_row_8 : decode cX8_row 8 = .ok (.iconst 0, 1) := by decide +kernel
theorem dX8_row_9 : decode cX8_row 9 = .ok (.iconst 2, 1) := by decide +kernel
theorem dX8_row_10 : decode cX8_row 10 = .ok (.invokestatic 66, 3) := by decide +kernel
theorem dX8_row_13 : decode cX8_row 13 = .ok (.ifCond .eq 9, 3) := by decide +kernel
theorem dX8_row_16 : decode cX8_row 16 = .ok (.iload_n 3, 1) := by decide +kernel
theorem dX8_row_17 : decode cX8_row 17 = .ok (.bipush 40, 2) := by decide +kernel
theorem dX8_row_19 : decode cX8_row 19 = .ok (.if_icmp .le 6, 3) := by decide +kernel
theorem dX8_row_22 : decode cX8_row 22 = .ok (.ldc 70, 2) := by decide +kernel
theorem dX8_row_24 : decode cX8_row 24 = .ok (.ireturn, 1) := by decide +kernel
theorem dX8_row_25 : decode cX8_row 25 = .ok (.iload_n 3, 1) := by decide +kernel
theorem dX8_row_26 : decode cX8_row 26 = .ok (.ifCond .ge 9, 3) := by decide +kernel
theorem dX8_row_29 : decode cX8_row 29 = .ok (.aload_n 0, 1) := by decide +kernel
theorem dX8_row_30 : decode cX8_row 30 = .ok (.iconst 4, 1) := by decide +kernel
theorem dX8_row_31 : decode cX8_row 31 = .ok (.invokevirtual 71, 3) := by decide +kernel
theorem dX8_row_34 : decode cX8_row 34 = .ok (.ireturn, 1) := by decide +kernel
theorem dX8_row_35 : decode cX8_row 35 = .ok (.aload_n 0, 1) := by decide +kernel
theorem dX8_row_36 : decode cX8_row 36 = .ok (.getfield 11, 3) := by decide +kernel
theorem dX8_row_39 : decode cX8_row 39 = .ok (.iload_n 1, 1) := by decide +kernel
theorem dX8_row_40 : decode cX8_row 40 = .ok (.aaload, 1) := by decide +kernel
theorem dX8_row_41 : decode cX8_row 41 = .ok (.iload_n 2, 1) := by decide +kernel
theorem dX8_row_42 : decode cX8_row 42 = .ok (.iload_n 3, 1) := by decide +kernel
theorem dX8_row_43 : decode cX8_row 43 = .ok (.invokevirtual 75, 3) := by decide +kernel
theorem dX8_row_46 : decode cX8_row 46 = .ok (.aload_n 0, 1) := by decide +kernel
theorem dX8_row_47 : decode cX8_row 47 = .ok (.iload_n 3, 1) := by decide +kernel
theorem dX8_row_48 : decode cX8_row 48 = .ok (.invokevirtual 79, 3) := by decide +kernel
theorem dX8_row_51 : decode cX8_row 51 = .ok (.ireturn, 1) := by decide +kernel
set_option maxRecDepth 20000 in
theorem ggX8_set_X8_isRow : GoodIn wsX8_set wsX8_isRow := goodIn_r _ [6, 7, 8, 5, 9] (by decide +kernel) (by decide +kernel)
set_option maxRecDepth 20000 in
theorem gX8_set_X8_isRow : GoodIn wsX8_set (va_wsS RX8 62 yX8_isRow wsX8_isRow) := goodIn_app (goodIn_of _ (by decide +kernel)) ggX8_set_X8_isRow
set_option maxRecDepth 20000 in
theorem ggX8_set_X6_isMissing : GoodIn wsX8_set wsX6_isMissing := goodIn_r _ [14, 15, 45, 46, 47] (by decide +kernel) (by decide +kernel)
set_option maxRecDepth 20000 in
theorem gX8_set_X6_isMissing : GoodIn wsX8_set (wsV RX8 82 RX6 yX6_isMissing wsX6_isMissing) := goodIn_app (goodIn_of _ (by decide +kernel)) ggX8_set_X6_isMissing
set_option maxRecDepth 20000 in
theorem ggX8_set_X8_found : GoodIn wsX8_set wsX8_found := goodIn_r _ [19, 20, 21, 36, 37, 38, 39, 40, 41, 42, 43, 44] (by decide +kernel) (by decide +kernel)
set_option maxRecDepth 20000 in
theorem gX8_set_X8_found : GoodIn wsX8_set (wsV RX8 71 RX8 yX8_found wsX8_found) := goodIn_app (goodIn_of _ (by decide +kernel)) ggX8_set_X8_found
set_option maxRecDepth 20000 in
theorem ggX8_set_X6_holds : GoodIn wsX8_set wsX6_holds := goodIn_r _ [25, 15, 45, 46, 47] (by decide +kernel) (by decide +kernel)
set_option maxRecDepth 20000 in
theorem gX8_set_X6_holds : GoodIn wsX8_set (wsV RX8 86 RX6 yX6_holds wsX6_holds) := goodIn_app (goodIn_of _ (by decide +kernel)) ggX8_set_X6_holds
set_option maxRecDepth 20000 in
theorem ggX8_set_X6_put : GoodIn wsX8_set wsX6_put := goodIn_r _ [29, 30, 31, 45, 46, 47] (by decide +kernel) (by decide +kernel)
set_option maxRecDepth 20000 in
theorem gX8_set_X6_put : GoodIn wsX8_set (wsV RX8 90 RX6 yX6_put wsX6_put) := goodIn_app (goodIn_of _ (by decide +kernel)) ggX8_set_X6_put
set_option maxRecDepth 20000 in
theorem ggX8_set_X8_fine : GoodIn wsX8_set wsX8_fine := goodIn_r _ [35, 20, 36, 37, 38, 39, 40, 41, 42, 43, 44] (by decide +kernel) (by decide +kernel)
set_option maxRecDepth 20000 in
theorem gX8_set_X8_fine : GoodIn wsX8_set (wsV RX8 79 RX8 yX8_fine wsX8_fine) := goodIn_app (goodIn_of _ (by decide +kernel)) ggX8_set_X8_fine
theorem dX8_set_0 : decode cX8_set 0 = .ok (.iload_n 1, 1) := by decide +kernel
theorem dX8_set_1 : decode cX8_set 1 = .ok (.invokestatic 62, 3) := by decide +kernel
theorem dX8_set_4 : decode cX8_set 4 = .ok (.ifCond .ne 6, 3) := by decide +kernel
theorem dX8_set_7 : decode cX8_set 7 = .ok (.ldc 70, 2) := by decide +kernel
theorem dX8_set_9 : decode cX8_set 9 = .ok (.ireturn, 1) := by decide +kernel
theorem dX8_set_10 : decode cX8_set 10 = .ok (.aload_n 0, 1) := by decide +kernel
theorem dX8_set_11 : decode cX8_set 11 = .ok (.getfield 11, 3) := by decide +kernel
theorem dX8_set_14 : decode cX8_set 14 = .ok (.iload_n 1, 1) := by decide +kernel
theorem dX8_set_15 : decode cX8_set 15 = .ok (.aaload, 1) := by decide +kernel
theorem dX8_set_16 : decode cX8_set 16 = .ok (.invokevirtual 82, 3) := by decide +kernel
theorem dX8_set_19 : decode cX8_set 19 = .ok (.ifCond .eq 9, 3) := by decide +kernel
theorem dX8_set_22 : decode cX8_set 22 = .ok (.aload_n 0, 1) := by decide +kernel
theorem dX8_set_23 : decode cX8_set 23 = .ok (.iconst 1, 1) := by decide +kernel
theorem dX8_set_24 : decode cX8_set 24 = .ok (.invokevirtual 71, 3) := by decide +kernel
theorem dX8_set_27 : decode cX8_set 27 = .ok (.ireturn, 1) := by decide +kernel
theorem dX8_set_28 : decode cX8_set 28 = .ok (.aload_n 0, 1) := by decide +kernel
theorem dX8_set_29 : decode cX8_set 29 = .ok (.getfield 11, 3) := by decide +kernel
theorem dX8_set_32 : decode cX8_set 32 = .ok (.iload_n 1, 1) := by decide +kernel
theorem dX8_set_33 : decode cX8_set 33 = .ok (.aaload, 1) := by decide +kernel
theorem dX8_set_34 : decode cX8_set 34 = .ok (.iload_n 2, 1) := by decide +kernel
theorem dX8_set_35 : decode cX8_set 35 = .ok (.iconst 1, 1) := by decide +kernel
theorem dX8_set_36 : decode cX8_set 36 = .ok (.invokevirtual 86, 3) := by decide +kernel
theorem dX8_set_39 : decode cX8_set 39 = .ok (.ifCond .ne 9, 3) := by decide +kernel
theorem dX8_set_42 : decode cX8_set 42 = .ok (.aload_n 0, 1) := by decide +kernel
theorem dX8_set_43 : decode cX8_set 43 = .ok (.iconst 2, 1) := by decide +kernel
theorem dX8_set_44 : decode cX8_set 44 = .ok (.invokevirtual 71, 3) := by decide +kernel
theorem dX8_set_47 : decode cX8_set 47 = .ok (.ireturn, 1) := by decide +kernel
theorem dX8_set_48 : decode cX8_set 48 = .ok (.aload_n 0, 1) := by decide +kernel
theorem dX8_set_49 : decode cX8_set 49 = .ok (.aload_n 0, 1) := by decide +kernel
theorem dX8_set_50 : decode cX8_set 50 = .ok (.getfield 11, 3) := by decide +kernel
theorem dX8_set_53 : decode cX8_set 53 = .ok (.iload_n 1, 1) := by decide +kernel
theorem dX8_set_54 : decode cX8_set 54 = .ok (.aaload, 1) := by decide +kernel
theorem dX8_set_55 : decode cX8_set 55 = .ok (.iload_n 2, 1) := by decide +kernel
theorem dX8_set_56 : decode cX8_set 56 = .ok (.iload_n 3, 1) := by decide +kernel
theorem dX8_set_57 : decode cX8_set 57 = .ok (.invokevirtual 90, 3) := by decide +kernel
theorem dX8_set_60 : decode cX8_set 60 = .ok (.invokevirtual 79, 3) := by decide +kernel
theorem dX8_set_63 : decode cX8_set 63 = .ok (.ireturn, 1) := by decide +kernel
set_option maxRecDepth 20000 in
theorem ggX8_copy_X8_isRow : GoodIn wsX8_copy wsX8_isRow := goodIn_r _ [12, 13, 14, 11, 15] (by decide +kernel) (by decide +kernel)
set_option maxRecDepth 20000 in
theorem gX8_copy_X8_isRow : GoodIn wsX8_copy (va_wsS RX8 62 yX8_isRow wsX8_isRow) := goodIn_app (goodIn_of _ (by decide +kernel)) ggX8_copy_X8_isRow
set_option maxRecDepth 20000 in
theorem ggX8_copy_X6_isMissing : GoodIn wsX8_copy wsX6_isMissing := goodIn_r _ [20, 21, 45, 46, 47] (by decide +kernel) (by decide +kernel)
set_option maxRecDepth 20000 in
theorem gX8_copy_X6_isMissing : GoodIn wsX8_copy (wsV RX8 82 RX6 yX6_isMissing wsX6_isMissing) := goodIn_app (goodIn_of _ (by decide +kernel)) ggX8_copy_X6_isMissing
set_option maxRecDepth 20000 in
theorem ggX8_copy_X8_found : GoodIn wsX8_copy wsX8_found := goodIn_r _ [25, 26, 27, 36, 37, 38, 39, 40, 41, 42, 43, 44] (by decide +kernel) (by decide +kernel)
set_option maxRecDepth 20000 in
theorem gX8_copy_X8_found : GoodIn wsX8_copy (wsV RX8 71 RX8 yX8_found wsX8_found) := goodIn_app (goodIn_of _ (by decide +kernel)) ggX8_copy_X8_found
set_option maxRecDepth 20000 in
theorem ggX8_copy_X6_holds : GoodIn wsX8_copy wsX6_holds := goodIn_r _ [31, 21, 45, 46, 47] (by decide +kernel) (by decide +kernel)
set_option maxRecDepth 20000 in
theorem gX8_copy_X6_holds : GoodIn wsX8_copy (wsV RX8 86 RX6 yX6_holds wsX6_holds) := goodIn_app (goodIn_of _ (by decide +kernel)) ggX8_copy_X6_holds
set_option maxRecDepth 20000 in
theorem ggX8_copy_X8_fine : GoodIn wsX8_copy wsX8_fine := goodIn_r _ [35, 26, 36, 37, 38, 39, 40, 41, 42, 43, 44] (by decide +kernel) (by decide +kernel)
set_option maxRecDepth 20000 in
theorem gX8_copy_X8_fine : GoodIn wsX8_copy (wsV RX8 79 RX8 yX8_fine wsX8_fine) := goodIn_app (goodIn_of _ (by decide +kernel)) ggX8_copy_X8_fine
theorem dX8_copy_0 : decode cX8_copy 0 = .ok (.iload_n 1, 1) := by decide +kernel
theorem dX8_copy_1 : decode cX8_copy 1 = .ok (.invokestatic 62, 3) := by decide +kernel
theorem dX8_copy_4 : decode cX8_copy 4 = .ok (.ifCond .eq 10, 3) := by decide +kernel
theorem dX8_copy_7 : decode cX8_copy 7 = .ok (.iload_n 3, 1) := by decide +kernel
theorem dX8_copy_8 : decode cX8_copy 8 = .ok (.invokestatic 62, 3) := by decide +kernel
theorem dX8_copy_11 : decode cX8_copy 11 = .ok (.ifCond .ne 6, 3) := by decide +kernel
theorem dX8_copy_14 : decode cX8_copy 14 = .ok (.ldc 70, 2) := by decide +kernel
theorem dX8_copy_16 : decode cX8_copy 16 = .ok (.ireturn, 1) := by decide +kernel
theorem dX8_copy_17 : decode cX8_copy 17 = .ok (.aload_n 0, 1) := by decide +kernel
theorem dX8_copy_18 : decode cX8_copy 18 = .ok (.getfield 11, 3) := by decide +kernel
theorem dX8_copy_21 : decode cX8_copy 21 = .ok (.iload_n 1, 1) := by decide +kernel
theorem dX8_copy_22 : decode cX8_copy 22 = .ok (.aaload, 1) := by decide +kernel
theorem dX8_copy_23 : decode cX8_copy 23 = .ok (.invokevirtual 82, 3) := by decide +kernel
theorem dX8_copy_26 : decode cX8_copy 26 = .ok (.ifCond .ne 15, 3) := by decide +kernel
theorem dX8_copy_29 : decode cX8_copy 29 = .ok (.aload_n 0, 1) := by decide +kernel
theorem dX8_copy_30 : decode cX8_copy 30 = .ok (.getfield 11, 3) := by decide +kernel
theorem dX8_copy_33 : decode cX8_copy 33 = .ok (.iload_n 3, 1) := by decide +kernel
theorem dX8_copy_34 : decode cX8_copy 34 = .ok (.aaload, 1) := by decide +kernel
theorem dX8_copy_35 : decode cX8_copy 35 = .ok (.invokevirtual 82, 3) := by decide +kernel
theorem dX8_copy_38 : decode cX8_copy 38 = .ok (.ifCond .eq 9, 3) := by decide +kernel
theorem dX8_copy_41 : decode cX8_copy 41 = .ok (.aload_n 0, 1) := by decide +kernel
theorem dX8_copy_42 : decode cX8_copy 42 = .ok (.iconst 1, 1) := by decide +kernel
theorem dX8_copy_43 : decode cX8_copy 43 = .ok (.invokevirtual 71, 3) := by decide +kernel
theorem dX8_copy_46 : decode cX8_copy 46 = .ok (.ireturn, 1) := by decide +kernel
theorem dX8_copy_47 : decode cX8_copy 47 = .ok (.aload_n 0, 1) := by decide +kernel
theorem dX8_copy_48 : decode cX8_copy 48 = .ok (.getfield 11, 3) := by decide +kernel
theorem dX8_copy_51 : decode cX8_copy 51 = .ok (.iload_n 1, 1) := by decide +kernel
theorem dX8_copy_52 : decode cX8_copy 52 = .ok (.aaload, 1) := by decide +kernel
theorem dX8_copy_53 : decode cX8_copy 53 = .ok (.getfield 94, 3) := by decide +kernel
theorem dX8_copy_56 : decode cX8_copy 56 = .ok (.aload_n 0, 1) := by decide +kernel
theorem dX8_copy_57 : decode cX8_copy 57 = .ok (.getfield 11, 3) := by decide +kernel
theorem dX8_copy_60 : decode cX8_copy 60 = .ok (.iload_n 3, 1) := by decide +kernel
theorem dX8_copy_61 : decode cX8_copy 61 = .ok (.aaload, 1) := by decide +kernel
theorem dX8_copy_62 : decode cX8_copy 62 = .ok (.getfield 94, 3) := by decide +kernel
theorem dX8_copy_65 : decode cX8_copy 65 = .ok (.if_icmp .eq 9, 3) := by decide +kernel
theorem dX8_copy_68 : decode cX8_copy 68 = .ok (.aload_n 0, 1) := by decide +kernel
theorem dX8_copy_69 : decode cX8_copy 69 = .ok (.iconst 5, 1) := by decide +kernel
theorem dX8_copy_70 : decode cX8_copy 70 = .ok (.invokevirtual 71, 3) := by decide +kernel
theorem dX8_copy_73 : decode cX8_copy 73 = .ok (.ireturn, 1) := by decide +kernel
theorem dX8_copy_74 : decode cX8_copy 74 = .ok (.aload_n 0, 1) := by decide +kernel
theorem dX8_copy_75 : decode cX8_copy 75 = .ok (.getfield 11, 3) := by decide +kernel
theorem dX8_copy_78 : decode cX8_copy 78 = .ok (.iload_n 1, 1) := by decide +kernel
theorem dX8_copy_79 : decode cX8_copy 79 = .ok (.aaload, 1) := by decide +kernel
theorem dX8_copy_80 : decode cX8_copy 80 = .ok (.iload_n 2, 1) := by decide +kernel
theorem dX8_copy_81 : decode cX8_copy 81 = .ok (.iload 5, 2) := by decide +kernel
theorem dX8_copy_83 : decode cX8_copy 83 = .ok (.invokevirtual 86, 3) := by decide +kernel
theorem dX8_copy_86 : decode cX8_copy 86 = .ok (.ifCond .eq 19, 3) := by decide +kernel
theorem dX8_copy_89 : decode cX8_copy 89 = .ok (.aload_n 0, 1) := by decide +kernel
theorem dX8_copy_90 : decode cX8_copy 90 = .ok (.getfield 11, 3) := by decide +kernel
theorem dX8_copy_93 : decode cX8_copy 93 = .ok (.iload_n 3, 1) := by decide +kernel
theorem dX8_copy_94 : decode cX8_copy 94 = .ok (.aaload, 1) := by decide +kernel
theorem dX8_copy_95 : decode cX8_copy 95 = .ok (.iload 4, 2) := by decide +kernel
theorem dX8_copy_97 : decode cX8_copy 97 = .ok (.iload 5, 2) := by decide +kernel
theorem dX8_copy_99 : decode cX8_copy 99 = .ok (.invokevirtual 86, 3) := by decide +kernel
theorem dX8_copy_102 : decode cX8_copy 102 = .ok (.ifCond .ne 9, 3) := by decide +kernel
theorem dX8_copy_105 : decode cX8_copy 105 = .ok (.aload_n 0, 1) := by decide +kernel
theorem dX8_copy_106 : decode cX8_copy 106 = .ok (.iconst 2, 1) := by decide +kernel
theorem dX8_copy_107 : decode cX8_copy 107 = .ok (.invokevirtual 71, 3) := by decide +kernel
theorem dX8_copy_110 : decode cX8_copy 110 = .ok (.ireturn, 1) := by decide +kernel
theorem dX8_copy_111 : decode cX8_copy 111 = .ok (.aload_n 0, 1) := by decide +kernel
theorem dX8_copy_112 : decode cX8_copy 112 = .ok (.getfield 11, 3) := by decide +kernel
theorem dX8_copy_115 : decode cX8_copy 115 = .ok (.iload_n 1, 1) := by decide +kernel
theorem dX8_copy_116 : decode cX8_copy 116 = .ok (.aaload, 1) := by decide +kernel
theorem dX8_copy_117 : decode cX8_copy 117 = .ok (.getfield 97, 3) := by decide +kernel
theorem dX8_copy_120 : decode cX8_copy 120 = .ok (.iload_n 2, 1) := by decide +kernel
theorem dX8_copy_121 : decode cX8_copy 121 = .ok (.aload_n 0, 1) := by decide +kernel
theorem dX8_copy_122 : decode cX8_copy 122 = .ok (.getfield 11, 3) := by decide +kernel
theorem dX8_copy_125 : decode cX8_copy 125 = .ok (.iload_n 3, 1) := by decide +kernel
theorem dX8_copy_126 : decode cX8_copy 126 = .ok (.aaload, 1) := by decide +kernel
theorem dX8_copy_127 : decode cX8_copy 127 = .ok (.getfield 97, 3) := by decide +kernel
theorem dX8_copy_130 : decode cX8_copy 130 = .ok (.iload 4, 2) := by decide +kernel
theorem dX8_copy_132 : decode cX8_copy 132 = .ok (.iload 5, 2) := by decide +kernel
theorem dX8_copy_134 : decode cX8_copy 134 = .ok (.invokestatic 101, 3) := by decide +kernel
theorem dX8_copy_137 : decode cX8_copy 137 = .ok (.aload_n 0, 1) := by decide +kernel
theorem dX8_copy_138 : decode cX8_copy 138 = .ok (.iload 5, 2) := by decide +kernel
theorem dX8_copy_140 : decode cX8_copy 140 = .ok (.invokevirtual 79, 3) := by decide +kernel
theorem dX8_copy_143 : decode cX8_copy 143 = .ok (.ireturn, 1) := by decide +kernel
set_option maxRecDepth 20000 in
theorem ggX8_drop_X8_isRow : GoodIn wsX8_drop wsX8_isRow := goodIn_r _ [6, 7, 8, 5, 9] (by decide +kernel) (by decide +kernel)
set_option maxRecDepth 20000 in
theorem gX8_drop_X8_isRow : GoodIn wsX8_drop (va_wsS RX8 62 yX8_isRow wsX8_isRow) := goodIn_app (goodIn_of _ (by decide +kernel)) ggX8_drop_X8_isRow
set_option maxRecDepth 20000 in
theorem ggX8_drop_X6_isMissing : GoodIn wsX8_drop wsX6_isMissing := goodIn_r _ [14, 15, 39, 40, 41] (by decide +kernel) (by decide +kernel)
set_option maxRecDepth 20000 in
theorem gX8_drop_X6_isMissing : GoodIn wsX8_drop (wsV RX8 82 RX6 yX6_isMissing wsX6_isMissing) := goodIn_app (goodIn_of _ (by decide +kernel)) ggX8_drop_X6_isMissing
set_option maxRecDepth 20000 in
theorem ggX8_drop_X8_found : GoodIn wsX8_drop wsX8_found := goodIn_r _ [19, 20, 21, 30, 31, 32, 33, 34, 35, 36, 37, 38] (by decide +kernel) (by decide +kernel)
set_option maxRecDepth 20000 in
theorem gX8_drop_X8_found : GoodIn wsX8_drop (wsV RX8 71 RX8 yX8_found wsX8_found) := goodIn_app (goodIn_of _ (by decide +kernel)) ggX8_drop_X8_found
set_option maxRecDepth 20000 in
theorem ggX8_drop_X6_clear : GoodIn wsX8_drop wsX6_clear := goodIn_r _ [25, 15, 39, 40, 41] (by decide +kernel) (by decide +kernel)
set_option maxRecDepth 20000 in
theorem gX8_drop_X6_clear : GoodIn wsX8_drop (wsV RX8 107 RX6 yX6_clear wsX6_clear) := goodIn_app (goodIn_of _ (by decide +kernel)) ggX8_drop_X6_clear
set_option maxRecDepth 20000 in
theorem ggX8_drop_X8_fine : GoodIn wsX8_drop wsX8_fine := goodIn_r _ [29, 20, 30, 31, 32, 33, 34, 35, 36, 37, 38] (by decide +kernel) (by decide +kernel)
set_option maxRecDepth 20000 in
theorem gX8_drop_X8_fine : GoodIn wsX8_drop (wsV RX8 79 RX8 yX8_fine wsX8_fine) := goodIn_app (goodIn_of _ (by decide +kernel)) ggX8_drop_X8_fine
theorem dX8_drop_0 : decode cX8_drop 0 = .ok (.iload_n 1, 1) := by decide +kernel
theorem dX8_drop_1 : decode cX8_drop 1 = .ok (.invokestatic 62, 3) := by decide +kernel
theorem dX8_drop_4 : decode cX8_drop 4 = .ok (.ifCond .ne 6, 3) := by decide +kernel
theorem dX8_drop_7 : decode cX8_drop 7 = .ok (.ldc 70, 2) := by decide +kernel
theorem dX8_drop_9 : decode cX8_drop 9 = .ok (.ireturn, 1) := by decide +kernel
theorem dX8_drop_10 : decode cX8_drop 10 = .ok (.aload_n 0, 1) := by decide +kernel
theorem dX8_drop_11 : decode cX8_drop 11 = .ok (.getfield 11, 3) := by decide +kernel
theorem dX8_drop_14 : decode cX8_drop 14 = .ok (.iload_n 1, 1) := by decide +kernel
theorem dX8_drop_15 : decode cX8_drop 15 = .ok (.aaload, 1) := by decide +kernel
theorem dX8_drop_16 : decode cX8_drop 16 = .ok (.invokevirtual 82, 3) := by decide +kernel
theorem dX8_drop_19 : decode cX8_drop 19 = .ok (.ifCond .eq 9, 3) := by decide +kernel
theorem dX8_drop_22 : decode cX8_drop 22 = .ok (.aload_n 0, 1) := by decide +kernel
theorem dX8_drop_23 : decode cX8_drop 23 = .ok (.iconst 1, 1) := by decide +kernel
theorem dX8_drop_24 : decode cX8_drop 24 = .ok (.invokevirtual 71, 3) := by decide +kernel
theorem dX8_drop_27 : decode cX8_drop 27 = .ok (.ireturn, 1) := by decide +kernel
theorem dX8_drop_28 : decode cX8_drop 28 = .ok (.aload_n 0, 1) := by decide +kernel
theorem dX8_drop_29 : decode cX8_drop 29 = .ok (.aload_n 0, 1) := by decide +kernel
theorem dX8_drop_30 : decode cX8_drop 30 = .ok (.getfield 11, 3) := by decide +kernel
theorem dX8_drop_33 : decode cX8_drop 33 = .ok (.iload_n 1, 1) := by decide +kernel
theorem dX8_drop_34 : decode cX8_drop 34 = .ok (.aaload, 1) := by decide +kernel
theorem dX8_drop_35 : decode cX8_drop 35 = .ok (.invokevirtual 107, 3) := by decide +kernel
theorem dX8_drop_38 : decode cX8_drop 38 = .ok (.invokevirtual 79, 3) := by decide +kernel
theorem dX8_drop_41 : decode cX8_drop 41 = .ok (.ireturn, 1) := by decide +kernel
set_option maxRecDepth 20000 in
theorem ggX8_feed_X8_within : GoodIn wsX8_feed wsX8_within := goodIn_r _ [8] (by decide +kernel) (by decide +kernel)
set_option maxRecDepth 20000 in
theorem gX8_feed_X8_within : GoodIn wsX8_feed (va_wsS RX8 66 yX8_within wsX8_within) := goodIn_app (goodIn_of _ (by decide +kernel)) ggX8_feed_X8_within
set_option maxRecDepth 20000 in
theorem ggX8_feed_X7_add : GoodIn wsX8_feed wsX7_add := goodIn_r _ [13, 14, 15, 25, 26, 27, 28] (by decide +kernel) (by decide +kernel)
set_option maxRecDepth 20000 in
theorem gX8_feed_X7_add : GoodIn wsX8_feed (wsV RX8 111 RX7 yX7_add wsX7_add) := goodIn_app (goodIn_of _ (by decide +kernel)) ggX8_feed_X7_add
theorem dX8_feed_0 : decode cX8_feed 0 = .ok (.iload_n 1, 1) := by decide +kernel
theorem dX8_feed_1 : decode cX8_feed 1 = .ok (.iconst 0, 1) := by decide +kernel
theorem dX8_feed_2 : decode cX8_feed 2 = .ok (.sipush 255, 3) := by decide +kernel
theorem dX8_feed_5 : decode cX8_feed 5 = .ok (.invokestatic 66, 3) := by decide +kernel
theorem dX8_feed_8 : decode cX8_feed 8 = .ok (.ifCond .ne 6, 3) := by decide +kernel
theorem dX8_feed_11 : decode cX8_feed 11 = .ok (.ldc 70, 2) := by decide +kernel
theorem dX8_feed_13 : decode cX8_feed 13 = .ok (.ireturn, 1) := by decide +kernel
theorem dX8_feed_14 : decode cX8_feed 14 = .ok (.aload_n 0, 1) := by decide +kernel
theorem dX8_feed_15 : decode cX8_feed 15 = .ok (.getfield 18, 3) := by decide +kernel
theorem dX8_feed_18 : decode cX8_feed 18 = .ok (.iload_n 1, 1) := by decide +kernel
theorem dX8_feed_19 : decode cX8_feed 19 = .ok (.invokevirtual 111, 3) := by decide +kernel
theorem dX8_feed_22 : decode cX8_feed 22 = .ok (.ifCond .eq 13, 3) := by decide +kernel
theorem dX8_feed_25 : decode cX8_feed 25 = .ok (.aload_n 0, 1) := by decide +kernel
theorem dX8_feed_26 : decode cX8_feed 26 = .ok (.getfield 18, 3) := by decide +kernel
theorem dX8_feed_29 : decode cX8_feed 29 = .ok (.getfield 114, 3) := by decide +kernel
theorem dX8_feed_32 : decode cX8_feed 32 = .ok (.goto 5, 3) := by decide +kernel
theorem dX8_feed_35 : decode cX8_feed 35 = .ok (.ldc 117, 2) := by decide +kernel
theorem dX8_feed_37 : decode cX8_feed 37 = .ok (.ireturn, 1) := by decide +kernel
set_option maxRecDepth 20000 in
theorem ggX8_ministry_X7_readInto : GoodIn wsX8_ministry wsX7_readInto := goodIn_r _ [16, 17, 18, 19, 20, 15, 21, 22, 23, 24, 25, 26, 27, 28, 29, 30, 31, 32, 33, 34, 35, 36, 37, 38, 39, 40, 41, 42, 43, 44, 45, 46, 47, 48, 49, 50, 51, 52, 53, 54, 55, 56, 57, 58, 59, 60, 61, 62, 63, 64, 65, 66, 67, 68, 69, 70, 71, 72, 73, 74, 75, 76, 77, 104, 105, 106, 107, 108, 109, 110, 111, 112, 113, 114, 115, 116] (by decide +kernel) (by decide +kernel)
set_option maxRecDepth 20000 in
theorem gX8_ministry_X7_readInto : GoodIn wsX8_ministry (wsV RX8 121 RX7 yX7_readInto wsX7_readInto) := goodIn_app (goodIn_of _ (by decide +kernel)) ggX8_ministry_X7_readInto
set_option maxRecDepth 20000 in
theorem ggX8_ministry_X3_become : GoodIn wsX8_ministry wsX3_become := goodIn_r _ [81, 52, 53, 54, 55, 73, 82, 83, 84, 85, 74, 75, 76, 77, 108, 109, 110, 111, 112, 113, 114, 115, 116] (by decide +kernel) (by decide +kernel)
set_option maxRecDepth 20000 in
theorem gX8_ministry_X3_become : GoodIn wsX8_ministry (wsV RX8 132 RX3 yX3_become wsX3_become) := goodIn_app (goodIn_of _ (by decide +kernel)) ggX8_ministry_X3_become
set_option maxRecDepth 20000 in
theorem ggX8_ministry_X0_forget : GoodIn wsX8_ministry wsX0_forget := goodIn_r _ [90, 91, 117, 118, 119] (by decide +kernel) (by decide +kernel)
set_option maxRecDepth 20000 in
theorem gX8_ministry_X0_forget : GoodIn wsX8_ministry (wsV RX8 136 RX0 yX0_forget wsX0_forget) := goodIn_app (goodIn_of _ (by decide +kernel)) ggX8_ministry_X0_forget
theorem dX8_ministry_0 : decode cX8_ministry 0 = .ok (.aload_n 0, 1) := by decide +kernel
theorem dX8_ministry_1 : decode cX8_ministry 1 = .ok (.getfield 43, 3) := by decide +kernel
theorem dX8_ministry_4 : decode cX8_ministry 4 = .ok (.getfield 118, 3) := by decide +kernel
theorem dX8_ministry_7 : decode cX8_ministry 7 = .ok (.astore_n 1, 1) := by decide +kernel
theorem dX8_ministry_8 : decode cX8_ministry 8 = .ok (.aload_n 0, 1) := by decide +kernel
theorem dX8_ministry_9 : decode cX8_ministry 9 = .ok (.getfield 18, 3) := by decide +kernel
theorem dX8_ministry_12 : decode cX8_ministry 12 = .ok (.aload_n 1, 1) := by decide +kernel
theorem dX8_ministry_13 : decode cX8_ministry 13 = .ok (.invokevirtual 121, 3) := by decide +kernel
theorem dX8_ministry_16 : decode cX8_ministry 16 = .ok (.istore_n 2, 1) := by decide +kernel
theorem dX8_ministry_17 : decode cX8_ministry 17 = .ok (.aload_n 0, 1) := by decide +kernel
theorem dX8_ministry_18 : decode cX8_ministry 18 = .ok (.getfield 18, 3) := by decide +kernel
theorem dX8_ministry_21 : decode cX8_ministry 21 = .ok (.iconst 0, 1) := by decide +kernel
theorem dX8_ministry_22 : decode cX8_ministry 22 = .ok (.putfield 114, 3) := by decide +kernel
theorem dX8_ministry_25 : decode cX8_ministry 25 = .ok (.iload_n 2, 1) := by decide +kernel
theorem dX8_ministry_26 : decode cX8_ministry 26 = .ok (.ifCond .ne 25, 3) := by decide +kernel
theorem dX8_ministry_29 : decode cX8_ministry 29 = .ok (.aload_n 0, 1) := by decide +kernel
theorem dX8_ministry_30 : decode cX8_ministry 30 = .ok (.aload_n 0, 1) := by decide +kernel
theorem dX8_ministry_31 : decode cX8_ministry 31 = .ok (.getfield 18, 3) := by decide +kernel
theorem dX8_ministry_34 : decode cX8_ministry 34 = .ok (.getfield 125, 3) := by decide +kernel
theorem dX8_ministry_37 : decode cX8_ministry 37 = .ok (.putfield 54, 3) := by decide +kernel
theorem dX8_ministry_40 : decode cX8_ministry 40 = .ok (.ldc 128, 2) := by decide +kernel
theorem dX8_ministry_42 : decode cX8_ministry 42 = .ok (.aload_n 0, 1) := by decide +kernel
theorem dX8_ministry_43 : decode cX8_ministry 43 = .ok (.getfield 18, 3) := by decide +kernel
theorem dX8_ministry_46 : decode cX8_ministry 46 = .ok (.getfield 129, 3) := by decide +kernel
theorem dX8_ministry_49 : decode cX8_ministry 49 = .ok (.isub, 1) := by decide +kernel
theorem dX8_ministry_50 : decode cX8_ministry 50 = .ok (.ireturn, 1) := by decide +kernel
theorem dX8_ministry_51 : decode cX8_ministry 51 = .ok (.aload_n 0, 1) := by decide +kernel
theorem dX8_ministry_52 : decode cX8_ministry 52 = .ok (.getfield 25, 3) := by decide +kernel
theorem dX8_ministry_55 : decode cX8_ministry 55 = .ok (.aload_n 1, 1) := by decide +kernel
theorem dX8_ministry_56 : decode cX8_ministry 56 = .ok (.invokevirtual 132, 3) := by decide +kernel
theorem dX8_ministry_59 : decode cX8_ministry 59 = .ok (.aload_n 0, 1) := by decide +kernel
theorem dX8_ministry_60 : decode cX8_ministry 60 = .ok (.getfield 32, 3) := by decide +kernel
theorem dX8_ministry_63 : decode cX8_ministry 63 = .ok (.invokevirtual 136, 3) := by decide +kernel
theorem dX8_ministry_66 : decode cX8_ministry 66 = .ok (.aload_n 0, 1) := by decide +kernel
theorem dX8_ministry_67 : decode cX8_ministry 67 = .ok (.getfield 25, 3) := by decide +kernel
theorem dX8_ministry_70 : decode cX8_ministry 70 = .ok (.getfield 139, 3) := by decide +kernel
theorem dX8_ministry_73 : decode cX8_ministry 73 = .ok (.ireturn, 1) := by decide +kernel
theorem dX8_fault_0 : decode cX8_fault 0 = .ok (.aload_n 0, 1) := by decide +kernel
theorem dX8_fault_1 : decode cX8_fault 1 = .ok (.getfield 54, 3) := by decide +kernel
theorem dX8_fault_4 : decode cX8_fault 4 = .ok (.ireturn, 1) := by decide +kernel
set_option maxRecDepth 20000 in
theorem ggX8_undo_X0_takeBack : GoodIn wsX8_undo wsX0_takeBack := goodIn_r _ [9, 10, 11, 12, 13, 14, 15, 16, 17, 18, 19, 20, 21, 22, 23, 24, 25, 26, 27, 28, 29, 30, 40, 41, 42, 43, 44, 45, 46, 47, 48, 49, 50, 51] (by decide +kernel) (by decide +kernel)
set_option maxRecDepth 20000 in
theorem gX8_undo_X0_takeBack : GoodIn wsX8_undo (wsV RX8 146 RX0 yX0_takeBack wsX0_takeBack) := goodIn_app (goodIn_of _ (by decide +kernel)) ggX8_undo_X0_takeBack
theorem dX8_undo_0 : decode cX8_undo 0 = .ok (.aload_n 0, 1) := by decide +kernel
theorem dX8_undo_1 : decode cX8_undo 1 = .ok (.getfield 32, 3) := by decide +kernel
theorem dX8_undo_4 : decode cX8_undo 4 = .ok (.getfield 142, 3) := by decide +kernel
theorem dX8_undo_7 : decode cX8_undo 7 = .ok (.ifCond .ne 6, 3) := by decide +kernel
theorem dX8_undo_10 : decode cX8_undo 10 = .ok (.ldc 145, 2) := by decide +kernel
theorem dX8_undo_12 : decode cX8_undo 12 = .ok (.ireturn, 1) := by decide +kernel
theorem dX8_undo_13 : decode cX8_undo 13 = .ok (.aload_n 0, 1) := by decide +kernel
theorem dX8_undo_14 : decode cX8_undo 14 = .ok (.getfield 32, 3) := by decide +kernel
theorem dX8_undo_17 : decode cX8_undo 17 = .ok (.aload_n 0, 1) := by decide +kernel
theorem dX8_undo_18 : decode cX8_undo 18 = .ok (.getfield 25, 3) := by decide +kernel
theorem dX8_undo_21 : decode cX8_undo 21 = .ok (.invokevirtual 146, 3) := by decide +kernel
theorem dX8_undo_24 : decode cX8_undo 24 = .ok (.aload_n 0, 1) := by decide +kernel
theorem dX8_undo_25 : decode cX8_undo 25 = .ok (.getfield 32, 3) := by decide +kernel
theorem dX8_undo_28 : decode cX8_undo 28 = .ok (.getfield 142, 3) := by decide +kernel
theorem dX8_undo_31 : decode cX8_undo 31 = .ok (.ireturn, 1) := by decide +kernel
set_option maxRecDepth 20000 in
theorem ggX8_steps_X8_within : GoodIn wsX8_steps wsX8_within := goodIn_r _ [9] (by decide +kernel) (by decide +kernel)
set_option maxRecDepth 20000 in
theorem gX8_steps_X8_within : GoodIn wsX8_steps (va_wsS RX8 66 yX8_within wsX8_within) := goodIn_app (goodIn_of _ (by decide +kernel)) ggX8_steps_X8_within
set_option maxRecDepth 20000 in
theorem ggX8_steps_X8_refusal : GoodIn wsX8_steps wsX8_refusal := goodIn_r _ [13, 1, 14, 15, 16, 87, 88, 89, 90, 91, 92, 93, 94, 95, 96, 97, 98, 99, 100, 101, 102, 103, 104] (by decide +kernel) (by decide +kernel)
set_option maxRecDepth 20000 in
theorem gX8_steps_X8_refusal : GoodIn wsX8_steps (wsV RX8 149 RX8 yX8_refusal wsX8_refusal) := goodIn_app (goodIn_of _ (by decide +kernel)) ggX8_steps_X8_refusal
set_option maxRecDepth 20000 in
theorem ggX8_steps_X2_lawOf : GoodIn wsX8_steps wsX2_lawOf := goodIn_r _ [21, 22, 23, 24, 25, 26, 27, 28, 29, 30, 31, 32, 33, 34, 35, 36, 37, 105, 106, 107, 108, 96, 97, 98, 99, 100, 101, 102, 103, 104] (by decide +kernel) (by decide +kernel)
set_option maxRecDepth 20000 in
theorem gX8_steps_X2_lawOf : GoodIn wsX8_steps (wsV RX8 156 RX2 yX2_lawOf wsX2_lawOf) := goodIn_app (goodIn_of _ (by decide +kernel)) ggX8_steps_X2_lawOf
set_option maxRecDepth 20000 in
theorem ggX8_steps_X0_keep : GoodIn wsX8_steps wsX0_keep := goodIn_r _ [42, 43, 44, 45, 46, 47, 48, 49, 50, 51, 52, 33, 53, 54, 55, 56, 57, 35, 58, 59, 60, 61, 36, 37, 62, 63, 109, 110, 111, 96, 97, 98, 99, 100, 101, 102, 103, 104] (by decide +kernel) (by decide +kernel)
set_option maxRecDepth 20000 in
theorem gX8_steps_X0_keep : GoodIn wsX8_steps (wsV RX8 160 RX0 yX0_keep wsX0_keep) := goodIn_app (goodIn_of _ (by decide +kernel)) ggX8_steps_X0_keep
set_option maxRecDepth 20000 in
theorem ggX8_steps_X3_pass : GoodIn wsX8_steps wsX3_pass := goodIn_r _ [67, 54, 62, 63, 56, 68, 69, 48, 70, 57, 71, 72, 73, 33, 74, 75, 76, 77, 78, 79, 80, 81, 26, 82, 83, 84, 85, 86, 28, 96, 97, 98, 99, 100, 101, 102, 103, 104, 108] (by decide +kernel) (by decide +kernel)
set_option maxRecDepth 20000 in
theorem gX8_steps_X3_pass : GoodIn wsX8_steps (wsV RX8 163 RX3 yX3_pass wsX3_pass) := goodIn_app (goodIn_of _ (by decide +kernel)) ggX8_steps_X3_pass
theorem dX8_steps_0 : decode cX8_steps 0 = .ok (.aload_n 0, 1) := by decide +kernel
theorem dX8_steps_1 : decode cX8_steps 1 = .ok (.iload_n 1, 1) := by decide +kernel
theorem dX8_steps_2 : decode cX8_steps 2 = .ok (.iconst 1, 1) := by decide +kernel
theorem dX8_steps_3 : decode cX8_steps 3 = .ok (.bipush 24, 2) := by decide +kernel
theorem dX8_steps_5 : decode cX8_steps 5 = .ok (.invokestatic 66, 3) := by decide +kernel
theorem dX8_steps_8 : decode cX8_steps 8 = .ok (.invokevirtual 149, 3) := by decide +kernel
theorem dX8_steps_11 : decode cX8_steps 11 = .ok (.istore_n 2, 1) := by decide +kernel
theorem dX8_steps_12 : decode cX8_steps 12 = .ok (.iload_n 2, 1) := by decide +kernel
theorem dX8_steps_13 : decode cX8_steps 13 = .ok (.ifCond .eq 5, 3) := by decide +kernel
theorem dX8_steps_16 : decode cX8_steps 16 = .ok (.iload_n 2, 1) := by decide +kernel
theorem dX8_steps_17 : decode cX8_steps 17 = .ok (.ireturn, 1) := by decide +kernel
theorem dX8_steps_18 : decode cX8_steps 18 = .ok (.aload_n 0, 1) := by decide +kernel
theorem dX8_steps_19 : decode cX8_steps 19 = .ok (.getfield 25, 3) := by decide +kernel
theorem dX8_steps_22 : decode cX8_steps 22 = .ok (.getfield 153, 3) := by decide +kernel
theorem dX8_steps_25 : decode cX8_steps 25 = .ok (.iload_n 1, 1) := by decide +kernel
theorem dX8_steps_26 : decode cX8_steps 26 = .ok (.iadd, 1) := by decide +kernel
theorem dX8_steps_27 : decode cX8_steps 27 = .ok (.sipush 999, 3) := by decide +kernel
theorem dX8_steps_30 : decode cX8_steps 30 = .ok (.if_icmp .le 6, 3) := by decide +kernel
theorem dX8_steps_33 : decode cX8_steps 33 = .ok (.ldc 117, 2) := by decide +kernel
theorem dX8_steps_35 : decode cX8_steps 35 = .ok (.ireturn, 1) := by decide +kernel
theorem dX8_steps_36 : decode cX8_steps 36 = .ok (.aload_n 0, 1) := by decide +kernel
theorem dX8_steps_37 : decode cX8_steps 37 = .ok (.getfield 43, 3) := by decide +kernel
theorem dX8_steps_40 : decode cX8_steps 40 = .ok (.aload_n 0, 1) := by decide +kernel
theorem dX8_steps_41 : decode cX8_steps 41 = .ok (.getfield 25, 3) := by decide +kernel
theorem dX8_steps_44 : decode cX8_steps 44 = .ok (.invokevirtual 156, 3) := by decide +kernel
theorem dX8_steps_47 : decode cX8_steps 47 = .ok (.astore_n 3, 1) := by decide +kernel
theorem dX8_steps_48 : decode cX8_steps 48 = .ok (.iconst 0, 1) := by decide +kernel
theorem dX8_steps_49 : decode cX8_steps 49 = .ok (.istore 4, 2) := by decide +kernel
theorem dX8_steps_51 : decode cX8_steps 51 = .ok (.iconst 0, 1) := by decide +kernel
theorem dX8_steps_52 : decode cX8_steps 52 = .ok (.istore 5, 2) := by decide +kernel
theorem dX8_steps_54 : decode cX8_steps 54 = .ok (.iload 5, 2) := by decide +kernel
theorem dX8_steps_56 : decode cX8_steps 56 = .ok (.iload_n 1, 1) := by decide +kernel
theorem dX8_steps_57 : decode cX8_steps 57 = .ok (.if_icmp .ge 33, 3) := by decide +kernel
theorem dX8_steps_60 : decode cX8_steps 60 = .ok (.aload_n 0, 1) := by decide +kernel
theorem dX8_steps_61 : decode cX8_steps 61 = .ok (.getfield 32, 3) := by decide +kernel
theorem dX8_steps_64 : decode cX8_steps 64 = .ok (.aload_n 0, 1) := by decide +kernel
theorem dX8_steps_65 : decode cX8_steps 65 = .ok (.getfield 25, 3) := by decide +kernel
theorem dX8_steps_68 : decode cX8_steps 68 = .ok (.invokevirtual 160, 3) := by decide +kernel
theorem dX8_steps_71 : decode cX8_steps 71 = .ok (.iload 4, 2) := by decide +kernel
theorem dX8_steps_73 : decode cX8_steps 73 = .ok (.aload_n 0, 1) := by decide +kernel
theorem dX8_steps_74 : decode cX8_steps 74 = .ok (.getfield 25, 3) := by decide +kernel
theorem dX8_steps_77 : decode cX8_steps 77 = .ok (.aload_n 3, 1) := by decide +kernel
theorem dX8_steps_78 : decode cX8_steps 78 = .ok (.invokevirtual 163, 3) := by decide +kernel
theorem dX8_steps_81 : decode cX8_steps 81 = .ok (.iadd, 1) := by decide +kernel
theorem dX8_steps_82 : decode cX8_steps 82 = .ok (.istore 4, 2) := by decide +kernel
theorem dX8_steps_84 : decode cX8_steps 84 = .ok (.iinc 5 1, 3) := by decide +kernel
theorem dX8_steps_87 : decode cX8_steps 87 = .ok (.goto (-33), 3) := by decide +kernel
theorem dX8_steps_90 : decode cX8_steps 90 = .ok (.iload 4, 2) := by decide +kernel
theorem dX8_steps_92 : decode cX8_steps 92 = .ok (.ireturn, 1) := by decide +kernel
set_option maxRecDepth 20000 in
theorem ggX8_come_X8_isPerson : GoodIn wsX8_come wsX8_isPerson := goodIn_r _ [10, 2, 11, 12, 13, 9, 14, 54, 55, 56, 57, 58, 59, 60, 61, 62, 63, 64, 65, 66, 67, 68, 69, 70, 71] (by decide +kernel) (by decide +kernel)
set_option maxRecDepth 20000 in
theorem gX8_come_X8_isPerson : GoodIn wsX8_come (wsV RX8 167 RX8 yX8_isPerson wsX8_isPerson) := goodIn_app (goodIn_of _ (by decide +kernel)) ggX8_come_X8_isPerson
set_option maxRecDepth 20000 in
theorem ggX8_come_X8_isDoor : GoodIn wsX8_come wsX8_isDoor := goodIn_r _ [18, 2, 19, 12, 13, 9, 14, 54, 55, 56, 57, 58, 59, 60, 61, 62, 63, 64, 65, 66, 67, 68, 69, 70, 71] (by decide +kernel) (by decide +kernel)
set_option maxRecDepth 20000 in
theorem gX8_come_X8_isDoor : GoodIn wsX8_come (wsV RX8 170 RX8 yX8_isDoor wsX8_isDoor) := goodIn_app (goodIn_of _ (by decide +kernel)) ggX8_come_X8_isDoor
set_option maxRecDepth 20000 in
theorem ggX8_come_X0_keep : GoodIn wsX8_come wsX0_keep := goodIn_r _ [24, 25, 26, 27, 28, 29, 30, 31, 32, 33, 34, 35, 36, 37, 38, 39, 40, 41, 42, 43, 44, 45, 46, 47, 48, 49, 72, 73, 74, 63, 64, 65, 66, 67, 68, 69, 70, 71] (by decide +kernel) (by decide +kernel)
set_option maxRecDepth 20000 in
theorem gX8_come_X0_keep : GoodIn wsX8_come (wsV RX8 160 RX0 yX0_keep wsX0_keep) := goodIn_app (goodIn_of _ (by decide +kernel)) ggX8_come_X0_keep
set_option maxRecDepth 20000 in
theorem ggX8_come_X8_orNone : GoodIn wsX8_come wsX8_orNone := goodIn_r _ [52, 53] (by decide +kernel) (by decide +kernel)
set_option maxRecDepth 20000 in
theorem gX8_come_X8_orNone : GoodIn wsX8_come (va_wsS RX8 176 yX8_orNone wsX8_orNone) := goodIn_app (goodIn_of _ (by decide +kernel)) ggX8_come_X8_orNone
theorem dX8_come_0 : decode cX8_come 0 = .ok (.aload_n 0, 1) := by decide +kernel
theorem dX8_come_1 : decode cX8_come 1 = .ok (.iload_n 1, 1) := by decide +kernel
theorem dX8_come_2 : decode cX8_come 2 = .ok (.invokevirtual 167, 3) := by decide +kernel
theorem dX8_come_5 : decode cX8_come 5 = .ok (.ifCond .eq 11, 3) := by decide +kernel
theorem dX8_come_8 : decode cX8_come 8 = .ok (.aload_n 0, 1) := by decide +kernel
theorem dX8_come_9 : decode cX8_come 9 = .ok (.iload_n 2, 1) := by decide +kernel
theorem dX8_come_10 : decode cX8_come 10 = .ok (.invokevirtual 170, 3) := by decide +kernel
theorem dX8_come_13 : decode cX8_come 13 = .ok (.ifCond .ne 6, 3) := by decide +kernel
theorem dX8_come_16 : decode cX8_come 16 = .ok (.ldc 70, 2) := by decide +kernel
theorem dX8_come_18 : decode cX8_come 18 = .ok (.ireturn, 1) := by decide +kernel
theorem dX8_come_19 : decode cX8_come 19 = .ok (.aload_n 0, 1) := by decide +kernel
theorem dX8_come_20 : decode cX8_come 20 = .ok (.getfield 25, 3) := by decide +kernel
theorem dX8_come_23 : decode cX8_come 23 = .ok (.getfield 173, 3) := by decide +kernel
theorem dX8_come_26 : decode cX8_come 26 = .ok (.iload_n 1, 1) := by decide +kernel
theorem dX8_come_27 : decode cX8_come 27 = .ok (.iaload, 1) := by decide +kernel
theorem dX8_come_28 : decode cX8_come 28 = .ok (.istore_n 3, 1) := by decide +kernel
theorem dX8_come_29 : decode cX8_come 29 = .ok (.iload_n 3, 1) := by decide +kernel
theorem dX8_come_30 : decode cX8_come 30 = .ok (.iload_n 2, 1) := by decide +kernel
theorem dX8_come_31 : decode cX8_come 31 = .ok (.if_icmp .ne 6, 3) := by decide +kernel
theorem dX8_come_34 : decode cX8_come 34 = .ok (.ldc 145, 2) := by decide +kernel
theorem dX8_come_36 : decode cX8_come 36 = .ok (.ireturn, 1) := by decide +kernel
theorem dX8_come_37 : decode cX8_come 37 = .ok (.aload_n 0, 1) := by decide +kernel
theorem dX8_come_38 : decode cX8_come 38 = .ok (.getfield 32, 3) := by decide +kernel
theorem dX8_come_41 : decode cX8_come 41 = .ok (.aload_n 0, 1) := by decide +kernel
theorem dX8_come_42 : decode cX8_come 42 = .ok (.getfield 25, 3) := by decide +kernel
theorem dX8_come_45 : decode cX8_come 45 = .ok (.invokevirtual 160, 3) := by decide +kernel
theorem dX8_come_48 : decode cX8_come 48 = .ok (.aload_n 0, 1) := by decide +kernel
theorem dX8_come_49 : decode cX8_come 49 = .ok (.getfield 25, 3) := by decide +kernel
theorem dX8_come_52 : decode cX8_come 52 = .ok (.getfield 173, 3) := by decide +kernel
theorem dX8_come_55 : decode cX8_come 55 = .ok (.iload_n 1, 1) := by decide +kernel
theorem dX8_come_56 : decode cX8_come 56 = .ok (.iload_n 2, 1) := by decide +kernel
theorem dX8_come_57 : decode cX8_come 57 = .ok (.iastore, 1) := by decide +kernel
theorem dX8_come_58 : decode cX8_come 58 = .ok (.iload_n 3, 1) := by decide +kernel
theorem dX8_come_59 : decode cX8_come 59 = .ok (.invokestatic 176, 3) := by decide +kernel
theorem dX8_come_62 : decode cX8_come 62 = .ok (.ireturn, 1) := by decide +kernel
set_option maxRecDepth 20000 in
theorem ggX8_bow_X8_isPerson : GoodIn wsX8_bow wsX8_isPerson := goodIn_r _ [12, 2, 13, 14, 15, 11, 16, 58, 59, 60, 61, 62, 63, 64, 65, 66, 67, 68, 69, 70, 71, 72, 73, 74, 75] (by decide +kernel) (by decide +kernel)
set_option maxRecDepth 20000 in
theorem gX8_bow_X8_isPerson : GoodIn wsX8_bow (wsV RX8 167 RX8 yX8_isPerson wsX8_isPerson) := goodIn_app (goodIn_of _ (by decide +kernel)) ggX8_bow_X8_isPerson
set_option maxRecDepth 20000 in
theorem ggX8_bow_X0_keep : GoodIn wsX8_bow wsX0_keep := goodIn_r _ [21, 22, 23, 24, 25, 26, 27, 28, 29, 30, 31, 32, 33, 34, 35, 36, 37, 38, 39, 40, 41, 42, 43, 44, 45, 46, 76, 77, 78, 67, 68, 69, 70, 71, 72, 73, 74, 75] (by decide +kernel) (by decide +kernel)
set_option maxRecDepth 20000 in
theorem gX8_bow_X0_keep : GoodIn wsX8_bow (wsV RX8 160 RX0 yX0_keep wsX0_keep) := goodIn_app (goodIn_of _ (by decide +kernel)) ggX8_bow_X0_keep
set_option maxRecDepth 20000 in
theorem ggX8_bow_X3_nobodies : GoodIn wsX8_bow wsX3_nobodies := goodIn_r _ [50, 36, 46, 67, 68, 69, 70, 71, 72, 73, 74, 75] (by decide +kernel) (by decide +kernel)
set_option maxRecDepth 20000 in
theorem gX8_bow_X3_nobodies : GoodIn wsX8_bow (wsV RX8 185 RX3 yX3_nobodies wsX3_nobodies) := goodIn_app (goodIn_of _ (by decide +kernel)) ggX8_bow_X3_nobodies
set_option maxRecDepth 20000 in
theorem ggX8_bow_J6_bitCount_0f7a4 : GoodIn wsX8_bow wsJ6_bitCount_0f7a4 := goodIn_r _ [54, 55, 56, 57] (by decide +kernel) (by decide +kernel)
set_option maxRecDepth 20000 in
theorem gX8_bow_J6_bitCount_0f7a4 : GoodIn wsX8_bow (va_wsS RX8 188 yJ6_bitCount_0f7a4 wsJ6_bitCount_0f7a4) := goodIn_app (goodIn_of _ (by decide +kernel)) ggX8_bow_J6_bitCount_0f7a4
theorem dX8_bow_0 : decode cX8_bow 0 = .ok (.aload_n 0, 1) := by decide +kernel
theorem dX8_bow_1 : decode cX8_bow 1 = .ok (.iload_n 1, 1) := by decide +kernel
theorem dX8_bow_2 : decode cX8_bow 2 = .ok (.invokevirtual 167, 3) := by decide +kernel
theorem dX8_bow_5 : decode cX8_bow 5 = .ok (.ifCond .ne 6, 3) := by decide +kernel
theorem dX8_bow_8 : decode cX8_bow 8 = .ok (.ldc 70, 2) := by decide +kernel
theorem dX8_bow_10 : decode cX8_bow 10 = .ok (.ireturn, 1) := by decide +kernel
theorem dX8_bow_11 : decode cX8_bow 11 = .ok (.aload_n 0, 1) := by decide +kernel
theorem dX8_bow_12 : decode cX8_bow 12 = .ok (.getfield 25, 3) := by decide +kernel
theorem dX8_bow_15 : decode cX8_bow 15 = .ok (.getfield 173, 3) := by decide +kernel
theorem dX8_bow_18 : decode cX8_bow 18 = .ok (.iload_n 1, 1) := by decide +kernel
theorem dX8_bow_19 : decode cX8_bow 19 = .ok (.iaload, 1) := by decide +kernel
theorem dX8_bow_20 : decode cX8_bow 20 = .ok (.iconst (-1), 1) := by decide +kernel
theorem dX8_bow_21 : decode cX8_bow 21 = .ok (.if_icmp .ne 6, 3) := by decide +kernel
theorem dX8_bow_24 : decode cX8_bow 24 = .ok (.ldc 145, 2) := by decide +kernel
theorem dX8_bow_26 : decode cX8_bow 26 = .ok (.ireturn, 1) := by decide +kernel
theorem dX8_bow_27 : decode cX8_bow 27 = .ok (.aload_n 0, 1) := by decide +kernel
theorem dX8_bow_28 : decode cX8_bow 28 = .ok (.getfield 32, 3) := by decide +kernel
theorem dX8_bow_31 : decode cX8_bow 31 = .ok (.aload_n 0, 1) := by decide +kernel
theorem dX8_bow_32 : decode cX8_bow 32 = .ok (.getfield 25, 3) := by decide +kernel
theorem dX8_bow_35 : decode cX8_bow 35 = .ok (.invokevirtual 160, 3) := by decide +kernel
theorem dX8_bow_38 : decode cX8_bow 38 = .ok (.aload_n 0, 1) := by decide +kernel
theorem dX8_bow_39 : decode cX8_bow 39 = .ok (.getfield 25, 3) := by decide +kernel
theorem dX8_bow_42 : decode cX8_bow 42 = .ok (.getfield 179, 3) := by decide +kernel
theorem dX8_bow_45 : decode cX8_bow 45 = .ok (.iload_n 1, 1) := by decide +kernel
theorem dX8_bow_46 : decode cX8_bow 46 = .ok (.aload_n 0, 1) := by decide +kernel
theorem dX8_bow_47 : decode cX8_bow 47 = .ok (.getfield 25, 3) := by decide +kernel
theorem dX8_bow_50 : decode cX8_bow 50 = .ok (.getfield 182, 3) := by decide +kernel
theorem dX8_bow_53 : decode cX8_bow 53 = .ok (.iastore, 1) := by decide +kernel
theorem dX8_bow_54 : decode cX8_bow 54 = .ok (.aload_n 0, 1) := by decide +kernel
theorem dX8_bow_55 : decode cX8_bow 55 = .ok (.getfield 25, 3) := by decide +kernel
theorem dX8_bow_58 : decode cX8_bow 58 = .ok (.invokevirtual 185, 3) := by decide +kernel
theorem dX8_bow_61 : decode cX8_bow 61 = .ok (.invokestatic 188, 3) := by decide +kernel
theorem dX8_bow_64 : decode cX8_bow 64 = .ok (.ireturn, 1) := by decide +kernel
set_option maxRecDepth 20000 in
theorem ggX8_revise_X8_isPerson : GoodIn wsX8_revise wsX8_isPerson := goodIn_r _ [10, 3, 11, 12, 13, 9, 14, 45, 46, 47, 48, 49, 50, 51, 52, 53, 54, 55, 56, 57, 58, 59, 60, 61, 62] (by decide +kernel) (by decide +kernel)
set_option maxRecDepth 20000 in
theorem gX8_revise_X8_isPerson : GoodIn wsX8_revise (wsV RX8 167 RX8 yX8_isPerson wsX8_isPerson) := goodIn_app (goodIn_of _ (by decide +kernel)) ggX8_revise_X8_isPerson
set_option maxRecDepth 20000 in
theorem ggX8_revise_X8_within : GoodIn wsX8_revise wsX8_within := goodIn_r _ [14] (by decide +kernel) (by decide +kernel)
set_option maxRecDepth 20000 in
theorem gX8_revise_X8_within : GoodIn wsX8_revise (va_wsS RX8 66 yX8_within wsX8_within) := goodIn_app (goodIn_of _ (by decide +kernel)) ggX8_revise_X8_within
set_option maxRecDepth 20000 in
theorem ggX8_revise_X0_keep : GoodIn wsX8_revise wsX0_keep := goodIn_r _ [19, 20, 21, 22, 23, 24, 25, 26, 27, 28, 29, 30, 31, 32, 33, 34, 35, 36, 37, 38, 39, 40, 41, 42, 43, 44, 63, 64, 65, 54, 55, 56, 57, 58, 59, 60, 61, 62] (by decide +kernel) (by decide +kernel)
set_option maxRecDepth 20000 in
theorem gX8_revise_X0_keep : GoodIn wsX8_revise (wsV RX8 160 RX0 yX0_keep wsX0_keep) := goodIn_app (goodIn_of _ (by decide +kernel)) ggX8_revise_X0_keep
theorem dX8_revise_0 : decode cX8_revise 0 = .ok (.aload_n 0, 1) := by decide +kernel
theorem dX8_revise_1 : decode cX8_revise 1 = .ok (.iload_n 1, 1) := by decide +kernel
theorem dX8_revise_2 : decode cX8_revise 2 = .ok (.invokevirtual 167, 3) := by decide +kernel
theorem dX8_revise_5 : decode cX8_revise 5 = .ok (.ifCond .eq 22, 3) := by decide +kernel
theorem dX8_revise_8 : decode cX8_revise 8 = .ok (.iload_n 2, 1) := by decide +kernel
theorem dX8_revise_9 : decode cX8_revise 9 = .ok (.iconst 0, 1) := by decide +kernel
theorem dX8_revise_10 : decode cX8_revise 10 = .ok (.iconst 1, 1) := by decide +kernel
theorem dX8_revise_11 : decode cX8_revise 11 = .ok (.invokestatic 66, 3) := by decide +kernel
theorem dX8_revise_14 : decode cX8_revise 14 = .ok (.ifCond .eq 13, 3) := by decide +kernel
theorem dX8_revise_17 : decode cX8_revise 17 = .ok (.iload_n 3, 1) := by decide +kernel
theorem dX8_revise_18 : decode cX8_revise 18 = .ok (.iconst 0, 1) := by decide +kernel
theorem dX8_revise_19 : decode cX8_revise 19 = .ok (.bipush 9, 2) := by decide +kernel
theorem dX8_revise_21 : decode cX8_revise 21 = .ok (.invokestatic 66, 3) := by decide +kernel
theorem dX8_revise_24 : decode cX8_revise 24 = .ok (.ifCond .ne 6, 3) := by decide +kernel
theorem dX8_revise_27 : decode cX8_revise 27 = .ok (.ldc 70, 2) := by decide +kernel
theorem dX8_revise_29 : decode cX8_revise 29 = .ok (.ireturn, 1) := by decide +kernel
theorem dX8_revise_30 : decode cX8_revise 30 = .ok (.aload_n 0, 1) := by decide +kernel
theorem dX8_revise_31 : decode cX8_revise 31 = .ok (.getfield 32, 3) := by decide +kernel
theorem dX8_revise_34 : decode cX8_revise 34 = .ok (.aload_n 0, 1) := by decide +kernel
theorem dX8_revise_35 : decode cX8_revise 35 = .ok (.getfield 25, 3) := by decide +kernel
theorem dX8_revise_38 : decode cX8_revise 38 = .ok (.invokevirtual 160, 3) := by decide +kernel
theorem dX8_revise_41 : decode cX8_revise 41 = .ok (.iload_n 2, 1) := by decide +kernel
theorem dX8_revise_42 : decode cX8_revise 42 = .ok (.ifCond .ne 13, 3) := by decide +kernel
theorem dX8_revise_45 : decode cX8_revise 45 = .ok (.aload_n 0, 1) := by decide +kernel
theorem dX8_revise_46 : decode cX8_revise 46 = .ok (.getfield 25, 3) := by decide +kernel
theorem dX8_revise_49 : decode cX8_revise 49 = .ok (.getfield 193, 3) := by decide +kernel
theorem dX8_revise_52 : decode cX8_revise 52 = .ok (.goto 10, 3) := by decide +kernel
theorem dX8_revise_55 : decode cX8_revise 55 = .ok (.aload_n 0, 1) := by decide +kernel
theorem dX8_revise_56 : decode cX8_revise 56 = .ok (.getfield 25, 3) := by decide +kernel
theorem dX8_revise_59 : decode cX8_revise 59 = .ok (.getfield 196, 3) := by decide +kernel
theorem dX8_revise_62 : decode cX8_revise 62 = .ok (.astore 4, 2) := by decide +kernel
theorem dX8_revise_64 : decode cX8_revise 64 = .ok (.aload 4, 2) := by decide +kernel
theorem dX8_revise_66 : decode cX8_revise 66 = .ok (.iload_n 1, 1) := by decide +kernel
theorem dX8_revise_67 : decode cX8_revise 67 = .ok (.iaload, 1) := by decide +kernel
theorem dX8_revise_68 : decode cX8_revise 68 = .ok (.istore 5, 2) := by decide +kernel
theorem dX8_revise_70 : decode cX8_revise 70 = .ok (.aload 4, 2) := by decide +kernel
theorem dX8_revise_72 : decode cX8_revise 72 = .ok (.iload_n 1, 1) := by decide +kernel
theorem dX8_revise_73 : decode cX8_revise 73 = .ok (.iload_n 3, 1) := by decide +kernel
theorem dX8_revise_74 : decode cX8_revise 74 = .ok (.iastore, 1) := by decide +kernel
theorem dX8_revise_75 : decode cX8_revise 75 = .ok (.iload 5, 2) := by decide +kernel
theorem dX8_revise_77 : decode cX8_revise 77 = .ok (.ireturn, 1) := by decide +kernel
set_option maxRecDepth 20000 in
theorem ggX8_person_X8_isPerson : GoodIn wsX8_person wsX8_isPerson := goodIn_r _ [12, 2, 13, 14, 15, 11, 16, 61, 62, 63, 64, 65, 66, 67, 68, 69, 70, 71, 72, 73, 74, 75, 76, 77, 78] (by decide +kernel) (by decide +kernel)
set_option maxRecDepth 20000 in
theorem gX8_person_X8_isPerson : GoodIn wsX8_person (wsV RX8 167 RX8 yX8_isPerson wsX8_isPerson) := goodIn_app (goodIn_of _ (by decide +kernel)) ggX8_person_X8_isPerson
set_option maxRecDepth 20000 in
theorem ggX8_person_X8_orNone : GoodIn wsX8_person wsX8_orNone := goodIn_r _ [19, 20] (by decide +kernel) (by decide +kernel)
set_option maxRecDepth 20000 in
theorem gX8_person_X8_orNone : GoodIn wsX8_person (va_wsS RX8 176 yX8_orNone wsX8_orNone) := goodIn_app (goodIn_of _ (by decide +kernel)) ggX8_person_X8_orNone
set_option maxRecDepth 20000 in
theorem ggX8_person_X2_lawOf : GoodIn wsX8_person wsX2_lawOf := goodIn_r _ [25, 26, 27, 28, 29, 30, 31, 32, 33, 34, 35, 36, 37, 38, 39, 40, 41, 79, 80, 81, 82, 70, 71, 72, 73, 74, 75, 76, 77, 78] (by decide +kernel) (by decide +kernel)
set_option maxRecDepth 20000 in
theorem gX8_person_X2_lawOf : GoodIn wsX8_person (wsV RX8 156 RX2 yX2_lawOf wsX2_lawOf) := goodIn_app (goodIn_of _ (by decide +kernel)) ggX8_person_X2_lawOf
set_option maxRecDepth 20000 in
theorem ggX8_person_X3_waitingAt : GoodIn wsX8_person wsX3_waitingAt := goodIn_r _ [45, 46, 47, 70, 71, 72, 73, 74, 75, 76, 77, 78] (by decide +kernel) (by decide +kernel)
set_option maxRecDepth 20000 in
theorem gX8_person_X3_waitingAt : GoodIn wsX8_person (wsV RX8 199 RX3 yX3_waitingAt wsX3_waitingAt) := goodIn_app (goodIn_of _ (by decide +kernel)) ggX8_person_X3_waitingAt
set_option maxRecDepth 20000 in
theorem ggX8_person_X3_nobodies : GoodIn wsX8_person wsX3_nobodies := goodIn_r _ [51, 46, 52, 70, 71, 72, 73, 74, 75, 76, 77, 78] (by decide +kernel) (by decide +kernel)
set_option maxRecDepth 20000 in
theorem gX8_person_X3_nobodies : GoodIn wsX8_person (wsV RX8 185 RX3 yX3_nobodies wsX3_nobodies) := goodIn_app (goodIn_of _ (by decide +kernel)) ggX8_person_X3_nobodies
set_option maxRecDepth 20000 in
theorem ggX8_person_X4_lets : GoodIn wsX8_person wsX4_lets := goodIn_r _ [56, 32, 82] (by decide +kernel) (by decide +kernel)
set_option maxRecDepth 20000 in
theorem gX8_person_X4_lets : GoodIn wsX8_person (wsV RX8 202 RX4 yX4_lets wsX4_lets) := goodIn_app (goodIn_of _ (by decide +kernel)) ggX8_person_X4_lets
set_option maxRecDepth 20000 in
theorem ggX8_person_X4_yielded : GoodIn wsX8_person wsX4_yielded := goodIn_r _ [60, 32, 82] (by decide +kernel) (by decide +kernel)
set_option maxRecDepth 20000 in
theorem gX8_person_X4_yielded : GoodIn wsX8_person (wsV RX8 207 RX4 yX4_yielded wsX4_yielded) := goodIn_app (goodIn_of _ (by decide +kernel)) ggX8_person_X4_yielded
theorem dX8_person_0 : decode cX8_person 0 = .ok (.aload_n 0, 1) := by decide +kernel
theorem dX8_person_1 : decode cX8_person 1 = .ok (.iload_n 1, 1) := by decide +kernel
theorem dX8_person_2 : decode cX8_person 2 = .ok (.invokevirtual 167, 3) := by decide +kernel
theorem dX8_person_5 : decode cX8_person 5 = .ok (.ifCond .ne 6, 3) := by decide +kernel
theorem dX8_person_8 : decode cX8_person 8 = .ok (.ldc 70, 2) := by decide +kernel
theorem dX8_person_10 : decode cX8_person 10 = .ok (.ireturn, 1) := by decide +kernel
theorem dX8_person_11 : decode cX8_person 11 = .ok (.aload_n 0, 1) := by decide +kernel
theorem dX8_person_12 : decode cX8_person 12 = .ok (.getfield 25, 3) := by decide +kernel
theorem dX8_person_15 : decode cX8_person 15 = .ok (.getfield 173, 3) := by decide +kernel
theorem dX8_person_18 : decode cX8_person 18 = .ok (.iload_n 1, 1) := by decide +kernel
theorem dX8_person_19 : decode cX8_person 19 = .ok (.iaload, 1) := by decide +kernel
theorem dX8_person_20 : decode cX8_person 20 = .ok (.istore_n 3, 1) := by decide +kernel
theorem dX8_person_21 : decode cX8_person 21 = .ok (.iload_n 2, 1) := by decide +kernel
theorem dX8_person_22 : decode cX8_person 22 = .ok (.tableswitch 157 0 5 #[38, 48, 58, 63, 73, 117], 38) := by decide +kernel
theorem dX8_person_60 : decode cX8_person 60 = .ok (.aload_n 0, 1) := by decide +kernel
theorem dX8_person_61 : decode cX8_person 61 = .ok (.getfield 25, 3) := by decide +kernel
theorem dX8_person_64 : decode cX8_person 64 = .ok (.getfield 193, 3) := by decide +kernel
theorem dX8_person_67 : decode cX8_person 67 = .ok (.iload_n 1, 1) := by decide +kernel
theorem dX8_person_68 : decode cX8_person 68 = .ok (.iaload, 1) := by decide +kernel
theorem dX8_person_69 : decode cX8_person 69 = .ok (.ireturn, 1) := by decide +kernel
theorem dX8_person_70 : decode cX8_person 70 = .ok (.aload_n 0, 1) := by decide +kernel
theorem dX8_person_71 : decode cX8_person 71 = .ok (.getfield 25, 3) := by decide +kernel
theorem dX8_person_74 : decode cX8_person 74 = .ok (.getfield 196, 3) := by decide +kernel
theorem dX8_person_77 : decode cX8_person 77 = .ok (.iload_n 1, 1) := by decide +kernel
theorem dX8_person_78 : decode cX8_person 78 = .ok (.iaload, 1) := by decide +kernel
theorem dX8_person_79 : decode cX8_person 79 = .ok (.ireturn, 1) := by decide +kernel
theorem dX8_person_80 : decode cX8_person 80 = .ok (.iload_n 3, 1) := by decide +kernel
theorem dX8_person_81 : decode cX8_person 81 = .ok (.invokestatic 176, 3) := by decide +kernel
theorem dX8_person_84 : decode cX8_person 84 = .ok (.ireturn, 1) := by decide +kernel
theorem dX8_person_85 : decode cX8_person 85 = .ok (.aload_n 0, 1) := by decide +kernel
theorem dX8_person_86 : decode cX8_person 86 = .ok (.getfield 25, 3) := by decide +kernel
theorem dX8_person_89 : decode cX8_person 89 = .ok (.getfield 179, 3) := by decide +kernel
theorem dX8_person_92 : decode cX8_person 92 = .ok (.iload_n 1, 1) := by decide +kernel
theorem dX8_person_93 : decode cX8_person 93 = .ok (.iaload, 1) := by decide +kernel
theorem dX8_person_94 : decode cX8_person 94 = .ok (.ireturn, 1) := by decide +kernel
theorem dX8_person_95 : decode cX8_person 95 = .ok (.iload_n 3, 1) := by decide +kernel
theorem dX8_person_96 : decode cX8_person 96 = .ok (.iconst (-1), 1) := by decide +kernel
theorem dX8_person_97 : decode cX8_person 97 = .ok (.if_icmp .eq 40, 3) := by decide +kernel
theorem dX8_person_100 : decode cX8_person 100 = .ok (.aload_n 0, 1) := by decide +kernel
theorem dX8_person_101 : decode cX8_person 101 = .ok (.getfield 43, 3) := by decide +kernel
theorem dX8_person_104 : decode cX8_person 104 = .ok (.aload_n 0, 1) := by decide +kernel
theorem dX8_person_105 : decode cX8_person 105 = .ok (.getfield 25, 3) := by decide +kernel
theorem dX8_person_108 : decode cX8_person 108 = .ok (.invokevirtual 156, 3) := by decide +kernel
theorem dX8_person_111 : decode cX8_person 111 = .ok (.iload_n 1, 1) := by decide +kernel
theorem dX8_person_112 : decode cX8_person 112 = .ok (.aload_n 0, 1) := by decide +kernel
theorem dX8_person_113 : decode cX8_person 113 = .ok (.getfield 25, 3) := by decide +kernel
theorem dX8_person_116 : decode cX8_person 116 = .ok (.iload_n 3, 1) := by decide +kernel
theorem dX8_person_117 : decode cX8_person 117 = .ok (.invokevirtual 199, 3) := by decide +kernel
theorem dX8_person_120 : decode cX8_person 120 = .ok (.aload_n 0, 1) := by decide +kernel
theorem dX8_person_121 : decode cX8_person 121 = .ok (.getfield 25, 3) := by decide +kernel
theorem dX8_person_124 : decode cX8_person 124 = .ok (.invokevirtual 185, 3) := by decide +kernel
theorem dX8_person_127 : decode cX8_person 127 = .ok (.invokevirtual 202, 3) := by decide +kernel
theorem dX8_person_130 : decode cX8_person 130 = .ok (.ifCond .eq 7, 3) := by decide +kernel
theorem dX8_person_133 : decode cX8_person 133 = .ok (.iconst 1, 1) := by decide +kernel
theorem dX8_person_134 : decode cX8_person 134 = .ok (.goto 4, 3) := by decide +kernel
theorem dX8_person_137 : decode cX8_person 137 = .ok (.iconst 0, 1) := by decide +kernel
theorem dX8_person_138 : decode cX8_person 138 = .ok (.ireturn, 1) := by decide +kernel
theorem dX8_person_139 : decode cX8_person 139 = .ok (.iload_n 3, 1) := by decide +kernel
theorem dX8_person_140 : decode cX8_person 140 = .ok (.iconst (-1), 1) := by decide +kernel
theorem dX8_person_141 : decode cX8_person 141 = .ok (.if_icmp .ne 7, 3) := by decide +kernel
theorem dX8_person_144 : decode cX8_person 144 = .ok (.iconst 0, 1) := by decide +kernel
theorem dX8_person_145 : decode cX8_person 145 = .ok (.goto 33, 3) := by decide +kernel
theorem dX8_person_148 : decode cX8_person 148 = .ok (.aload_n 0, 1) := by decide +kernel
theorem dX8_person_149 : decode cX8_person 149 = .ok (.getfield 43, 3) := by decide +kernel
theorem dX8_person_152 : decode cX8_person 152 = .ok (.aload_n 0, 1) := by decide +kernel
theorem dX8_person_153 : decode cX8_person 153 = .ok (.getfield 25, 3) := by decide +kernel
theorem dX8_person_156 : decode cX8_person 156 = .ok (.invokevirtual 156, 3) := by decide +kernel
theorem dX8_person_159 : decode cX8_person 159 = .ok (.iload_n 1, 1) := by decide +kernel
theorem dX8_person_160 : decode cX8_person 160 = .ok (.aload_n 0, 1) := by decide +kernel
theorem dX8_person_161 : decode cX8_person 161 = .ok (.getfield 25, 3) := by decide +kernel
theorem dX8_person_164 : decode cX8_person 164 = .ok (.iload_n 3, 1) := by decide +kernel
theorem dX8_person_165 : decode cX8_person 165 = .ok (.invokevirtual 199, 3) := by decide +kernel
theorem dX8_person_168 : decode cX8_person 168 = .ok (.aload_n 0, 1) := by decide +kernel
theorem dX8_person_169 : decode cX8_person 169 = .ok (.getfield 25, 3) := by decide +kernel
theorem dX8_person_172 : decode cX8_person 172 = .ok (.invokevirtual 185, 3) := by decide +kernel
theorem dX8_person_175 : decode cX8_person 175 = .ok (.invokevirtual 207, 3) := by decide +kernel
theorem dX8_person_178 : decode cX8_person 178 = .ok (.ireturn, 1) := by decide +kernel
theorem dX8_person_179 : decode cX8_person 179 = .ok (.ldc 70, 2) := by decide +kernel
theorem dX8_person_181 : decode cX8_person 181 = .ok (.ireturn, 1) := by decide +kernel
set_option maxRecDepth 20000 in
theorem ggX8_door_X8_isDoor : GoodIn wsX8_door wsX8_isDoor := goodIn_r _ [7, 1, 8, 9, 10, 6, 11, 63, 64, 65, 66, 67, 68, 69, 70, 71, 72, 73, 74, 75, 76, 77, 78, 79, 80] (by decide +kernel) (by decide +kernel)
set_option maxRecDepth 20000 in
theorem gX8_door_X8_isDoor : GoodIn wsX8_door (wsV RX8 170 RX8 yX8_isDoor wsX8_isDoor) := goodIn_app (goodIn_of _ (by decide +kernel)) ggX8_door_X8_isDoor
set_option maxRecDepth 20000 in
theorem ggX8_door_X8_within : GoodIn wsX8_door wsX8_within := goodIn_r _ [11] (by decide +kernel) (by decide +kernel)
set_option maxRecDepth 20000 in
theorem gX8_door_X8_within : GoodIn wsX8_door (va_wsS RX8 66 yX8_within wsX8_within) := goodIn_app (goodIn_of _ (by decide +kernel)) ggX8_door_X8_within
set_option maxRecDepth 20000 in
theorem ggX8_door_X8_refusal : GoodIn wsX8_door wsX8_refusal := goodIn_r _ [15, 1, 16, 17, 18, 63, 64, 65, 66, 67, 68, 69, 70, 71, 72, 73, 74, 75, 76, 77, 78, 79, 80] (by decide +kernel) (by decide +kernel)
set_option maxRecDepth 20000 in
theorem gX8_door_X8_refusal : GoodIn wsX8_door (wsV RX8 149 RX8 yX8_refusal wsX8_refusal) := goodIn_app (goodIn_of _ (by decide +kernel)) ggX8_door_X8_refusal
set_option maxRecDepth 20000 in
theorem ggX8_door_X3_waitingAt : GoodIn wsX8_door wsX3_waitingAt := goodIn_r _ [23, 24, 25, 72, 73, 74, 75, 76, 77, 78, 79, 80] (by decide +kernel) (by decide +kernel)
set_option maxRecDepth 20000 in
theorem gX8_door_X3_waitingAt : GoodIn wsX8_door (wsV RX8 199 RX3 yX3_waitingAt wsX3_waitingAt) := goodIn_app (goodIn_of _ (by decide +kernel)) ggX8_door_X3_waitingAt
set_option maxRecDepth 20000 in
theorem ggX8_door_X2_lawOf : GoodIn wsX8_door wsX2_lawOf := goodIn_r _ [30, 31, 32, 33, 34, 35, 36, 37, 38, 39, 40, 41, 22, 42, 43, 44, 45, 81, 82, 83, 84, 72, 73, 74, 75, 76, 77, 78, 79, 80] (by decide +kernel) (by decide +kernel)
set_option maxRecDepth 20000 in
theorem gX8_door_X2_lawOf : GoodIn wsX8_door (wsV RX8 156 RX2 yX2_lawOf wsX2_lawOf) := goodIn_app (goodIn_of _ (by decide +kernel)) ggX8_door_X2_lawOf
set_option maxRecDepth 20000 in
theorem ggX8_door_X3_nobodies : GoodIn wsX8_door wsX3_nobodies := goodIn_r _ [49, 24, 50, 72, 73, 74, 75, 76, 77, 78, 79, 80] (by decide +kernel) (by decide +kernel)
set_option maxRecDepth 20000 in
theorem gX8_door_X3_nobodies : GoodIn wsX8_door (wsV RX8 185 RX3 yX3_nobodies wsX3_nobodies) := goodIn_app (goodIn_of _ (by decide +kernel)) ggX8_door_X3_nobodies
set_option maxRecDepth 20000 in
theorem ggX8_door_X4_first : GoodIn wsX8_door wsX4_first := goodIn_r _ [54, 55, 56, 57, 35, 58, 37, 84] (by decide +kernel) (by decide +kernel)
set_option maxRecDepth 20000 in
theorem gX8_door_X4_first : GoodIn wsX8_door (wsV RX8 211 RX4 yX4_first wsX4_first) := goodIn_app (goodIn_of _ (by decide +kernel)) ggX8_door_X4_first
set_option maxRecDepth 20000 in
theorem ggX8_door_X8_orNone : GoodIn wsX8_door wsX8_orNone := goodIn_r _ [61, 62] (by decide +kernel) (by decide +kernel)
set_option maxRecDepth 20000 in
theorem gX8_door_X8_orNone : GoodIn wsX8_door (va_wsS RX8 176 yX8_orNone wsX8_orNone) := goodIn_app (goodIn_of _ (by decide +kernel)) ggX8_door_X8_orNone
theorem dX8_door_0 : decode cX8_door 0 = .ok (.aload_n 0, 1) := by decide +kernel
theorem dX8_door_1 : decode cX8_door 1 = .ok (.aload_n 0, 1) := by decide +kernel
theorem dX8_door_2 : decode cX8_door 2 = .ok (.iload_n 1, 1) := by decide +kernel
theorem dX8_door_3 : decode cX8_door 3 = .ok (.invokevirtual 170, 3) := by decide +kernel
theorem dX8_door_6 : decode cX8_door 6 = .ok (.ifCond .eq 16, 3) := by decide +kernel
theorem dX8_door_9 : decode cX8_door 9 = .ok (.iload_n 2, 1) := by decide +kernel
theorem dX8_door_10 : decode cX8_door 10 = .ok (.iconst 0, 1) := by decide +kernel
theorem dX8_door_11 : decode cX8_door 11 = .ok (.iconst 1, 1) := by decide +kernel
theorem dX8_door_12 : decode cX8_door 12 = .ok (.invokestatic 66, 3) := by decide +kernel
theorem dX8_door_15 : decode cX8_door 15 = .ok (.ifCond .eq 7, 3) := by decide +kernel
theorem dX8_door_18 : decode cX8_door 18 = .ok (.iconst 1, 1) := by decide +kernel
theorem dX8_door_19 : decode cX8_door 19 = .ok (.goto 4, 3) := by decide +kernel
theorem dX8_door_22 : decode cX8_door 22 = .ok (.iconst 0, 1) := by decide +kernel
theorem dX8_door_23 : decode cX8_door 23 = .ok (.invokevirtual 149, 3) := by decide +kernel
theorem dX8_door_26 : decode cX8_door 26 = .ok (.istore_n 3, 1) := by decide +kernel
theorem dX8_door_27 : decode cX8_door 27 = .ok (.iload_n 3, 1) := by decide +kernel
theorem dX8_door_28 : decode cX8_door 28 = .ok (.ifCond .eq 5, 3) := by decide +kernel
theorem dX8_door_31 : decode cX8_door 31 = .ok (.iload_n 3, 1) := by decide +kernel
theorem dX8_door_32 : decode cX8_door 32 = .ok (.ireturn, 1) := by decide +kernel
theorem dX8_door_33 : decode cX8_door 33 = .ok (.aload_n 0, 1) := by decide +kernel
theorem dX8_door_34 : decode cX8_door 34 = .ok (.getfield 25, 3) := by decide +kernel
theorem dX8_door_37 : decode cX8_door 37 = .ok (.iload_n 1, 1) := by decide +kernel
theorem dX8_door_38 : decode cX8_door 38 = .ok (.invokevirtual 199, 3) := by decide +kernel
theorem dX8_door_41 : decode cX8_door 41 = .ok (.istore 4, 2) := by decide +kernel
theorem dX8_door_43 : decode cX8_door 43 = .ok (.iload_n 2, 1) := by decide +kernel
theorem dX8_door_44 : decode cX8_door 44 = .ok (.ifCond .ne 8, 3) := by decide +kernel
theorem dX8_door_47 : decode cX8_door 47 = .ok (.iload 4, 2) := by decide +kernel
theorem dX8_door_49 : decode cX8_door 49 = .ok (.goto 29, 3) := by decide +kernel
theorem dX8_door_52 : decode cX8_door 52 = .ok (.aload_n 0, 1) := by decide +kernel
theorem dX8_door_53 : decode cX8_door 53 = .ok (.getfield 43, 3) := by decide +kernel
theorem dX8_door_56 : decode cX8_door 56 = .ok (.aload_n 0, 1) := by decide +kernel
theorem dX8_door_57 : decode cX8_door 57 = .ok (.getfield 25, 3) := by decide +kernel
theorem dX8_door_60 : decode cX8_door 60 = .ok (.invokevirtual 156, 3) := by decide +kernel
theorem dX8_door_63 : decode cX8_door 63 = .ok (.iload 4, 2) := by decide +kernel
theorem dX8_door_65 : decode cX8_door 65 = .ok (.aload_n 0, 1) := by decide +kernel
theorem dX8_door_66 : decode cX8_door 66 = .ok (.getfield 25, 3) := by decide +kernel
theorem dX8_door_69 : decode cX8_door 69 = .ok (.invokevirtual 185, 3) := by decide +kernel
theorem dX8_door_72 : decode cX8_door 72 = .ok (.invokevirtual 211, 3) := by decide +kernel
theorem dX8_door_75 : decode cX8_door 75 = .ok (.invokestatic 176, 3) := by decide +kernel
theorem dX8_door_78 : decode cX8_door 78 = .ok (.ireturn, 1) := by decide +kernel
set_option maxRecDepth 20000 in
theorem ggX8_ahead_X8_isPerson : GoodIn wsX8_ahead wsX8_isPerson := goodIn_r _ [8, 3, 9, 10, 11, 7, 12, 88, 89, 90, 91, 92, 93, 94, 95, 96, 97, 98, 99, 100, 101, 102, 103, 104, 105] (by decide +kernel) (by decide +kernel)
set_option maxRecDepth 20000 in
theorem gX8_ahead_X8_isPerson : GoodIn wsX8_ahead (wsV RX8 167 RX8 yX8_isPerson wsX8_isPerson) := goodIn_app (goodIn_of _ (by decide +kernel)) ggX8_ahead_X8_isPerson
set_option maxRecDepth 20000 in
theorem ggX8_ahead_X8_within : GoodIn wsX8_ahead wsX8_within := goodIn_r _ [12] (by decide +kernel) (by decide +kernel)
set_option maxRecDepth 20000 in
theorem gX8_ahead_X8_within : GoodIn wsX8_ahead (va_wsS RX8 66 yX8_within wsX8_within) := goodIn_app (goodIn_of _ (by decide +kernel)) ggX8_ahead_X8_within
set_option maxRecDepth 20000 in
theorem ggX8_ahead_X2_whenThrough : GoodIn wsX8_ahead wsX2_whenThrough := goodIn_r _ [17, 18, 19, 20, 21, 16, 22, 23, 24, 25, 26, 27, 28, 29, 30, 31, 32, 33, 34, 35, 36, 37, 38, 39, 40, 41, 42, 43, 44, 45, 46, 47, 48, 49, 50, 51, 52, 53, 54, 55, 56, 57, 58, 59, 60, 61, 62, 63, 64, 65, 66, 67, 68, 69, 70, 71, 72, 73, 74, 75, 76, 77, 78, 79, 80, 81, 82, 83, 84, 85, 86, 87, 97, 98, 99, 100, 101, 102, 103, 104, 105, 106, 107, 108, 109, 110, 111, 112, 113] (by decide +kernel) (by decide +kernel)
set_option maxRecDepth 20000 in
theorem gX8_ahead_X2_whenThrough : GoodIn wsX8_ahead (wsV RX8 214 RX2 yX2_whenThrough wsX2_whenThrough) := goodIn_app (goodIn_of _ (by decide +kernel)) ggX8_ahead_X2_whenThrough
theorem dX8_ahead_0 : decode cX8_ahead 0 = .ok (.aload_n 0, 1) := by decide +kernel
theorem dX8_ahead_1 : decode cX8_ahead 1 = .ok (.iload_n 1, 1) := by decide +kernel
theorem dX8_ahead_2 : decode cX8_ahead 2 = .ok (.invokevirtual 167, 3) := by decide +kernel
theorem dX8_ahead_5 : decode cX8_ahead 5 = .ok (.ifCond .eq 13, 3) := by decide +kernel
theorem dX8_ahead_8 : decode cX8_ahead 8 = .ok (.iload_n 2, 1) := by decide +kernel
theorem dX8_ahead_9 : decode cX8_ahead 9 = .ok (.iconst 0, 1) := by decide +kernel
theorem dX8_ahead_10 : decode cX8_ahead 10 = .ok (.bipush 60, 2) := by decide +kernel
theorem dX8_ahead_12 : decode cX8_ahead 12 = .ok (.invokestatic 66, 3) := by decide +kernel
theorem dX8_ahead_15 : decode cX8_ahead 15 = .ok (.ifCond .ne 6, 3) := by decide +kernel
theorem dX8_ahead_18 : decode cX8_ahead 18 = .ok (.ldc 70, 2) := by decide +kernel
theorem dX8_ahead_20 : decode cX8_ahead 20 = .ok (.ireturn, 1) := by decide +kernel
theorem dX8_ahead_21 : decode cX8_ahead 21 = .ok (.aload_n 0, 1) := by decide +kernel
theorem dX8_ahead_22 : decode cX8_ahead 22 = .ok (.getfield 43, 3) := by decide +kernel
theorem dX8_ahead_25 : decode cX8_ahead 25 = .ok (.aload_n 0, 1) := by decide +kernel
theorem dX8_ahead_26 : decode cX8_ahead 26 = .ok (.getfield 25, 3) := by decide +kernel
theorem dX8_ahead_29 : decode cX8_ahead 29 = .ok (.iload_n 1, 1) := by decide +kernel
theorem dX8_ahead_30 : decode cX8_ahead 30 = .ok (.invokevirtual 214, 3) := by decide +kernel
theorem dX8_ahead_33 : decode cX8_ahead 33 = .ok (.istore_n 3, 1) := by decide +kernel
theorem dX8_ahead_34 : decode cX8_ahead 34 = .ok (.iload_n 3, 1) := by decide +kernel
theorem dX8_ahead_35 : decode cX8_ahead 35 = .ok (.ifCond .lt 12, 3) := by decide +kernel
theorem dX8_ahead_38 : decode cX8_ahead 38 = .ok (.iload_n 3, 1) := by decide +kernel
theorem dX8_ahead_39 : decode cX8_ahead 39 = .ok (.iload_n 2, 1) := by decide +kernel
theorem dX8_ahead_40 : decode cX8_ahead 40 = .ok (.if_icmp .gt 7, 3) := by decide +kernel
theorem dX8_ahead_43 : decode cX8_ahead 43 = .ok (.iconst 1, 1) := by decide +kernel
theorem dX8_ahead_44 : decode cX8_ahead 44 = .ok (.goto 4, 3) := by decide +kernel
theorem dX8_ahead_47 : decode cX8_ahead 47 = .ok (.iconst 0, 1) := by decide +kernel
theorem dX8_ahead_48 : decode cX8_ahead 48 = .ok (.ireturn, 1) := by decide +kernel
set_option maxRecDepth 20000 in
theorem ggX8_waitAhead_X8_isDoor : GoodIn wsX8_waitAhead wsX8_isDoor := goodIn_r _ [12, 2, 13, 14, 15, 11, 16, 94, 95, 96, 97, 98, 99, 100, 101, 102, 107, 108, 109, 110, 111, 112, 113, 114, 115] (by decide +kernel) (by decide +kernel)
set_option maxRecDepth 20000 in
theorem gX8_waitAhead_X8_isDoor : GoodIn wsX8_waitAhead (wsV RX8 170 RX8 yX8_isDoor wsX8_isDoor) := goodIn_app (goodIn_of _ (by decide +kernel)) ggX8_waitAhead_X8_isDoor
set_option maxRecDepth 20000 in
theorem ggX8_waitAhead_X8_within : GoodIn wsX8_waitAhead wsX8_within := goodIn_r _ [16] (by decide +kernel) (by decide +kernel)
set_option maxRecDepth 20000 in
theorem gX8_waitAhead_X8_within : GoodIn wsX8_waitAhead (va_wsS RX8 66 yX8_within wsX8_within) := goodIn_app (goodIn_of _ (by decide +kernel)) ggX8_waitAhead_X8_within
set_option maxRecDepth 20000 in
theorem ggX8_waitAhead_X8_refusal : GoodIn wsX8_waitAhead wsX8_refusal := goodIn_r _ [20, 2, 21, 22, 23, 94, 95, 96, 97, 98, 99, 100, 101, 102, 107, 108, 109, 110, 111, 112, 113, 114, 115] (by decide +kernel) (by decide +kernel)
set_option maxRecDepth 20000 in
theorem gX8_waitAhead_X8_refusal : GoodIn wsX8_waitAhead (wsV RX8 149 RX8 yX8_refusal wsX8_refusal) := goodIn_app (goodIn_of _ (by decide +kernel)) ggX8_waitAhead_X8_refusal
set_option maxRecDepth 20000 in
theorem ggX8_waitAhead_X2_lineAt : GoodIn wsX8_waitAhead wsX2_lineAt := goodIn_r _ [28, 29, 30, 31, 32, 33, 34, 35, 36, 37, 38, 27, 39, 40, 41, 42, 43, 44, 45, 46, 47, 48, 49, 50, 51, 52, 53, 54, 55, 56, 57, 58, 59, 60, 61, 62, 63, 64, 65, 66, 67, 68, 69, 70, 71, 72, 73, 74, 75, 76, 77, 78, 79, 80, 81, 82, 83, 84, 85, 107, 108, 109, 110, 111, 112, 113, 114, 115, 116, 117, 118, 119, 103, 104, 105, 106] (by decide +kernel) (by decide +kernel)
set_option maxRecDepth 20000 in
theorem gX8_waitAhead_X2_lineAt : GoodIn wsX8_waitAhead (wsV RX8 218 RX2 yX2_lineAt wsX2_lineAt) := goodIn_app (goodIn_of _ (by decide +kernel)) ggX8_waitAhead_X2_lineAt
set_option maxRecDepth 20000 in
theorem ggX8_waitAhead_X3_waitingAt : GoodIn wsX8_waitAhead wsX3_waitingAt := goodIn_r _ [33, 34, 35, 107, 108, 109, 110, 111, 112, 113, 114, 115] (by decide +kernel) (by decide +kernel)
set_option maxRecDepth 20000 in
theorem gX8_waitAhead_X3_waitingAt : GoodIn wsX8_waitAhead (wsV RX8 199 RX3 yX3_waitingAt wsX3_waitingAt) := goodIn_app (goodIn_of _ (by decide +kernel)) ggX8_waitAhead_X3_waitingAt
set_option maxRecDepth 20000 in
theorem ggX8_waitAhead_J6_bitCount_0f7a4 : GoodIn wsX8_waitAhead wsJ6_bitCount_0f7a4 := goodIn_r _ [90, 91, 92, 93] (by decide +kernel) (by decide +kernel)
set_option maxRecDepth 20000 in
theorem gX8_waitAhead_J6_bitCount_0f7a4 : GoodIn wsX8_waitAhead (va_wsS RX8 188 yJ6_bitCount_0f7a4 wsJ6_bitCount_0f7a4) := goodIn_app (goodIn_of _ (by decide +kernel)) ggX8_waitAhead_J6_bitCount_0f7a4
theorem dX8_waitAhead_0 : decode cX8_waitAhead 0 = .ok (.aload_n 0, 1) := by decide +kernel
theorem dX8_waitAhead_1 : decode cX8_waitAhead 1 = .ok (.aload_n 0, 1) := by decide +kernel
theorem dX8_waitAhead_2 : decode cX8_waitAhead 2 = .ok (.iload_n 1, 1) := by decide +kernel
theorem dX8_waitAhead_3 : decode cX8_waitAhead 3 = .ok (.invokevirtual 170, 3) := by decide +kernel
theorem dX8_waitAhead_6 : decode cX8_waitAhead 6 = .ok (.ifCond .eq 17, 3) := by decide +kernel
theorem dX8_waitAhead_9 : decode cX8_waitAhead 9 = .ok (.iload_n 2, 1) := by decide +kernel
theorem dX8_waitAhead_10 : decode cX8_waitAhead 10 = .ok (.iconst 0, 1) := by decide +kernel
theorem dX8_waitAhead_11 : decode cX8_waitAhead 11 = .ok (.bipush 60, 2) := by decide +kernel
theorem dX8_waitAhead_13 : decode cX8_waitAhead 13 = .ok (.invokestatic 66, 3) := by decide +kernel
theorem dX8_waitAhead_16 : decode cX8_waitAhead 16 = .ok (.ifCond .eq 7, 3) := by decide +kernel
theorem dX8_waitAhead_19 : decode cX8_waitAhead 19 = .ok (.iconst 1, 1) := by decide +kernel
theorem dX8_waitAhead_20 : decode cX8_waitAhead 20 = .ok (.goto 4, 3) := by decide +kernel
theorem dX8_waitAhead_23 : decode cX8_waitAhead 23 = .ok (.iconst 0, 1) := by decide +kernel
theorem dX8_waitAhead_24 : decode cX8_waitAhead 24 = .ok (.invokevirtual 149, 3) := by decide +kernel
theorem dX8_waitAhead_27 : decode cX8_waitAhead 27 = .ok (.istore_n 3, 1) := by decide +kernel
theorem dX8_waitAhead_28 : decode cX8_waitAhead 28 = .ok (.iload_n 3, 1) := by decide +kernel
theorem dX8_waitAhead_29 : decode cX8_waitAhead 29 = .ok (.ifCond .eq 5, 3) := by decide +kernel
theorem dX8_waitAhead_32 : decode cX8_waitAhead 32 = .ok (.iload_n 3, 1) := by decide +kernel
theorem dX8_waitAhead_33 : decode cX8_waitAhead 33 = .ok (.ireturn, 1) := by decide +kernel
theorem dX8_waitAhead_34 : decode cX8_waitAhead 34 = .ok (.aload_n 0, 1) := by decide +kernel
theorem dX8_waitAhead_35 : decode cX8_waitAhead 35 = .ok (.getfield 43, 3) := by decide +kernel
theorem dX8_waitAhead_38 : decode cX8_waitAhead 38 = .ok (.aload_n 0, 1) := by decide +kernel
theorem dX8_waitAhead_39 : decode cX8_waitAhead 39 = .ok (.getfield 25, 3) := by decide +kernel
theorem dX8_waitAhead_42 : decode cX8_waitAhead 42 = .ok (.iload_n 1, 1) := by decide +kernel
theorem dX8_waitAhead_43 : decode cX8_waitAhead 43 = .ok (.invokevirtual 218, 3) := by decide +kernel
theorem dX8_waitAhead_46 : decode cX8_waitAhead 46 = .ok (.astore 4, 2) := by decide +kernel
theorem dX8_waitAhead_48 : decode cX8_waitAhead 48 = .ok (.aload_n 0, 1) := by decide +kernel
theorem dX8_waitAhead_49 : decode cX8_waitAhead 49 = .ok (.getfield 25, 3) := by decide +kernel
theorem dX8_waitAhead_52 : decode cX8_waitAhead 52 = .ok (.iload_n 1, 1) := by decide +kernel
theorem dX8_waitAhead_53 : decode cX8_waitAhead 53 = .ok (.invokevirtual 199, 3) := by decide +kernel
theorem dX8_waitAhead_56 : decode cX8_waitAhead 56 = .ok (.invokestatic 188, 3) := by decide +kernel
theorem dX8_waitAhead_59 : decode cX8_waitAhead 59 = .ok (.iload_n 2, 1) := by decide +kernel
theorem dX8_waitAhead_60 : decode cX8_waitAhead 60 = .ok (.aload 4, 2) := by decide +kernel
theorem dX8_waitAhead_62 : decode cX8_waitAhead 62 = .ok (.getfield 222, 3) := by decide +kernel
theorem dX8_waitAhead_65 : decode cX8_waitAhead 65 = .ok (.invokestatic 227, 3) := by decide +kernel
theorem dX8_waitAhead_68 : decode cX8_waitAhead 68 = .ok (.isub, 1) := by decide +kernel
theorem dX8_waitAhead_69 : decode cX8_waitAhead 69 = .ok (.ireturn, 1) := by decide +kernel
set_option maxRecDepth 20000 in
theorem ggX8_goes_X8_isPerson : GoodIn wsX8_goes wsX8_isPerson := goodIn_r _ [8, 2, 9, 10, 11, 7, 12, 92, 93, 94, 95, 96, 97, 98, 99, 100, 101, 102, 103, 104, 105, 106, 107, 108, 109] (by decide +kernel) (by decide +kernel)
set_option maxRecDepth 20000 in
theorem gX8_goes_X8_isPerson : GoodIn wsX8_goes (wsV RX8 167 RX8 yX8_isPerson wsX8_isPerson) := goodIn_app (goodIn_of _ (by decide +kernel)) ggX8_goes_X8_isPerson
set_option maxRecDepth 20000 in
theorem ggX8_goes_X2_whenThrough : GoodIn wsX8_goes wsX2_whenThrough := goodIn_r _ [17, 18, 19, 20, 21, 16, 22, 23, 24, 25, 26, 27, 28, 29, 30, 31, 32, 33, 34, 35, 36, 37, 38, 39, 40, 41, 42, 43, 44, 45, 46, 47, 48, 49, 50, 51, 52, 53, 54, 55, 56, 57, 58, 59, 60, 61, 62, 63, 64, 65, 66, 67, 68, 69, 70, 71, 72, 73, 74, 75, 76, 77, 78, 79, 80, 81, 82, 83, 84, 85, 86, 87, 101, 102, 103, 104, 105, 106, 107, 108, 109, 110, 111, 112, 113, 114, 115, 116, 117] (by decide +kernel) (by decide +kernel)
set_option maxRecDepth 20000 in
theorem gX8_goes_X2_whenThrough : GoodIn wsX8_goes (wsV RX8 214 RX2 yX2_whenThrough wsX2_whenThrough) := goodIn_app (goodIn_of _ (by decide +kernel)) ggX8_goes_X2_whenThrough
set_option maxRecDepth 20000 in
theorem ggX8_goes_X8_orNone : GoodIn wsX8_goes wsX8_orNone := goodIn_r _ [90, 91] (by decide +kernel) (by decide +kernel)
set_option maxRecDepth 20000 in
theorem gX8_goes_X8_orNone : GoodIn wsX8_goes (va_wsS RX8 176 yX8_orNone wsX8_orNone) := goodIn_app (goodIn_of _ (by decide +kernel)) ggX8_goes_X8_orNone
theorem dX8_goes_0 : decode cX8_goes 0 = .ok (.aload_n 0, 1) := by decide +kernel
theorem dX8_goes_1 : decode cX8_goes 1 = .ok (.iload_n 1, 1) := by decide +kernel
theorem dX8_goes_2 : decode cX8_goes 2 = .ok (.invokevirtual 167, 3) := by decide +kernel
theorem dX8_goes_5 : decode cX8_goes 5 = .ok (.ifCond .eq 21, 3) := by decide +kernel
theorem dX8_goes_8 : decode cX8_goes 8 = .ok (.aload_n 0, 1) := by decide +kernel
theorem dX8_goes_9 : decode cX8_goes 9 = .ok (.getfield 43, 3) := by decide +kernel
theorem dX8_goes_12 : decode cX8_goes 12 = .ok (.aload_n 0, 1) := by decide +kernel
theorem dX8_goes_13 : decode cX8_goes 13 = .ok (.getfield 25, 3) := by decide +kernel
theorem dX8_goes_16 : decode cX8_goes 16 = .ok (.iload_n 1, 1) := by decide +kernel
theorem dX8_goes_17 : decode cX8_goes 17 = .ok (.invokevirtual 214, 3) := by decide +kernel
theorem dX8_goes_20 : decode cX8_goes 20 = .ok (.invokestatic 176, 3) := by decide +kernel
theorem dX8_goes_23 : decode cX8_goes 23 = .ok (.goto 5, 3) := by decide +kernel
theorem dX8_goes_26 : decode cX8_goes 26 = .ok (.ldc 70, 2) := by decide +kernel
theorem dX8_goes_28 : decode cX8_goes 28 = .ok (.ireturn, 1) := by decide +kernel
set_option maxRecDepth 20000 in
theorem ggX8_stuck_X2_lineAt : GoodIn wsX8_stuck wsX2_lineAt := goodIn_r _ [11, 12, 13, 14, 15, 16, 17, 18, 19, 20, 21, 10, 22, 23, 24, 25, 26, 27, 28, 29, 30, 31, 32, 33, 34, 35, 36, 37, 38, 39, 40, 41, 42, 43, 44, 45, 46, 47, 48, 49, 50, 51, 52, 53, 54, 55, 56, 57, 58, 59, 60, 61, 62, 63, 64, 65, 66, 67, 68, 78, 79, 80, 81, 82, 83, 84, 85, 86, 91, 92, 93, 94, 87, 88, 89, 90] (by decide +kernel) (by decide +kernel)
set_option maxRecDepth 20000 in
theorem gX8_stuck_X2_lineAt : GoodIn wsX8_stuck (wsV RX8 218 RX2 yX2_lineAt wsX2_lineAt) := goodIn_app (goodIn_of _ (by decide +kernel)) ggX8_stuck_X2_lineAt
theorem dX8_stuck_0 : decode cX8_stuck 0 = .ok (.aload_n 0, 1) := by decide +kernel
theorem dX8_stuck_1 : decode cX8_stuck 1 = .ok (.getfield 25, 3) := by decide +kernel
theorem dX8_stuck_4 : decode cX8_stuck 4 = .ok (.getfield 139, 3) := by decide +kernel
theorem dX8_stuck_7 : decode cX8_stuck 7 = .ok (.ifCond .ne 6, 3) := by decide +kernel
theorem dX8_stuck_10 : decode cX8_stuck 10 = .ok (.ldc 145, 2) := by decide +kernel
theorem dX8_stuck_12 : decode cX8_stuck 12 = .ok (.ireturn, 1) := by decide +kernel
theorem dX8_stuck_13 : decode cX8_stuck 13 = .ok (.iconst 0, 1) := by decide +kernel
theorem dX8_stuck_14 : decode cX8_stuck 14 = .ok (.istore_n 1, 1) := by decide +kernel
theorem dX8_stuck_15 : decode cX8_stuck 15 = .ok (.iconst 0, 1) := by decide +kernel
theorem dX8_stuck_16 : decode cX8_stuck 16 = .ok (.istore_n 2, 1) := by decide +kernel
theorem dX8_stuck_17 : decode cX8_stuck 17 = .ok (.iload_n 2, 1) := by decide +kernel
theorem dX8_stuck_18 : decode cX8_stuck 18 = .ok (.aload_n 0, 1) := by decide +kernel
theorem dX8_stuck_19 : decode cX8_stuck 19 = .ok (.getfield 25, 3) := by decide +kernel
theorem dX8_stuck_22 : decode cX8_stuck 22 = .ok (.getfield 232, 3) := by decide +kernel
theorem dX8_stuck_25 : decode cX8_stuck 25 = .ok (.if_icmp .ge 27, 3) := by decide +kernel
theorem dX8_stuck_28 : decode cX8_stuck 28 = .ok (.iload_n 1, 1) := by decide +kernel
theorem dX8_stuck_29 : decode cX8_stuck 29 = .ok (.aload_n 0, 1) := by decide +kernel
theorem dX8_stuck_30 : decode cX8_stuck 30 = .ok (.getfield 43, 3) := by decide +kernel
theorem dX8_stuck_33 : decode cX8_stuck 33 = .ok (.aload_n 0, 1) := by decide +kernel
theorem dX8_stuck_34 : decode cX8_stuck 34 = .ok (.getfield 25, 3) := by decide +kernel
theorem dX8_stuck_37 : decode cX8_stuck 37 = .ok (.iload_n 2, 1) := by decide +kernel
theorem dX8_stuck_38 : decode cX8_stuck 38 = .ok (.invokevirtual 218, 3) := by decide +kernel
theorem dX8_stuck_41 : decode cX8_stuck 41 = .ok (.getfield 235, 3) := by decide +kernel
theorem dX8_stuck_44 : decode cX8_stuck 44 = .ok (.ior, 1) := by decide +kernel
theorem dX8_stuck_45 : decode cX8_stuck 45 = .ok (.istore_n 1, 1) := by decide +kernel
theorem dX8_stuck_46 : decode cX8_stuck 46 = .ok (.iinc 2 1, 3) := by decide +kernel
theorem dX8_stuck_49 : decode cX8_stuck 49 = .ok (.goto (-32), 3) := by decide +kernel
theorem dX8_stuck_52 : decode cX8_stuck 52 = .ok (.iload_n 1, 1) := by decide +kernel
theorem dX8_stuck_53 : decode cX8_stuck 53 = .ok (.ireturn, 1) := by decide +kernel
set_option maxRecDepth 20000 in
theorem ggX8_ring_X8_isDoor : GoodIn wsX8_ring wsX8_isDoor := goodIn_r _ [7, 2, 8, 9, 10, 6, 11, 70, 71, 72, 73, 74, 75, 76, 77, 78, 79, 80, 81, 82, 83, 84, 85, 86, 87] (by decide +kernel) (by decide +kernel)
set_option maxRecDepth 20000 in
theorem gX8_ring_X8_isDoor : GoodIn wsX8_ring (wsV RX8 170 RX8 yX8_isDoor wsX8_isDoor) := goodIn_app (goodIn_of _ (by decide +kernel)) ggX8_ring_X8_isDoor
set_option maxRecDepth 20000 in
theorem ggX8_ring_X8_within : GoodIn wsX8_ring wsX8_within := goodIn_r _ [11] (by decide +kernel) (by decide +kernel)
set_option maxRecDepth 20000 in
theorem gX8_ring_X8_within : GoodIn wsX8_ring (va_wsS RX8 66 yX8_within wsX8_within) := goodIn_app (goodIn_of _ (by decide +kernel)) ggX8_ring_X8_within
set_option maxRecDepth 20000 in
theorem ggX8_ring_X8_refusal : GoodIn wsX8_ring wsX8_refusal := goodIn_r _ [15, 2, 16, 17, 18, 70, 71, 72, 73, 74, 75, 76, 77, 78, 79, 80, 81, 82, 83, 84, 85, 86, 87] (by decide +kernel) (by decide +kernel)
set_option maxRecDepth 20000 in
theorem gX8_ring_X8_refusal : GoodIn wsX8_ring (wsV RX8 149 RX8 yX8_refusal wsX8_refusal) := goodIn_app (goodIn_of _ (by decide +kernel)) ggX8_ring_X8_refusal
set_option maxRecDepth 20000 in
theorem ggX8_ring_X2_leastRing : GoodIn wsX8_ring wsX2_leastRing := goodIn_r _ [23, 24, 25, 26, 27, 28, 29, 30, 31, 32, 33, 34, 35, 36, 37, 38, 39, 40, 41, 42, 43, 44, 45, 46, 47, 48, 49, 50, 51, 52, 22, 53, 54, 55, 56, 57, 58, 59, 60, 61, 62, 63, 64, 88, 89, 90, 91, 79, 80, 81, 82, 83, 84, 85, 86, 87] (by decide +kernel) (by decide +kernel)
set_option maxRecDepth 20000 in
theorem gX8_ring_X2_leastRing : GoodIn wsX8_ring (wsV RX8 238 RX2 yX2_leastRing wsX2_leastRing) := goodIn_app (goodIn_of _ (by decide +kernel)) ggX8_ring_X2_leastRing
set_option maxRecDepth 20000 in
theorem ggX8_ring_X8_setAnswer : GoodIn wsX8_ring wsX8_setAnswer := goodIn_r _ [67, 68, 69, 55, 56, 57, 58, 59, 60] (by decide +kernel) (by decide +kernel)
set_option maxRecDepth 20000 in
theorem gX8_ring_X8_setAnswer : GoodIn wsX8_ring (va_wsS RX8 241 yX8_setAnswer wsX8_setAnswer) := goodIn_app (goodIn_of _ (by decide +kernel)) ggX8_ring_X8_setAnswer
theorem dX8_ring_0 : decode cX8_ring 0 = .ok (.aload_n 0, 1) := by decide +kernel
theorem dX8_ring_1 : decode cX8_ring 1 = .ok (.aload_n 0, 1) := by decide +kernel
theorem dX8_ring_2 : decode cX8_ring 2 = .ok (.iload_n 1, 1) := by decide +kernel
theorem dX8_ring_3 : decode cX8_ring 3 = .ok (.invokevirtual 170, 3) := by decide +kernel
theorem dX8_ring_6 : decode cX8_ring 6 = .ok (.ifCond .eq 16, 3) := by decide +kernel
theorem dX8_ring_9 : decode cX8_ring 9 = .ok (.iload_n 2, 1) := by decide +kernel
theorem dX8_ring_10 : decode cX8_ring 10 = .ok (.iconst 0, 1) := by decide +kernel
theorem dX8_ring_11 : decode cX8_ring 11 = .ok (.iconst 1, 1) := by decide +kernel
theorem dX8_ring_12 : decode cX8_ring 12 = .ok (.invokestatic 66, 3) := by decide +kernel
theorem dX8_ring_15 : decode cX8_ring 15 = .ok (.ifCond .eq 7, 3) := by decide +kernel
theorem dX8_ring_18 : decode cX8_ring 18 = .ok (.iconst 1, 1) := by decide +kernel
theorem dX8_ring_19 : decode cX8_ring 19 = .ok (.goto 4, 3) := by decide +kernel
theorem dX8_ring_22 : decode cX8_ring 22 = .ok (.iconst 0, 1) := by decide +kernel
theorem dX8_ring_23 : decode cX8_ring 23 = .ok (.invokevirtual 149, 3) := by decide +kernel
theorem dX8_ring_26 : decode cX8_ring 26 = .ok (.istore_n 3, 1) := by decide +kernel
theorem dX8_ring_27 : decode cX8_ring 27 = .ok (.iload_n 3, 1) := by decide +kernel
theorem dX8_ring_28 : decode cX8_ring 28 = .ok (.ifCond .eq 5, 3) := by decide +kernel
theorem dX8_ring_31 : decode cX8_ring 31 = .ok (.iload_n 3, 1) := by decide +kernel
theorem dX8_ring_32 : decode cX8_ring 32 = .ok (.ireturn, 1) := by decide +kernel
theorem dX8_ring_33 : decode cX8_ring 33 = .ok (.aload_n 0, 1) := by decide +kernel
theorem dX8_ring_34 : decode cX8_ring 34 = .ok (.getfield 43, 3) := by decide +kernel
theorem dX8_ring_37 : decode cX8_ring 37 = .ok (.aload_n 0, 1) := by decide +kernel
theorem dX8_ring_38 : decode cX8_ring 38 = .ok (.getfield 25, 3) := by decide +kernel
theorem dX8_ring_41 : decode cX8_ring 41 = .ok (.iload_n 1, 1) := by decide +kernel
theorem dX8_ring_42 : decode cX8_ring 42 = .ok (.invokevirtual 238, 3) := by decide +kernel
theorem dX8_ring_45 : decode cX8_ring 45 = .ok (.iload_n 2, 1) := by decide +kernel
theorem dX8_ring_46 : decode cX8_ring 46 = .ok (.invokestatic 241, 3) := by decide +kernel
theorem dX8_ring_49 : decode cX8_ring 49 = .ok (.ireturn, 1) := by decide +kernel
set_option maxRecDepth 20000 in
theorem ggX8_bows_X8_isDoor : GoodIn wsX8_bows wsX8_isDoor := goodIn_r _ [7, 2, 8, 9, 10, 6, 11, 100, 101, 102, 103, 104, 105, 106, 107, 108, 109, 110, 111, 112, 113, 114, 115, 116, 117] (by decide +kernel) (by decide +kernel)
set_option maxRecDepth 20000 in
theorem gX8_bows_X8_isDoor : GoodIn wsX8_bows (wsV RX8 170 RX8 yX8_isDoor wsX8_isDoor) := goodIn_app (goodIn_of _ (by decide +kernel)) ggX8_bows_X8_isDoor
set_option maxRecDepth 20000 in
theorem ggX8_bows_X8_within : GoodIn wsX8_bows wsX8_within := goodIn_r _ [11] (by decide +kernel) (by decide +kernel)
set_option maxRecDepth 20000 in
theorem gX8_bows_X8_within : GoodIn wsX8_bows (va_wsS RX8 66 yX8_within wsX8_within) := goodIn_app (goodIn_of _ (by decide +kernel)) ggX8_bows_X8_within
set_option maxRecDepth 20000 in
theorem ggX8_bows_X8_refusal : GoodIn wsX8_bows wsX8_refusal := goodIn_r _ [15, 2, 16, 17, 18, 100, 101, 102, 103, 104, 105, 106, 107, 108, 109, 110, 111, 112, 113, 114, 115, 116, 117] (by decide +kernel) (by decide +kernel)
set_option maxRecDepth 20000 in
theorem gX8_bows_X8_refusal : GoodIn wsX8_bows (wsV RX8 149 RX8 yX8_refusal wsX8_refusal) := goodIn_app (goodIn_of _ (by decide +kernel)) ggX8_bows_X8_refusal
set_option maxRecDepth 20000 in
theorem ggX8_bows_X2_fewestBows : GoodIn wsX8_bows wsX2_fewestBows := goodIn_r _ [23, 24, 25, 26, 27, 28, 29, 30, 31, 32, 33, 34, 35, 36, 37, 38, 39, 40, 41, 42, 43, 44, 45, 46, 47, 22, 48, 49, 50, 51, 52, 53, 54, 55, 56, 57, 58, 59, 60, 61, 62, 63, 64, 65, 66, 67, 68, 69, 70, 71, 72, 73, 74, 75, 76, 77, 78, 79, 80, 81, 82, 83, 84, 85, 86, 87, 88, 89, 90, 91, 92, 93, 94, 118, 119, 120, 121, 109, 110, 111, 112, 113, 114, 115, 116, 117, 122, 123, 124, 125] (by decide +kernel) (by decide +kernel)
set_option maxRecDepth 20000 in
theorem gX8_bows_X2_fewestBows : GoodIn wsX8_bows (wsV RX8 244 RX2 yX2_fewestBows wsX2_fewestBows) := goodIn_app (goodIn_of _ (by decide +kernel)) ggX8_bows_X2_fewestBows
set_option maxRecDepth 20000 in
theorem ggX8_bows_X8_setAnswer : GoodIn wsX8_bows wsX8_setAnswer := goodIn_r _ [97, 98, 99, 50, 51, 52, 53, 54, 55] (by decide +kernel) (by decide +kernel)
set_option maxRecDepth 20000 in
theorem gX8_bows_X8_setAnswer : GoodIn wsX8_bows (va_wsS RX8 241 yX8_setAnswer wsX8_setAnswer) := goodIn_app (goodIn_of _ (by decide +kernel)) ggX8_bows_X8_setAnswer
theorem dX8_bows_0 : decode cX8_bows 0 = .ok (.aload_n 0, 1) := by decide +kernel
theorem dX8_bows_1 : decode cX8_bows 1 = .ok (.aload_n 0, 1) := by decide +kernel
theorem dX8_bows_2 : decode cX8_bows 2 = .ok (.iload_n 1, 1) := by decide +kernel
theorem dX8_bows_3 : decode cX8_bows 3 = .ok (.invokevirtual 170, 3) := by decide +kernel
theorem dX8_bows_6 : decode cX8_bows 6 = .ok (.ifCond .eq 16, 3) := by decide +kernel
theorem dX8_bows_9 : decode cX8_bows 9 = .ok (.iload_n 2, 1) := by decide +kernel
theorem dX8_bows_10 : decode cX8_bows 10 = .ok (.iconst 0, 1) := by decide +kernel
theorem dX8_bows_11 : decode cX8_bows 11 = .ok (.iconst 1, 1) := by decide +kernel
theorem dX8_bows_12 : decode cX8_bows 12 = .ok (.invokestatic 66, 3) := by decide +kernel
theorem dX8_bows_15 : decode cX8_bows 15 = .ok (.ifCond .eq 7, 3) := by decide +kernel
theorem dX8_bows_18 : decode cX8_bows 18 = .ok (.iconst 1, 1) := by decide +kernel
theorem dX8_bows_19 : decode cX8_bows 19 = .ok (.goto 4, 3) := by decide +kernel
theorem dX8_bows_22 : decode cX8_bows 22 = .ok (.iconst 0, 1) := by decide +kernel
theorem dX8_bows_23 : decode cX8_bows 23 = .ok (.invokevirtual 149, 3) := by decide +kernel
theorem dX8_bows_26 : decode cX8_bows 26 = .ok (.istore_n 3, 1) := by decide +kernel
theorem dX8_bows_27 : decode cX8_bows 27 = .ok (.iload_n 3, 1) := by decide +kernel
theorem dX8_bows_28 : decode cX8_bows 28 = .ok (.ifCond .eq 5, 3) := by decide +kernel
theorem dX8_bows_31 : decode cX8_bows 31 = .ok (.iload_n 3, 1) := by decide +kernel
theorem dX8_bows_32 : decode cX8_bows 32 = .ok (.ireturn, 1) := by decide +kernel
theorem dX8_bows_33 : decode cX8_bows 33 = .ok (.aload_n 0, 1) := by decide +kernel
theorem dX8_bows_34 : decode cX8_bows 34 = .ok (.getfield 43, 3) := by decide +kernel
theorem dX8_bows_37 : decode cX8_bows 37 = .ok (.aload_n 0, 1) := by decide +kernel
theorem dX8_bows_38 : decode cX8_bows 38 = .ok (.getfield 25, 3) := by decide +kernel
theorem dX8_bows_41 : decode cX8_bows 41 = .ok (.iload_n 1, 1) := by decide +kernel
theorem dX8_bows_42 : decode cX8_bows 42 = .ok (.invokevirtual 244, 3) := by decide +kernel
theorem dX8_bows_45 : decode cX8_bows 45 = .ok (.iload_n 2, 1) := by decide +kernel
theorem dX8_bows_46 : decode cX8_bows 46 = .ok (.invokestatic 241, 3) := by decide +kernel
theorem dX8_bows_49 : decode cX8_bows 49 = .ok (.ireturn, 1) := by decide +kernel
set_option maxRecDepth 20000 in
theorem ggX8_raise_X8_isDoor : GoodIn wsX8_raise wsX8_isDoor := goodIn_r _ [7, 2, 8, 9, 10, 6, 11, 111, 112, 113, 114, 115, 116, 117, 118, 119, 120, 121, 122, 123, 124, 125, 126, 127, 128] (by decide +kernel) (by decide +kernel)
set_option maxRecDepth 20000 in
theorem gX8_raise_X8_isDoor : GoodIn wsX8_raise (wsV RX8 170 RX8 yX8_isDoor wsX8_isDoor) := goodIn_app (goodIn_of _ (by decide +kernel)) ggX8_raise_X8_isDoor
set_option maxRecDepth 20000 in
theorem ggX8_raise_X8_refusal : GoodIn wsX8_raise wsX8_refusal := goodIn_r _ [15, 2, 16, 17, 18, 111, 112, 113, 114, 115, 116, 117, 118, 119, 120, 121, 122, 123, 124, 125, 126, 127, 128] (by decide +kernel) (by decide +kernel)
set_option maxRecDepth 20000 in
theorem gX8_raise_X8_refusal : GoodIn wsX8_raise (wsV RX8 149 RX8 yX8_refusal wsX8_refusal) := goodIn_app (goodIn_of _ (by decide +kernel)) ggX8_raise_X8_refusal
set_option maxRecDepth 20000 in
theorem ggX8_raise_X2_leastRaise : GoodIn wsX8_raise wsX2_leastRaise := goodIn_r _ [23, 24, 25, 26, 27, 28, 29, 30, 22, 31, 32, 33, 34, 35, 36, 37, 38, 39, 40, 41, 42, 43, 44, 45, 46, 47, 48, 49, 50, 51, 52, 53, 54, 55, 56, 57, 58, 59, 60, 61, 62, 63, 64, 65, 66, 67, 68, 69, 70, 71, 72, 73, 74, 75, 76, 77, 78, 79, 80, 81, 82, 83, 84, 85, 86, 87, 88, 89, 90, 91, 92, 93, 94, 95, 96, 97, 98, 99, 100, 101, 102, 103, 104, 105, 106, 129, 130, 131, 132, 133, 134, 135, 120, 121, 122, 123, 124, 125, 126, 127, 128, 136] (by decide +kernel) (by decide +kernel)
set_option maxRecDepth 20000 in
theorem gX8_raise_X2_leastRaise : GoodIn wsX8_raise (wsV RX8 247 RX2 yX2_leastRaise wsX2_leastRaise) := goodIn_app (goodIn_of _ (by decide +kernel)) ggX8_raise_X2_leastRaise
set_option maxRecDepth 20000 in
theorem ggX8_raise_X8_orNone : GoodIn wsX8_raise wsX8_orNone := goodIn_r _ [109, 110] (by decide +kernel) (by decide +kernel)
set_option maxRecDepth 20000 in
theorem gX8_raise_X8_orNone : GoodIn wsX8_raise (va_wsS RX8 176 yX8_orNone wsX8_orNone) := goodIn_app (goodIn_of _ (by decide +kernel)) ggX8_raise_X8_orNone
theorem dX8_raise_0 : decode cX8_raise 0 = .ok (.aload_n 0, 1) := by decide +kernel
theorem dX8_raise_1 : decode cX8_raise 1 = .ok (.aload_n 0, 1) := by decide +kernel
theorem dX8_raise_2 : decode cX8_raise 2 = .ok (.iload_n 1, 1) := by decide +kernel
theorem dX8_raise_3 : decode cX8_raise 3 = .ok (.invokevirtual 170, 3) := by decide +kernel
theorem dX8_raise_6 : decode cX8_raise 6 = .ok (.invokevirtual 149, 3) := by decide +kernel
theorem dX8_raise_9 : decode cX8_raise 9 = .ok (.istore_n 2, 1) := by decide +kernel
theorem dX8_raise_10 : decode cX8_raise 10 = .ok (.iload_n 2, 1) := by decide +kernel
theorem dX8_raise_11 : decode cX8_raise 11 = .ok (.ifCond .eq 7, 3) := by decide +kernel
theorem dX8_raise_14 : decode cX8_raise 14 = .ok (.iload_n 2, 1) := by decide +kernel
theorem dX8_raise_15 : decode cX8_raise 15 = .ok (.goto 18, 3) := by decide +kernel
theorem dX8_raise_18 : decode cX8_raise 18 = .ok (.aload_n 0, 1) := by decide +kernel
theorem dX8_raise_19 : decode cX8_raise 19 = .ok (.getfield 43, 3) := by decide +kernel
theorem dX8_raise_22 : decode cX8_raise 22 = .ok (.aload_n 0, 1) := by decide +kernel
theorem dX8_raise_23 : decode cX8_raise 23 = .ok (.getfield 25, 3) := by decide +kernel
theorem dX8_raise_26 : decode cX8_raise 26 = .ok (.iload_n 1, 1) := by decide +kernel
theorem dX8_raise_27 : decode cX8_raise 27 = .ok (.invokevirtual 247, 3) := by decide +kernel
theorem dX8_raise_30 : decode cX8_raise 30 = .ok (.invokestatic 176, 3) := by decide +kernel
theorem dX8_raise_33 : decode cX8_raise 33 = .ok (.ireturn, 1) := by decide +kernel
set_option maxRecDepth 20000 in
theorem ggX8_third_X8_isDoor : GoodIn wsX8_third wsX8_isDoor := goodIn_r _ [7, 2, 8, 9, 10, 6, 11, 100, 101, 102, 103, 104, 105, 106, 107, 108, 109, 110, 111, 112, 113, 114, 115, 116, 117] (by decide +kernel) (by decide +kernel)
set_option maxRecDepth 20000 in
theorem gX8_third_X8_isDoor : GoodIn wsX8_third (wsV RX8 170 RX8 yX8_isDoor wsX8_isDoor) := goodIn_app (goodIn_of _ (by decide +kernel)) ggX8_third_X8_isDoor
set_option maxRecDepth 20000 in
theorem ggX8_third_X8_within : GoodIn wsX8_third wsX8_within := goodIn_r _ [11] (by decide +kernel) (by decide +kernel)
set_option maxRecDepth 20000 in
theorem gX8_third_X8_within : GoodIn wsX8_third (va_wsS RX8 66 yX8_within wsX8_within) := goodIn_app (goodIn_of _ (by decide +kernel)) ggX8_third_X8_within
set_option maxRecDepth 20000 in
theorem ggX8_third_X8_refusal : GoodIn wsX8_third wsX8_refusal := goodIn_r _ [15, 2, 16, 17, 18, 100, 101, 102, 103, 104, 105, 106, 107, 108, 109, 110, 111, 112, 113, 114, 115, 116, 117] (by decide +kernel) (by decide +kernel)
set_option maxRecDepth 20000 in
theorem gX8_third_X8_refusal : GoodIn wsX8_third (wsV RX8 149 RX8 yX8_refusal wsX8_refusal) := goodIn_app (goodIn_of _ (by decide +kernel)) ggX8_third_X8_refusal
set_option maxRecDepth 20000 in
theorem ggX8_third_X2_bestThird : GoodIn wsX8_third wsX2_bestThird := goodIn_r _ [23, 24, 25, 26, 27, 28, 22, 29, 30, 31, 32, 33, 34, 35, 36, 37, 38, 39, 40, 41, 42, 43, 44, 45, 46, 47, 48, 49, 50, 51, 52, 53, 54, 55, 56, 57, 58, 59, 60, 61, 62, 63, 64, 65, 66, 67, 68, 69, 70, 71, 72, 73, 74, 75, 76, 77, 78, 79, 80, 81, 82, 83, 84, 85, 86, 87, 88, 89, 90, 91, 92, 93, 94, 109, 110, 111, 112, 113, 114, 115, 116, 117, 118, 119, 120, 121, 122, 123, 124, 125] (by decide +kernel) (by decide +kernel)
set_option maxRecDepth 20000 in
theorem gX8_third_X2_bestThird : GoodIn wsX8_third (wsV RX8 250 RX2 yX2_bestThird wsX2_bestThird) := goodIn_app (goodIn_of _ (by decide +kernel)) ggX8_third_X2_bestThird
set_option maxRecDepth 20000 in
theorem ggX8_third_X8_orNone : GoodIn wsX8_third wsX8_orNone := goodIn_r _ [97, 98] (by decide +kernel) (by decide +kernel)
set_option maxRecDepth 20000 in
theorem gX8_third_X8_orNone : GoodIn wsX8_third (va_wsS RX8 176 yX8_orNone wsX8_orNone) := goodIn_app (goodIn_of _ (by decide +kernel)) ggX8_third_X8_orNone
set_option maxRecDepth 20000 in
theorem ggX8_third_X2_leftWith : GoodIn wsX8_third wsX2_leftWith := goodIn_r _ [29, 30, 31, 32, 33, 34, 35, 36, 37, 38, 39, 40, 22, 41, 42, 43, 44, 45, 46, 47, 48, 49, 50, 51, 52, 53, 54, 55, 56, 57, 58, 59, 60, 61, 62, 63, 64, 65, 66, 67, 68, 69, 70, 71, 72, 73, 74, 75, 76, 77, 78, 79, 80, 81, 82, 83, 84, 85, 86, 87, 88, 89, 90, 91, 92, 93, 94, 118, 119, 120, 121, 109, 110, 111, 112, 113, 114, 115, 116, 117, 122, 123, 124, 125] (by decide +kernel) (by decide +kernel)
set_option maxRecDepth 20000 in
theorem gX8_third_X2_leftWith : GoodIn wsX8_third (wsV RX8 253 RX2 yX2_leftWith wsX2_leftWith) := goodIn_app (goodIn_of _ (by decide +kernel)) ggX8_third_X2_leftWith
theorem dX8_third_0 : decode cX8_third 0 = .ok (.aload_n 0, 1) := by decide +kernel
theorem dX8_third_1 : decode cX8_third 1 = .ok (.aload_n 0, 1) := by decide +kernel
theorem dX8_third_2 : decode cX8_third 2 = .ok (.iload_n 1, 1) := by decide +kernel
theorem dX8_third_3 : decode cX8_third 3 = .ok (.invokevirtual 170, 3) := by decide +kernel
theorem dX8_third_6 : decode cX8_third 6 = .ok (.ifCond .eq 16, 3) := by decide +kernel
theorem dX8_third_9 : decode cX8_third 9 = .ok (.iload_n 2, 1) := by decide +kernel
theorem dX8_third_10 : decode cX8_third 10 = .ok (.iconst 0, 1) := by decide +kernel
theorem dX8_third_11 : decode cX8_third 11 = .ok (.iconst 1, 1) := by decide +kernel
theorem dX8_third_12 : decode cX8_third 12 = .ok (.invokestatic 66, 3) := by decide +kernel
theorem dX8_third_15 : decode cX8_third 15 = .ok (.ifCond .eq 7, 3) := by decide +kernel
theorem dX8_third_18 : decode cX8_third 18 = .ok (.iconst 1, 1) := by decide +kernel
theorem dX8_third_19 : decode cX8_third 19 = .ok (.goto 4, 3) := by decide +kernel
theorem dX8_third_22 : decode cX8_third 22 = .ok (.iconst 0, 1) := by decide +kernel
theorem dX8_third_23 : decode cX8_third 23 = .ok (.invokevirtual 149, 3) := by decide +kernel
theorem dX8_third_26 : decode cX8_third 26 = .ok (.istore_n 3, 1) := by decide +kernel
theorem dX8_third_27 : decode cX8_third 27 = .ok (.iload_n 3, 1) := by decide +kernel
theorem dX8_third_28 : decode cX8_third 28 = .ok (.ifCond .eq 5, 3) := by decide +kernel
theorem dX8_third_31 : decode cX8_third 31 = .ok (.iload_n 3, 1) := by decide +kernel
theorem dX8_third_32 : decode cX8_third 32 = .ok (.ireturn, 1) := by decide +kernel
theorem dX8_third_33 : decode cX8_third 33 = .ok (.aload_n 0, 1) := by decide +kernel
theorem dX8_third_34 : decode cX8_third 34 = .ok (.getfield 43, 3) := by decide +kernel
theorem dX8_third_37 : decode cX8_third 37 = .ok (.aload_n 0, 1) := by decide +kernel
theorem dX8_third_38 : decode cX8_third 38 = .ok (.getfield 25, 3) := by decide +kernel
theorem dX8_third_41 : decode cX8_third 41 = .ok (.iload_n 1, 1) := by decide +kernel
theorem dX8_third_42 : decode cX8_third 42 = .ok (.invokevirtual 250, 3) := by decide +kernel
theorem dX8_third_45 : decode cX8_third 45 = .ok (.istore 4, 2) := by decide +kernel
theorem dX8_third_47 : decode cX8_third 47 = .ok (.iload_n 2, 1) := by decide +kernel
theorem dX8_third_48 : decode cX8_third 48 = .ok (.ifCond .ne 11, 3) := by decide +kernel
theorem dX8_third_51 : decode cX8_third 51 = .ok (.iload 4, 2) := by decide +kernel
theorem dX8_third_53 : decode cX8_third 53 = .ok (.invokestatic 176, 3) := by decide +kernel
theorem dX8_third_56 : decode cX8_third 56 = .ok (.goto 20, 3) := by decide +kernel
theorem dX8_third_59 : decode cX8_third 59 = .ok (.aload_n 0, 1) := by decide +kernel
theorem dX8_third_60 : decode cX8_third 60 = .ok (.getfield 43, 3) := by decide +kernel
theorem dX8_third_63 : decode cX8_third 63 = .ok (.aload_n 0, 1) := by decide +kernel
theorem dX8_third_64 : decode cX8_third 64 = .ok (.getfield 25, 3) := by decide +kernel
theorem dX8_third_67 : decode cX8_third 67 = .ok (.iload_n 1, 1) := by decide +kernel
theorem dX8_third_68 : decode cX8_third 68 = .ok (.iload 4, 2) := by decide +kernel
theorem dX8_third_70 : decode cX8_third 70 = .ok (.invokevirtual 253, 3) := by decide +kernel
theorem dX8_third_73 : decode cX8_third 73 = .ok (.invokestatic 176, 3) := by decide +kernel
theorem dX8_third_76 : decode cX8_third 76 = .ok (.ireturn, 1) := by decide +kernel
set_option maxRecDepth 20000 in
theorem ggX8_bestDoor_X8_isPerson : GoodIn wsX8_bestDoor wsX8_isPerson := goodIn_r _ [10, 2, 11, 12, 13, 9, 14, 95, 96, 97, 98, 99, 100, 101, 102, 103, 104, 105, 106, 107, 108, 109, 110, 111, 112] (by decide +kernel) (by decide +kernel)
set_option maxRecDepth 20000 in
theorem gX8_bestDoor_X8_isPerson : GoodIn wsX8_bestDoor (wsV RX8 167 RX8 yX8_isPerson wsX8_isPerson) := goodIn_app (goodIn_of _ (by decide +kernel)) ggX8_bestDoor_X8_isPerson
set_option maxRecDepth 20000 in
theorem ggX8_bestDoor_X8_within : GoodIn wsX8_bestDoor wsX8_within := goodIn_r _ [14] (by decide +kernel) (by decide +kernel)
set_option maxRecDepth 20000 in
theorem gX8_bestDoor_X8_within : GoodIn wsX8_bestDoor (va_wsS RX8 66 yX8_within wsX8_within) := goodIn_app (goodIn_of _ (by decide +kernel)) ggX8_bestDoor_X8_within
set_option maxRecDepth 20000 in
theorem ggX8_bestDoor_X2_soonestDoor : GoodIn wsX8_bestDoor wsX2_soonestDoor := goodIn_r _ [19, 20, 21, 22, 23, 18, 24, 25, 26, 27, 28, 29, 30, 31, 32, 33, 34, 35, 36, 37, 38, 39, 40, 41, 42, 43, 44, 45, 46, 47, 48, 49, 50, 51, 52, 53, 54, 55, 56, 57, 58, 59, 60, 61, 62, 63, 64, 65, 66, 67, 68, 69, 70, 71, 72, 73, 74, 75, 76, 77, 78, 79, 80, 81, 82, 83, 84, 85, 86, 87, 88, 89, 104, 105, 106, 107, 108, 109, 110, 111, 112, 113, 114, 115, 116, 117, 118, 119, 120] (by decide +kernel) (by decide +kernel)
set_option maxRecDepth 20000 in
theorem gX8_bestDoor_X2_soonestDoor : GoodIn wsX8_bestDoor (wsV RX8 257 RX2 yX2_soonestDoor wsX2_soonestDoor) := goodIn_app (goodIn_of _ (by decide +kernel)) ggX8_bestDoor_X2_soonestDoor
set_option maxRecDepth 20000 in
theorem ggX8_bestDoor_X8_orNone : GoodIn wsX8_bestDoor wsX8_orNone := goodIn_r _ [92, 93] (by decide +kernel) (by decide +kernel)
set_option maxRecDepth 20000 in
theorem gX8_bestDoor_X8_orNone : GoodIn wsX8_bestDoor (va_wsS RX8 176 yX8_orNone wsX8_orNone) := goodIn_app (goodIn_of _ (by decide +kernel)) ggX8_bestDoor_X8_orNone
set_option maxRecDepth 20000 in
theorem ggX8_bestDoor_X2_whenAt : GoodIn wsX8_bestDoor wsX2_whenAt := goodIn_r _ [24, 25, 26, 27, 28, 29, 30, 31, 32, 33, 34, 18, 35, 36, 37, 38, 39, 40, 41, 42, 43, 44, 45, 46, 47, 48, 49, 50, 51, 52, 53, 54, 55, 56, 57, 58, 59, 60, 61, 62, 63, 64, 65, 66, 67, 68, 69, 70, 71, 72, 73, 74, 75, 76, 77, 78, 79, 80, 81, 82, 83, 84, 85, 86, 87, 88, 89, 104, 105, 106, 107, 108, 109, 110, 111, 112, 113, 114, 115, 116, 117, 118, 119, 120] (by decide +kernel) (by decide +kernel)
set_option maxRecDepth 20000 in
theorem gX8_bestDoor_X2_whenAt : GoodIn wsX8_bestDoor (wsV RX8 260 RX2 yX2_whenAt wsX2_whenAt) := goodIn_app (goodIn_of _ (by decide +kernel)) ggX8_bestDoor_X2_whenAt
theorem dX8_bestDoor_0 : decode cX8_bestDoor 0 = .ok (.aload_n 0, 1) := by decide +kernel
theorem dX8_bestDoor_1 : decode cX8_bestDoor 1 = .ok (.iload_n 1, 1) := by decide +kernel
theorem dX8_bestDoor_2 : decode cX8_bestDoor 2 = .ok (.invokevirtual 167, 3) := by decide +kernel
theorem dX8_bestDoor_5 : decode cX8_bestDoor 5 = .ok (.ifCond .eq 12, 3) := by decide +kernel
theorem dX8_bestDoor_8 : decode cX8_bestDoor 8 = .ok (.iload_n 2, 1) := by decide +kernel
theorem dX8_bestDoor_9 : decode cX8_bestDoor 9 = .ok (.iconst 0, 1) := by decide +kernel
theorem dX8_bestDoor_10 : decode cX8_bestDoor 10 = .ok (.iconst 1, 1) := by decide +kernel
theorem dX8_bestDoor_11 : decode cX8_bestDoor 11 = .ok (.invokestatic 66, 3) := by decide +kernel
theorem dX8_bestDoor_14 : decode cX8_bestDoor 14 = .ok (.ifCond .ne 6, 3) := by decide +kernel
theorem dX8_bestDoor_17 : decode cX8_bestDoor 17 = .ok (.ldc 70, 2) := by decide +kernel
theorem dX8_bestDoor_19 : decode cX8_bestDoor 19 = .ok (.ireturn, 1) := by decide +kernel
theorem dX8_bestDoor_20 : decode cX8_bestDoor 20 = .ok (.aload_n 0, 1) := by decide +kernel
theorem dX8_bestDoor_21 : decode cX8_bestDoor 21 = .ok (.getfield 25, 3) := by decide +kernel
theorem dX8_bestDoor_24 : decode cX8_bestDoor 24 = .ok (.getfield 173, 3) := by decide +kernel
theorem dX8_bestDoor_27 : decode cX8_bestDoor 27 = .ok (.iload_n 1, 1) := by decide +kernel
theorem dX8_bestDoor_28 : decode cX8_bestDoor 28 = .ok (.iaload, 1) := by decide +kernel
theorem dX8_bestDoor_29 : decode cX8_bestDoor 29 = .ok (.iconst (-1), 1) := by decide +kernel
theorem dX8_bestDoor_30 : decode cX8_bestDoor 30 = .ok (.if_icmp .ne 6, 3) := by decide +kernel
theorem dX8_bestDoor_33 : decode cX8_bestDoor 33 = .ok (.ldc 145, 2) := by decide +kernel
theorem dX8_bestDoor_35 : decode cX8_bestDoor 35 = .ok (.ireturn, 1) := by decide +kernel
theorem dX8_bestDoor_36 : decode cX8_bestDoor 36 = .ok (.aload_n 0, 1) := by decide +kernel
theorem dX8_bestDoor_37 : decode cX8_bestDoor 37 = .ok (.getfield 43, 3) := by decide +kernel
theorem dX8_bestDoor_40 : decode cX8_bestDoor 40 = .ok (.aload_n 0, 1) := by decide +kernel
theorem dX8_bestDoor_41 : decode cX8_bestDoor 41 = .ok (.getfield 25, 3) := by decide +kernel
theorem dX8_bestDoor_44 : decode cX8_bestDoor 44 = .ok (.iload_n 1, 1) := by decide +kernel
theorem dX8_bestDoor_45 : decode cX8_bestDoor 45 = .ok (.invokevirtual 257, 3) := by decide +kernel
theorem dX8_bestDoor_48 : decode cX8_bestDoor 48 = .ok (.istore_n 3, 1) := by decide +kernel
theorem dX8_bestDoor_49 : decode cX8_bestDoor 49 = .ok (.iload_n 2, 1) := by decide +kernel
theorem dX8_bestDoor_50 : decode cX8_bestDoor 50 = .ok (.ifCond .ne 10, 3) := by decide +kernel
theorem dX8_bestDoor_53 : decode cX8_bestDoor 53 = .ok (.iload_n 3, 1) := by decide +kernel
theorem dX8_bestDoor_54 : decode cX8_bestDoor 54 = .ok (.invokestatic 176, 3) := by decide +kernel
theorem dX8_bestDoor_57 : decode cX8_bestDoor 57 = .ok (.goto 19, 3) := by decide +kernel
theorem dX8_bestDoor_60 : decode cX8_bestDoor 60 = .ok (.aload_n 0, 1) := by decide +kernel
theorem dX8_bestDoor_61 : decode cX8_bestDoor 61 = .ok (.getfield 43, 3) := by decide +kernel
theorem dX8_bestDoor_64 : decode cX8_bestDoor 64 = .ok (.aload_n 0, 1) := by decide +kernel
theorem dX8_bestDoor_65 : decode cX8_bestDoor 65 = .ok (.getfield 25, 3) := by decide +kernel
theorem dX8_bestDoor_68 : decode cX8_bestDoor 68 = .ok (.iload_n 1, 1) := by decide +kernel
theorem dX8_bestDoor_69 : decode cX8_bestDoor 69 = .ok (.iload_n 3, 1) := by decide +kernel
theorem dX8_bestDoor_70 : decode cX8_bestDoor 70 = .ok (.invokevirtual 260, 3) := by decide +kernel
theorem dX8_bestDoor_73 : decode cX8_bestDoor 73 = .ok (.invokestatic 176, 3) := by decide +kernel
theorem dX8_bestDoor_76 : decode cX8_bestDoor 76 = .ok (.ireturn, 1) := by decide +kernel
set_option maxRecDepth 20000 in
theorem ggX8_ranks_X8_seenTrouble : GoodIn wsX8_ranks wsX8_seenTrouble := goodIn_r _ [8, 9, 3, 10, 11, 12, 7, 13, 2, 14, 15, 16, 17, 18, 19, 20, 21, 22, 23, 24, 25, 26, 27, 28, 29, 30, 31, 32, 33, 34, 35, 36, 37, 38, 39, 40, 41, 129, 130, 131, 132, 133, 134, 135, 136, 137, 138, 139, 140, 141, 142, 143, 144, 145, 146, 147, 148, 149] (by decide +kernel) (by decide +kernel)
set_option maxRecDepth 20000 in
theorem gX8_ranks_X8_seenTrouble : GoodIn wsX8_ranks (wsV RX8 263 RX8 yX8_seenTrouble wsX8_seenTrouble) := goodIn_app (goodIn_of _ (by decide +kernel)) ggX8_ranks_X8_seenTrouble
set_option maxRecDepth 20000 in
theorem ggX8_ranks_X2_ranksSeen : GoodIn wsX8_ranks wsX2_ranksSeen := goodIn_r _ [46, 47, 48, 49, 50, 51, 52, 53, 54, 55, 56, 57, 58, 59, 60, 61, 62, 63, 64, 65, 66, 67, 68, 69, 45, 70, 71, 72, 73, 74, 75, 76, 77, 78, 79, 80, 81, 82, 83, 84, 85, 86, 87, 88, 89, 90, 91, 92, 93, 94, 95, 96, 97, 98, 99, 100, 101, 102, 103, 104, 105, 106, 107, 108, 109, 110, 111, 112, 113, 114, 115, 116, 117, 118, 119, 120, 39, 40, 29, 41, 31, 121, 122, 123, 124, 150, 151, 152, 138, 139, 140, 141, 142, 143, 144, 145, 146, 147, 148, 149, 153, 154, 155, 156, 157] (by decide +kernel) (by decide +kernel)
set_option maxRecDepth 20000 in
theorem gX8_ranks_X2_ranksSeen : GoodIn wsX8_ranks (wsV RX8 267 RX2 yX2_ranksSeen wsX2_ranksSeen) := goodIn_app (goodIn_of _ (by decide +kernel)) ggX8_ranks_X2_ranksSeen
set_option maxRecDepth 20000 in
theorem ggX8_ranks_X8_fine : GoodIn wsX8_ranks wsX8_fine := goodIn_r _ [128, 36, 129, 130, 131, 132, 133, 134, 135, 136, 137] (by decide +kernel) (by decide +kernel)
set_option maxRecDepth 20000 in
theorem gX8_ranks_X8_fine : GoodIn wsX8_ranks (wsV RX8 79 RX8 yX8_fine wsX8_fine) := goodIn_app (goodIn_of _ (by decide +kernel)) ggX8_ranks_X8_fine
theorem dX8_ranks_0 : decode cX8_ranks 0 = .ok (.aload_n 0, 1) := by decide +kernel
theorem dX8_ranks_1 : decode cX8_ranks 1 = .ok (.iload_n 1, 1) := by decide +kernel
theorem dX8_ranks_2 : decode cX8_ranks 2 = .ok (.iload_n 2, 1) := by decide +kernel
theorem dX8_ranks_3 : decode cX8_ranks 3 = .ok (.iload_n 3, 1) := by decide +kernel
theorem dX8_ranks_4 : decode cX8_ranks 4 = .ok (.iload 4, 2) := by decide +kernel
theorem dX8_ranks_6 : decode cX8_ranks 6 = .ok (.iload 5, 2) := by decide +kernel
theorem dX8_ranks_8 : decode cX8_ranks 8 = .ok (.invokevirtual 263, 3) := by decide +kernel
theorem dX8_ranks_11 : decode cX8_ranks 11 = .ok (.istore 6, 2) := by decide +kernel
theorem dX8_ranks_13 : decode cX8_ranks 13 = .ok (.iload 6, 2) := by decide +kernel
theorem dX8_ranks_15 : decode cX8_ranks 15 = .ok (.ifCond .eq 8, 3) := by decide +kernel
theorem dX8_ranks_18 : decode cX8_ranks 18 = .ok (.iload 6, 2) := by decide +kernel
theorem dX8_ranks_20 : decode cX8_ranks 20 = .ok (.goto 30, 3) := by decide +kernel
theorem dX8_ranks_23 : decode cX8_ranks 23 = .ok (.aload_n 0, 1) := by decide +kernel
theorem dX8_ranks_24 : decode cX8_ranks 24 = .ok (.aload_n 0, 1) := by decide +kernel
theorem dX8_ranks_25 : decode cX8_ranks 25 = .ok (.getfield 43, 3) := by decide +kernel
theorem dX8_ranks_28 : decode cX8_ranks 28 = .ok (.aload_n 0, 1) := by decide +kernel
theorem dX8_ranks_29 : decode cX8_ranks 29 = .ok (.getfield 25, 3) := by decide +kernel
theorem dX8_ranks_32 : decode cX8_ranks 32 = .ok (.iload_n 1, 1) := by decide +kernel
theorem dX8_ranks_33 : decode cX8_ranks 33 = .ok (.iload_n 2, 1) := by decide +kernel
theorem dX8_ranks_34 : decode cX8_ranks 34 = .ok (.aload_n 0, 1) := by decide +kernel
theorem dX8_ranks_35 : decode cX8_ranks 35 = .ok (.getfield 11, 3) := by decide +kernel
theorem dX8_ranks_38 : decode cX8_ranks 38 = .ok (.iload_n 3, 1) := by decide +kernel
theorem dX8_ranks_39 : decode cX8_ranks 39 = .ok (.aaload, 1) := by decide +kernel
theorem dX8_ranks_40 : decode cX8_ranks 40 = .ok (.iload 4, 2) := by decide +kernel
theorem dX8_ranks_42 : decode cX8_ranks 42 = .ok (.iload 5, 2) := by decide +kernel
theorem dX8_ranks_44 : decode cX8_ranks 44 = .ok (.invokevirtual 267, 3) := by decide +kernel
theorem dX8_ranks_47 : decode cX8_ranks 47 = .ok (.invokevirtual 79, 3) := by decide +kernel
theorem dX8_ranks_50 : decode cX8_ranks 50 = .ok (.ireturn, 1) := by decide +kernel
set_option maxRecDepth 20000 in
theorem ggX8_who_X8_seenTrouble : GoodIn wsX8_who wsX8_seenTrouble := goodIn_r _ [8, 9, 3, 10, 11, 12, 7, 13, 2, 14, 15, 16, 17, 18, 19, 20, 21, 22, 23, 24, 25, 26, 27, 28, 29, 30, 31, 32, 33, 34, 35, 36, 37, 38, 39, 40, 41, 129, 130, 131, 132, 133, 134, 135, 136, 137, 138, 139, 140, 141, 142, 143, 144, 145, 146, 147, 148, 149] (by decide +kernel) (by decide +kernel)
set_option maxRecDepth 20000 in
theorem gX8_who_X8_seenTrouble : GoodIn wsX8_who (wsV RX8 263 RX8 yX8_seenTrouble wsX8_seenTrouble) := goodIn_app (goodIn_of _ (by decide +kernel)) ggX8_who_X8_seenTrouble
set_option maxRecDepth 20000 in
theorem ggX8_who_X2_kindsSeen : GoodIn wsX8_who wsX2_kindsSeen := goodIn_r _ [46, 47, 48, 49, 50, 51, 52, 53, 54, 55, 56, 57, 58, 59, 60, 61, 62, 63, 64, 65, 66, 67, 68, 69, 45, 70, 71, 72, 73, 74, 75, 76, 77, 78, 79, 80, 81, 82, 83, 84, 85, 86, 87, 88, 89, 90, 91, 92, 93, 94, 95, 96, 97, 98, 99, 100, 101, 102, 103, 104, 105, 106, 107, 108, 109, 110, 111, 112, 113, 114, 115, 116, 117, 118, 119, 120, 39, 40, 29, 41, 31, 121, 122, 123, 124, 150, 151, 152, 138, 139, 140, 141, 142, 143, 144, 145, 146, 147, 148, 149, 153, 154, 155, 156, 157] (by decide +kernel) (by decide +kernel)
set_option maxRecDepth 20000 in
theorem gX8_who_X2_kindsSeen : GoodIn wsX8_who (wsV RX8 271 RX2 yX2_kindsSeen wsX2_kindsSeen) := goodIn_app (goodIn_of _ (by decide +kernel)) ggX8_who_X2_kindsSeen
set_option maxRecDepth 20000 in
theorem ggX8_who_X8_fine : GoodIn wsX8_who wsX8_fine := goodIn_r _ [128, 36, 129, 130, 131, 132, 133, 134, 135, 136, 137] (by decide +kernel) (by decide +kernel)
set_option maxRecDepth 20000 in
theorem gX8_who_X8_fine : GoodIn wsX8_who (wsV RX8 79 RX8 yX8_fine wsX8_fine) := goodIn_app (goodIn_of _ (by decide +kernel)) ggX8_who_X8_fine
theorem dX8_who_0 : decode cX8_who 0 = .ok (.aload_n 0, 1) := by decide +kernel
theorem dX8_who_1 : decode cX8_who 1 = .ok (.iload_n 1, 1) := by decide +kernel
theorem dX8_who_2 : decode cX8_who 2 = .ok (.iload_n 2, 1) := by decide +kernel
theorem dX8_who_3 : decode cX8_who 3 = .ok (.iload_n 3, 1) := by decide +kernel
theorem dX8_who_4 : decode cX8_who 4 = .ok (.iload 4, 2) := by decide +kernel
theorem dX8_who_6 : decode cX8_who 6 = .ok (.iload 5, 2) := by decide +kernel
theorem dX8_who_8 : decode cX8_who 8 = .ok (.invokevirtual 263, 3) := by decide +kernel
theorem dX8_who_11 : decode cX8_who 11 = .ok (.istore 6, 2) := by decide +kernel
theorem dX8_who_13 : decode cX8_who 13 = .ok (.iload 6, 2) := by decide +kernel
theorem dX8_who_15 : decode cX8_who 15 = .ok (.ifCond .eq 8, 3) := by decide +kernel
theorem dX8_who_18 : decode cX8_who 18 = .ok (.iload 6, 2) := by decide +kernel
theorem dX8_who_20 : decode cX8_who 20 = .ok (.goto 30, 3) := by decide +kernel
theorem dX8_who_23 : decode cX8_who 23 = .ok (.aload_n 0, 1) := by decide +kernel
theorem dX8_who_24 : decode cX8_who 24 = .ok (.aload_n 0, 1) := by decide +kernel
theorem dX8_who_25 : decode cX8_who 25 = .ok (.getfield 43, 3) := by decide +kernel
theorem dX8_who_28 : decode cX8_who 28 = .ok (.aload_n 0, 1) := by decide +kernel
theorem dX8_who_29 : decode cX8_who 29 = .ok (.getfield 25, 3) := by decide +kernel
theorem dX8_who_32 : decode cX8_who 32 = .ok (.iload_n 1, 1) := by decide +kernel
theorem dX8_who_33 : decode cX8_who 33 = .ok (.iload_n 2, 1) := by decide +kernel
theorem dX8_who_34 : decode cX8_who 34 = .ok (.aload_n 0, 1) := by decide +kernel
theorem dX8_who_35 : decode cX8_who 35 = .ok (.getfield 11, 3) := by decide +kernel
theorem dX8_who_38 : decode cX8_who 38 = .ok (.iload_n 3, 1) := by decide +kernel
theorem dX8_who_39 : decode cX8_who 39 = .ok (.aaload, 1) := by decide +kernel
theorem dX8_who_40 : decode cX8_who 40 = .ok (.iload 4, 2) := by decide +kernel
theorem dX8_who_42 : decode cX8_who 42 = .ok (.iload 5, 2) := by decide +kernel
theorem dX8_who_44 : decode cX8_who 44 = .ok (.invokevirtual 271, 3) := by decide +kernel
theorem dX8_who_47 : decode cX8_who 47 = .ok (.invokevirtual 79, 3) := by decide +kernel
theorem dX8_who_50 : decode cX8_who 50 = .ok (.ireturn, 1) := by decide +kernel
set_option maxRecDepth 20000 in
theorem ggX8_precedence_X8_isDoor : GoodIn wsX8_precedence wsX8_isDoor := goodIn_r _ [7, 2, 8, 9, 10, 6, 11, 89, 90, 91, 92, 93, 94, 95, 96, 97, 98, 99, 100, 101, 102, 103, 104, 105, 106] (by decide +kernel) (by decide +kernel)
set_option maxRecDepth 20000 in
theorem gX8_precedence_X8_isDoor : GoodIn wsX8_precedence (wsV RX8 170 RX8 yX8_isDoor wsX8_isDoor) := goodIn_app (goodIn_of _ (by decide +kernel)) ggX8_precedence_X8_isDoor
set_option maxRecDepth 20000 in
theorem ggX8_precedence_X8_refusal : GoodIn wsX8_precedence wsX8_refusal := goodIn_r _ [15, 2, 16, 17, 18, 89, 90, 91, 92, 93, 94, 95, 96, 97, 98, 99, 100, 101, 102, 103, 104, 105, 106] (by decide +kernel) (by decide +kernel)
set_option maxRecDepth 20000 in
theorem gX8_precedence_X8_refusal : GoodIn wsX8_precedence (wsV RX8 149 RX8 yX8_refusal wsX8_refusal) := goodIn_app (goodIn_of _ (by decide +kernel)) ggX8_precedence_X8_refusal
set_option maxRecDepth 20000 in
theorem ggX8_precedence_X2_lineAt : GoodIn wsX8_precedence wsX2_lineAt := goodIn_r _ [23, 24, 25, 26, 27, 28, 29, 30, 31, 32, 33, 22, 34, 35, 36, 37, 38, 39, 40, 41, 42, 43, 44, 45, 46, 47, 48, 49, 50, 51, 52, 53, 54, 55, 56, 57, 58, 59, 60, 61, 62, 63, 64, 65, 66, 67, 68, 69, 70, 71, 72, 73, 74, 75, 76, 77, 78, 79, 80, 98, 99, 100, 101, 102, 103, 104, 105, 106, 107, 108, 109, 110, 111, 112, 113, 114] (by decide +kernel) (by decide +kernel)
set_option maxRecDepth 20000 in
theorem gX8_precedence_X2_lineAt : GoodIn wsX8_precedence (wsV RX8 218 RX2 yX2_lineAt wsX2_lineAt) := goodIn_app (goodIn_of _ (by decide +kernel)) ggX8_precedence_X2_lineAt
set_option maxRecDepth 20000 in
theorem ggX8_precedence_X5_goingIn : GoodIn wsX8_precedence wsX5_goingIn := goodIn_r _ [84, 67, 68, 111, 112, 113, 114] (by decide +kernel) (by decide +kernel)
set_option maxRecDepth 20000 in
theorem gX8_precedence_X5_goingIn : GoodIn wsX8_precedence (wsV RX8 274 RX5 yX5_goingIn wsX5_goingIn) := goodIn_app (goodIn_of _ (by decide +kernel)) ggX8_precedence_X5_goingIn
set_option maxRecDepth 20000 in
theorem ggX8_precedence_X8_orNone : GoodIn wsX8_precedence wsX8_orNone := goodIn_r _ [87, 88] (by decide +kernel) (by decide +kernel)
set_option maxRecDepth 20000 in
theorem gX8_precedence_X8_orNone : GoodIn wsX8_precedence (va_wsS RX8 176 yX8_orNone wsX8_orNone) := goodIn_app (goodIn_of _ (by decide +kernel)) ggX8_precedence_X8_orNone
theorem dX8_precedence_0 : decode cX8_precedence 0 = .ok (.aload_n 0, 1) := by decide +kernel
theorem dX8_precedence_1 : decode cX8_precedence 1 = .ok (.aload_n 0, 1) := by decide +kernel
theorem dX8_precedence_2 : decode cX8_precedence 2 = .ok (.iload_n 1, 1) := by decide +kernel
theorem dX8_precedence_3 : decode cX8_precedence 3 = .ok (.invokevirtual 170, 3) := by decide +kernel
theorem dX8_precedence_6 : decode cX8_precedence 6 = .ok (.ifCond .eq 11, 3) := by decide +kernel
theorem dX8_precedence_9 : decode cX8_precedence 9 = .ok (.iload_n 2, 1) := by decide +kernel
theorem dX8_precedence_10 : decode cX8_precedence 10 = .ok (.ifCond .lt 7, 3) := by decide +kernel
theorem dX8_precedence_13 : decode cX8_precedence 13 = .ok (.iconst 1, 1) := by decide +kernel
theorem dX8_precedence_14 : decode cX8_precedence 14 = .ok (.goto 4, 3) := by decide +kernel
theorem dX8_precedence_17 : decode cX8_precedence 17 = .ok (.iconst 0, 1) := by decide +kernel
theorem dX8_precedence_18 : decode cX8_precedence 18 = .ok (.invokevirtual 149, 3) := by decide +kernel
theorem dX8_precedence_21 : decode cX8_precedence 21 = .ok (.istore_n 3, 1) := by decide +kernel
theorem dX8_precedence_22 : decode cX8_precedence 22 = .ok (.iload_n 3, 1) := by decide +kernel
theorem dX8_precedence_23 : decode cX8_precedence 23 = .ok (.ifCond .eq 7, 3) := by decide +kernel
theorem dX8_precedence_26 : decode cX8_precedence 26 = .ok (.iload_n 3, 1) := by decide +kernel
theorem dX8_precedence_27 : decode cX8_precedence 27 = .ok (.goto 22, 3) := by decide +kernel
theorem dX8_precedence_30 : decode cX8_precedence 30 = .ok (.aload_n 0, 1) := by decide +kernel
theorem dX8_precedence_31 : decode cX8_precedence 31 = .ok (.getfield 43, 3) := by decide +kernel
theorem dX8_precedence_34 : decode cX8_precedence 34 = .ok (.aload_n 0, 1) := by decide +kernel
theorem dX8_precedence_35 : decode cX8_precedence 35 = .ok (.getfield 25, 3) := by decide +kernel
theorem dX8_precedence_38 : decode cX8_precedence 38 = .ok (.iload_n 1, 1) := by decide +kernel
theorem dX8_precedence_39 : decode cX8_precedence 39 = .ok (.invokevirtual 218, 3) := by decide +kernel
theorem dX8_precedence_42 : decode cX8_precedence 42 = .ok (.iload_n 2, 1) := by decide +kernel
theorem dX8_precedence_43 : decode cX8_precedence 43 = .ok (.invokevirtual 274, 3) := by decide +kernel
theorem dX8_precedence_46 : decode cX8_precedence 46 = .ok (.invokestatic 176, 3) := by decide +kernel
theorem dX8_precedence_49 : decode cX8_precedence 49 = .ok (.ireturn, 1) := by decide +kernel
set_option maxRecDepth 20000 in
theorem ggX8_both_X8_within : GoodIn wsX8_both wsX8_within := goodIn_r _ [6] (by decide +kernel) (by decide +kernel)
set_option maxRecDepth 20000 in
theorem gX8_both_X8_within : GoodIn wsX8_both (va_wsS RX8 66 yX8_within wsX8_within) := goodIn_app (goodIn_of _ (by decide +kernel)) ggX8_both_X8_within
set_option maxRecDepth 20000 in
theorem ggX8_both_X8_refusal : GoodIn wsX8_both wsX8_refusal := goodIn_r _ [10, 2, 11, 12, 13, 39, 40, 41, 42, 43, 44, 45, 46, 47, 48, 49, 50, 51, 52, 53, 54, 55, 56] (by decide +kernel) (by decide +kernel)
set_option maxRecDepth 20000 in
theorem gX8_both_X8_refusal : GoodIn wsX8_both (wsV RX8 149 RX8 yX8_refusal wsX8_refusal) := goodIn_app (goodIn_of _ (by decide +kernel)) ggX8_both_X8_refusal
set_option maxRecDepth 20000 in
theorem ggX8_both_X2_pairs : GoodIn wsX8_both wsX2_pairs := goodIn_r _ [18, 19, 20, 21, 17, 22, 23, 24, 25, 26, 27, 28, 29, 30, 48, 49, 50, 51, 52, 53, 54, 55, 56] (by decide +kernel) (by decide +kernel)
set_option maxRecDepth 20000 in
theorem gX8_both_X2_pairs : GoodIn wsX8_both (wsV RX8 277 RX2 yX2_pairs wsX2_pairs) := goodIn_app (goodIn_of _ (by decide +kernel)) ggX8_both_X2_pairs
set_option maxRecDepth 20000 in
theorem ggX8_both_X2_firstPair : GoodIn wsX8_both wsX2_firstPair := goodIn_r _ [34, 19, 20, 21, 17, 22, 23, 24, 25, 26, 27, 28, 29, 30, 48, 49, 50, 51, 52, 53, 54, 55, 56] (by decide +kernel) (by decide +kernel)
set_option maxRecDepth 20000 in
theorem gX8_both_X2_firstPair : GoodIn wsX8_both (wsV RX8 281 RX2 yX2_firstPair wsX2_firstPair) := goodIn_app (goodIn_of _ (by decide +kernel)) ggX8_both_X2_firstPair
set_option maxRecDepth 20000 in
theorem ggX8_both_X8_orNone : GoodIn wsX8_both wsX8_orNone := goodIn_r _ [37, 38] (by decide +kernel) (by decide +kernel)
set_option maxRecDepth 20000 in
theorem gX8_both_X8_orNone : GoodIn wsX8_both (va_wsS RX8 176 yX8_orNone wsX8_orNone) := goodIn_app (goodIn_of _ (by decide +kernel)) ggX8_both_X8_orNone
theorem dX8_both_0 : decode cX8_both 0 = .ok (.aload_n 0, 1) := by decide +kernel
theorem dX8_both_1 : decode cX8_both 1 = .ok (.iload_n 1, 1) := by decide +kernel
theorem dX8_both_2 : decode cX8_both 2 = .ok (.iconst 0, 1) := by decide +kernel
theorem dX8_both_3 : decode cX8_both 3 = .ok (.iconst 1, 1) := by decide +kernel
theorem dX8_both_4 : decode cX8_both 4 = .ok (.invokestatic 66, 3) := by decide +kernel
theorem dX8_both_7 : decode cX8_both 7 = .ok (.invokevirtual 149, 3) := by decide +kernel
theorem dX8_both_10 : decode cX8_both 10 = .ok (.istore_n 2, 1) := by decide +kernel
theorem dX8_both_11 : decode cX8_both 11 = .ok (.iload_n 2, 1) := by decide +kernel
theorem dX8_both_12 : decode cX8_both 12 = .ok (.ifCond .eq 5, 3) := by decide +kernel
theorem dX8_both_15 : decode cX8_both 15 = .ok (.iload_n 2, 1) := by decide +kernel
theorem dX8_both_16 : decode cX8_both 16 = .ok (.ireturn, 1) := by decide +kernel
theorem dX8_both_17 : decode cX8_both 17 = .ok (.iload_n 1, 1) := by decide +kernel
theorem dX8_both_18 : decode cX8_both 18 = .ok (.ifCond .ne 17, 3) := by decide +kernel
theorem dX8_both_21 : decode cX8_both 21 = .ok (.aload_n 0, 1) := by decide +kernel
theorem dX8_both_22 : decode cX8_both 22 = .ok (.getfield 43, 3) := by decide +kernel
theorem dX8_both_25 : decode cX8_both 25 = .ok (.aload_n 0, 1) := by decide +kernel
theorem dX8_both_26 : decode cX8_both 26 = .ok (.getfield 25, 3) := by decide +kernel
theorem dX8_both_29 : decode cX8_both 29 = .ok (.invokevirtual 277, 3) := by decide +kernel
theorem dX8_both_32 : decode cX8_both 32 = .ok (.goto 17, 3) := by decide +kernel
theorem dX8_both_35 : decode cX8_both 35 = .ok (.aload_n 0, 1) := by decide +kernel
theorem dX8_both_36 : decode cX8_both 36 = .ok (.getfield 43, 3) := by decide +kernel
theorem dX8_both_39 : decode cX8_both 39 = .ok (.aload_n 0, 1) := by decide +kernel
theorem dX8_both_40 : decode cX8_both 40 = .ok (.getfield 25, 3) := by decide +kernel
theorem dX8_both_43 : decode cX8_both 43 = .ok (.invokevirtual 281, 3) := by decide +kernel
theorem dX8_both_46 : decode cX8_both 46 = .ok (.invokestatic 176, 3) := by decide +kernel
theorem dX8_both_49 : decode cX8_both 49 = .ok (.ireturn, 1) := by decide +kernel
set_option maxRecDepth 20000 in
theorem ggX8_faint_X8_isDoor : GoodIn wsX8_faint wsX8_isDoor := goodIn_r _ [8, 2, 9, 10, 11, 7, 12, 74, 75, 76, 77, 78, 79, 80, 81, 82, 83, 84, 85, 86, 87, 88, 89, 90, 91] (by decide +kernel) (by decide +kernel)
set_option maxRecDepth 20000 in
theorem gX8_faint_X8_isDoor : GoodIn wsX8_faint (wsV RX8 170 RX8 yX8_isDoor wsX8_isDoor) := goodIn_app (goodIn_of _ (by decide +kernel)) ggX8_faint_X8_isDoor
set_option maxRecDepth 20000 in
theorem ggX8_faint_X8_within : GoodIn wsX8_faint wsX8_within := goodIn_r _ [12] (by decide +kernel) (by decide +kernel)
set_option maxRecDepth 20000 in
theorem gX8_faint_X8_within : GoodIn wsX8_faint (va_wsS RX8 66 yX8_within wsX8_within) := goodIn_app (goodIn_of _ (by decide +kernel)) ggX8_faint_X8_within
set_option maxRecDepth 20000 in
theorem ggX8_faint_X8_refusal : GoodIn wsX8_faint wsX8_refusal := goodIn_r _ [16, 2, 17, 18, 19, 74, 75, 76, 77, 78, 79, 80, 81, 82, 83, 84, 85, 86, 87, 88, 89, 90, 91] (by decide +kernel) (by decide +kernel)
set_option maxRecDepth 20000 in
theorem gX8_faint_X8_refusal : GoodIn wsX8_faint (wsV RX8 149 RX8 yX8_refusal wsX8_refusal) := goodIn_app (goodIn_of _ (by decide +kernel)) ggX8_faint_X8_refusal
set_option maxRecDepth 20000 in
theorem ggX8_faint_X2_casesOfGoing : GoodIn wsX8_faint wsX2_casesOfGoing := goodIn_r _ [24, 25, 26, 27, 28, 29, 30, 31, 32, 33, 34, 35, 36, 37, 38, 39, 40, 41, 42, 43, 44, 45, 46, 47, 48, 49, 50, 51, 52, 53, 54, 55, 56, 57, 58, 59, 60, 61, 23, 62, 92, 93, 94, 95, 83, 84, 85, 86, 87, 88, 89, 90, 91] (by decide +kernel) (by decide +kernel)
set_option maxRecDepth 20000 in
theorem gX8_faint_X2_casesOfGoing : GoodIn wsX8_faint (wsV RX8 284 RX2 yX2_casesOfGoing wsX2_casesOfGoing) := goodIn_app (goodIn_of _ (by decide +kernel)) ggX8_faint_X2_casesOfGoing
set_option maxRecDepth 20000 in
theorem ggX8_faint_X3_waitingAt : GoodIn wsX8_faint wsX3_waitingAt := goodIn_r _ [44, 45, 46, 83, 84, 85, 86, 87, 88, 89, 90, 91] (by decide +kernel) (by decide +kernel)
set_option maxRecDepth 20000 in
theorem gX8_faint_X3_waitingAt : GoodIn wsX8_faint (wsV RX8 199 RX3 yX3_waitingAt wsX3_waitingAt) := goodIn_app (goodIn_of _ (by decide +kernel)) ggX8_faint_X3_waitingAt
set_option maxRecDepth 20000 in
theorem ggX8_faint_J6_bitCount_0f7a4 : GoodIn wsX8_faint wsJ6_bitCount_0f7a4 := goodIn_r _ [67, 68, 69, 70] (by decide +kernel) (by decide +kernel)
set_option maxRecDepth 20000 in
theorem gX8_faint_J6_bitCount_0f7a4 : GoodIn wsX8_faint (va_wsS RX8 188 yJ6_bitCount_0f7a4 wsJ6_bitCount_0f7a4) := goodIn_app (goodIn_of _ (by decide +kernel)) ggX8_faint_J6_bitCount_0f7a4
set_option maxRecDepth 20000 in
theorem ggX8_faint_X8_greatestDivisor : GoodIn wsX8_faint wsX8_greatestDivisor := goodIn_r _ [73] (by decide +kernel) (by decide +kernel)
set_option maxRecDepth 20000 in
theorem gX8_faint_X8_greatestDivisor : GoodIn wsX8_faint (va_wsS RX8 290 yX8_greatestDivisor wsX8_greatestDivisor) := goodIn_app (goodIn_of _ (by decide +kernel)) ggX8_faint_X8_greatestDivisor
theorem dX8_faint_0 : decode cX8_faint 0 = .ok (.aload_n 0, 1) := by decide +kernel
theorem dX8_faint_1 : decode cX8_faint 1 = .ok (.aload_n 0, 1) := by decide +kernel
theorem dX8_faint_2 : decode cX8_faint 2 = .ok (.iload_n 1, 1) := by decide +kernel
theorem dX8_faint_3 : decode cX8_faint 3 = .ok (.invokevirtual 170, 3) := by decide +kernel
theorem dX8_faint_6 : decode cX8_faint 6 = .ok (.ifCond .eq 26, 3) := by decide +kernel
theorem dX8_faint_9 : decode cX8_faint 9 = .ok (.iload_n 2, 1) := by decide +kernel
theorem dX8_faint_10 : decode cX8_faint 10 = .ok (.iconst 0, 1) := by decide +kernel
theorem dX8_faint_11 : decode cX8_faint 11 = .ok (.bipush 10, 2) := by decide +kernel
theorem dX8_faint_13 : decode cX8_faint 13 = .ok (.invokestatic 66, 3) := by decide +kernel
theorem dX8_faint_16 : decode cX8_faint 16 = .ok (.ifCond .eq 16, 3) := by decide +kernel
theorem dX8_faint_19 : decode cX8_faint 19 = .ok (.iload_n 3, 1) := by decide +kernel
theorem dX8_faint_20 : decode cX8_faint 20 = .ok (.iconst 0, 1) := by decide +kernel
theorem dX8_faint_21 : decode cX8_faint 21 = .ok (.iconst 1, 1) := by decide +kernel
theorem dX8_faint_22 : decode cX8_faint 22 = .ok (.invokestatic 66, 3) := by decide +kernel
theorem dX8_faint_25 : decode cX8_faint 25 = .ok (.ifCond .eq 7, 3) := by decide +kernel
theorem dX8_faint_28 : decode cX8_faint 28 = .ok (.iconst 1, 1) := by decide +kernel
theorem dX8_faint_29 : decode cX8_faint 29 = .ok (.goto 4, 3) := by decide +kernel
theorem dX8_faint_32 : decode cX8_faint 32 = .ok (.iconst 0, 1) := by decide +kernel
theorem dX8_faint_33 : decode cX8_faint 33 = .ok (.invokevirtual 149, 3) := by decide +kernel
theorem dX8_faint_36 : decode cX8_faint 36 = .ok (.istore 4, 2) := by decide +kernel
theorem dX8_faint_38 : decode cX8_faint 38 = .ok (.iload 4, 2) := by decide +kernel
theorem dX8_faint_40 : decode cX8_faint 40 = .ok (.ifCond .eq 7, 3) := by decide +kernel
theorem dX8_faint_43 : decode cX8_faint 43 = .ok (.iload 4, 2) := by decide +kernel
theorem dX8_faint_45 : decode cX8_faint 45 = .ok (.i2l, 1) := by decide +kernel
theorem dX8_faint_46 : decode cX8_faint 46 = .ok (.lreturn, 1) := by decide +kernel
theorem dX8_faint_47 : decode cX8_faint 47 = .ok (.aload_n 0, 1) := by decide +kernel
theorem dX8_faint_48 : decode cX8_faint 48 = .ok (.getfield 43, 3) := by decide +kernel
theorem dX8_faint_51 : decode cX8_faint 51 = .ok (.aload_n 0, 1) := by decide +kernel
theorem dX8_faint_52 : decode cX8_faint 52 = .ok (.getfield 25, 3) := by decide +kernel
theorem dX8_faint_55 : decode cX8_faint 55 = .ok (.iload_n 1, 1) := by decide +kernel
theorem dX8_faint_56 : decode cX8_faint 56 = .ok (.iload_n 2, 1) := by decide +kernel
theorem dX8_faint_57 : decode cX8_faint 57 = .ok (.invokevirtual 284, 3) := by decide +kernel
theorem dX8_faint_60 : decode cX8_faint 60 = .ok (.lstore 5, 2) := by decide +kernel
theorem dX8_faint_62 : decode cX8_faint 62 = .ok (.lconst 1, 1) := by decide +kernel
theorem dX8_faint_63 : decode cX8_faint 63 = .ok (.lstore 7, 2) := by decide +kernel
theorem dX8_faint_65 : decode cX8_faint 65 = .ok (.aload_n 0, 1) := by decide +kernel
theorem dX8_faint_66 : decode cX8_faint 66 = .ok (.getfield 25, 3) := by decide +kernel
theorem dX8_faint_69 : decode cX8_faint 69 = .ok (.iload_n 1, 1) := by decide +kernel
theorem dX8_faint_70 : decode cX8_faint 70 = .ok (.invokevirtual 199, 3) := by decide +kernel
theorem dX8_faint_73 : decode cX8_faint 73 = .ok (.invokestatic 188, 3) := by decide +kernel
theorem dX8_faint_76 : decode cX8_faint 76 = .ok (.istore 9, 2) := by decide +kernel
theorem dX8_faint_78 : decode cX8_faint 78 = .ok (.iconst 0, 1) := by decide +kernel
theorem dX8_faint_79 : decode cX8_faint 79 = .ok (.istore 10, 2) := by decide +kernel
theorem dX8_faint_81 : decode cX8_faint 81 = .ok (.iload 10, 2) := by decide +kernel
theorem dX8_faint_83 : decode cX8_faint 83 = .ok (.iload 9, 2) := by decide +kernel
theorem dX8_faint_85 : decode cX8_faint 85 = .ok (.if_icmp .ge 17, 3) := by decide +kernel
theorem dX8_faint_88 : decode cX8_faint 88 = .ok (.lload 7, 2) := by decide +kernel
theorem dX8_faint_90 : decode cX8_faint 90 = .ok (.ldc2_w 288, 3) := by decide +kernel
theorem dX8_faint_93 : decode cX8_faint 93 = .ok (.lmul, 1) := by decide +kernel
theorem dX8_faint_94 : decode cX8_faint 94 = .ok (.lstore 7, 2) := by decide +kernel
theorem dX8_faint_96 : decode cX8_faint 96 = .ok (.iinc 10 1, 3) := by decide +kernel
theorem dX8_faint_99 : decode cX8_faint 99 = .ok (.goto (-18), 3) := by decide +kernel
theorem dX8_faint_102 : decode cX8_faint 102 = .ok (.lload 7, 2) := by decide +kernel
theorem dX8_faint_104 : decode cX8_faint 104 = .ok (.lload 5, 2) := by decide +kernel
theorem dX8_faint_106 : decode cX8_faint 106 = .ok (.invokestatic 290, 3) := by decide +kernel
theorem dX8_faint_109 : decode cX8_faint 109 = .ok (.lstore 10, 2) := by decide +kernel
theorem dX8_faint_111 : decode cX8_faint 111 = .ok (.iload_n 3, 1) := by decide +kernel
theorem dX8_faint_112 : decode cX8_faint 112 = .ok (.ifCond .ne 8, 3) := by decide +kernel
theorem dX8_faint_115 : decode cX8_faint 115 = .ok (.lload 5, 2) := by decide +kernel
theorem dX8_faint_117 : decode cX8_faint 117 = .ok (.goto 5, 3) := by decide +kernel
theorem dX8_faint_120 : decode cX8_faint 120 = .ok (.lload 7, 2) := by decide +kernel
theorem dX8_faint_122 : decode cX8_faint 122 = .ok (.lload 10, 2) := by decide +kernel
theorem dX8_faint_124 : decode cX8_faint 124 = .ok (.ldiv, 1) := by decide +kernel
theorem dX8_faint_125 : decode cX8_faint 125 = .ok (.lreturn, 1) := by decide +kernel
set_option maxRecDepth 20000 in
theorem ggX8_drawn_X8_within : GoodIn wsX8_drawn wsX8_within := goodIn_r _ [9] (by decide +kernel) (by decide +kernel)
set_option maxRecDepth 20000 in
theorem gX8_drawn_X8_within : GoodIn wsX8_drawn (va_wsS RX8 66 yX8_within wsX8_within) := goodIn_app (goodIn_of _ (by decide +kernel)) ggX8_drawn_X8_within
set_option maxRecDepth 20000 in
theorem ggX8_drawn_X8_refusal : GoodIn wsX8_drawn wsX8_refusal := goodIn_r _ [13, 3, 5, 14, 15, 95, 96, 97, 98, 99, 100, 101, 102, 103, 107, 108, 109, 110, 111, 112, 113, 114, 115] (by decide +kernel) (by decide +kernel)
set_option maxRecDepth 20000 in
theorem gX8_drawn_X8_refusal : GoodIn wsX8_drawn (wsV RX8 149 RX8 yX8_refusal wsX8_refusal) := goodIn_app (goodIn_of _ (by decide +kernel)) ggX8_drawn_X8_refusal
set_option maxRecDepth 20000 in
theorem ggX8_drawn_X2_daysByDraws : GoodIn wsX8_drawn wsX2_daysByDraws := goodIn_r _ [20, 21, 22, 23, 24, 25, 26, 27, 28, 29, 30, 31, 32, 33, 34, 35, 36, 37, 38, 39, 40, 41, 42, 43, 44, 45, 46, 47, 48, 49, 50, 51, 52, 53, 54, 55, 56, 19, 57, 58, 59, 60, 61, 62, 63, 64, 65, 66, 67, 68, 69, 70, 71, 72, 73, 74, 75, 76, 77, 78, 79, 80, 81, 82, 83, 84, 85, 86, 104, 105, 106, 107, 108, 109, 110, 111, 112, 113, 114, 115, 116] (by decide +kernel) (by decide +kernel)
set_option maxRecDepth 20000 in
theorem gX8_drawn_X2_daysByDraws : GoodIn wsX8_drawn (wsV RX8 295 RX2 yX2_daysByDraws wsX2_daysByDraws) := goodIn_app (goodIn_of _ (by decide +kernel)) ggX8_drawn_X2_daysByDraws
set_option maxRecDepth 20000 in
theorem ggX8_drawn_X3_waitingAt : GoodIn wsX8_drawn wsX3_waitingAt := goodIn_r _ [78, 32, 41, 107, 108, 109, 110, 111, 112, 113, 114, 115] (by decide +kernel) (by decide +kernel)
set_option maxRecDepth 20000 in
theorem gX8_drawn_X3_waitingAt : GoodIn wsX8_drawn (wsV RX8 199 RX3 yX3_waitingAt wsX3_waitingAt) := goodIn_app (goodIn_of _ (by decide +kernel)) ggX8_drawn_X3_waitingAt
set_option maxRecDepth 20000 in
theorem ggX8_drawn_J6_bitCount_0f7a4 : GoodIn wsX8_drawn wsJ6_bitCount_0f7a4 := goodIn_r _ [91, 92, 93, 94] (by decide +kernel) (by decide +kernel)
set_option maxRecDepth 20000 in
theorem gX8_drawn_J6_bitCount_0f7a4 : GoodIn wsX8_drawn (va_wsS RX8 188 yJ6_bitCount_0f7a4 wsJ6_bitCount_0f7a4) := goodIn_app (goodIn_of _ (by decide +kernel)) ggX8_drawn_J6_bitCount_0f7a4
theorem dX8_drawn_0 : decode cX8_drawn 0 = .ok (.aload_n 0, 1) := by decide +kernel
theorem dX8_drawn_1 : decode cX8_drawn 1 = .ok (.iload_n 1, 1) := by decide +kernel
theorem dX8_drawn_2 : decode cX8_drawn 2 = .ok (.iconst 0, 1) := by decide +kernel
theorem dX8_drawn_3 : decode cX8_drawn 3 = .ok (.bipush 60, 2) := by decide +kernel
theorem dX8_drawn_5 : decode cX8_drawn 5 = .ok (.invokestatic 66, 3) := by decide +kernel
theorem dX8_drawn_8 : decode cX8_drawn 8 = .ok (.ifCond .eq 27, 3) := by decide +kernel
theorem dX8_drawn_11 : decode cX8_drawn 11 = .ok (.iload_n 2, 1) := by decide +kernel
theorem dX8_drawn_12 : decode cX8_drawn 12 = .ok (.iconst 1, 1) := by decide +kernel
theorem dX8_drawn_13 : decode cX8_drawn 13 = .ok (.ldc_w 294, 3) := by decide +kernel
theorem dX8_drawn_16 : decode cX8_drawn 16 = .ok (.invokestatic 66, 3) := by decide +kernel
theorem dX8_drawn_19 : decode cX8_drawn 19 = .ok (.ifCond .eq 16, 3) := by decide +kernel
theorem dX8_drawn_22 : decode cX8_drawn 22 = .ok (.iload_n 3, 1) := by decide +kernel
theorem dX8_drawn_23 : decode cX8_drawn 23 = .ok (.iconst 0, 1) := by decide +kernel
theorem dX8_drawn_24 : decode cX8_drawn 24 = .ok (.iconst 1, 1) := by decide +kernel
theorem dX8_drawn_25 : decode cX8_drawn 25 = .ok (.invokestatic 66, 3) := by decide +kernel
theorem dX8_drawn_28 : decode cX8_drawn 28 = .ok (.ifCond .eq 7, 3) := by decide +kernel
theorem dX8_drawn_31 : decode cX8_drawn 31 = .ok (.iconst 1, 1) := by decide +kernel
theorem dX8_drawn_32 : decode cX8_drawn 32 = .ok (.goto 4, 3) := by decide +kernel
theorem dX8_drawn_35 : decode cX8_drawn 35 = .ok (.iconst 0, 1) := by decide +kernel
theorem dX8_drawn_36 : decode cX8_drawn 36 = .ok (.invokevirtual 149, 3) := by decide +kernel
theorem dX8_drawn_39 : decode cX8_drawn 39 = .ok (.istore 4, 2) := by decide +kernel
theorem dX8_drawn_41 : decode cX8_drawn 41 = .ok (.iload 4, 2) := by decide +kernel
theorem dX8_drawn_43 : decode cX8_drawn 43 = .ok (.ifCond .eq 6, 3) := by decide +kernel
theorem dX8_drawn_46 : decode cX8_drawn 46 = .ok (.iload 4, 2) := by decide +kernel
theorem dX8_drawn_48 : decode cX8_drawn 48 = .ok (.ireturn, 1) := by decide +kernel
theorem dX8_drawn_49 : decode cX8_drawn 49 = .ok (.aload_n 0, 1) := by decide +kernel
theorem dX8_drawn_50 : decode cX8_drawn 50 = .ok (.getfield 43, 3) := by decide +kernel
theorem dX8_drawn_53 : decode cX8_drawn 53 = .ok (.aload_n 0, 1) := by decide +kernel
theorem dX8_drawn_54 : decode cX8_drawn 54 = .ok (.getfield 25, 3) := by decide +kernel
theorem dX8_drawn_57 : decode cX8_drawn 57 = .ok (.iload_n 1, 1) := by decide +kernel
theorem dX8_drawn_58 : decode cX8_drawn 58 = .ok (.iload_n 2, 1) := by decide +kernel
theorem dX8_drawn_59 : decode cX8_drawn 59 = .ok (.invokevirtual 295, 3) := by decide +kernel
theorem dX8_drawn_62 : decode cX8_drawn 62 = .ok (.istore 5, 2) := by decide +kernel
theorem dX8_drawn_64 : decode cX8_drawn 64 = .ok (.iload_n 3, 1) := by decide +kernel
theorem dX8_drawn_65 : decode cX8_drawn 65 = .ok (.ifCond .ne 8, 3) := by decide +kernel
theorem dX8_drawn_68 : decode cX8_drawn 68 = .ok (.iload 5, 2) := by decide +kernel
theorem dX8_drawn_70 : decode cX8_drawn 70 = .ok (.goto 28, 3) := by decide +kernel
theorem dX8_drawn_73 : decode cX8_drawn 73 = .ok (.aload_n 0, 1) := by decide +kernel
theorem dX8_drawn_74 : decode cX8_drawn 74 = .ok (.getfield 43, 3) := by decide +kernel
theorem dX8_drawn_77 : decode cX8_drawn 77 = .ok (.getfield 118, 3) := by decide +kernel
theorem dX8_drawn_80 : decode cX8_drawn 80 = .ok (.getfield 139, 3) := by decide +kernel
theorem dX8_drawn_83 : decode cX8_drawn 83 = .ok (.aload_n 0, 1) := by decide +kernel
theorem dX8_drawn_84 : decode cX8_drawn 84 = .ok (.getfield 43, 3) := by decide +kernel
theorem dX8_drawn_87 : decode cX8_drawn 87 = .ok (.getfield 118, 3) := by decide +kernel
theorem dX8_drawn_90 : decode cX8_drawn 90 = .ok (.iconst (-1), 1) := by decide +kernel
theorem dX8_drawn_91 : decode cX8_drawn 91 = .ok (.invokevirtual 199, 3) := by decide +kernel
theorem dX8_drawn_94 : decode cX8_drawn 94 = .ok (.invokestatic 188, 3) := by decide +kernel

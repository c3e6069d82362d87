theorem dX0_init_0 : decode cX0_init 0 = .ok (.aload_n 0, 1) := by decide +kernel
theorem dX0_init_1 : decode cX0_init 1 = .ok (.invokespecial 3, 3) := by decide +kernel
theorem dX0_init_4 : decode cX0_init 4 = .ok (.aload_n 0, 1) := by decide +kernel
theorem dX0_init_5 : decode cX0_init 5 = .ok (.sipush 200, 3) := by decide +kernel
theorem dX0_init_8 : decode cX0_init 8 = .ok (.newarray .int, 2) := by decide +kernel
theorem dX0_init_10 : decode cX0_init 10 = .ok (.putfield 9, 3) := by decide +kernel
theorem dX0_init_13 : decode cX0_init 13 = .ok (.aload_n 0, 1) := by decide +kernel
theorem dX0_init_14 : decode cX0_init 14 = .ok (.iconst 0, 1) := by decide +kernel
theorem dX0_init_15 : decode cX0_init 15 = .ok (.putfield 15, 3) := by decide +kernel
theorem dX0_init_18 : decode cX0_init 18 = .ok (.return_, 1) := by decide +kernel
theorem dX0_add_0 : decode cX0_add 0 = .ok (.aload_n 0, 1) := by decide +kernel
theorem dX0_add_1 : decode cX0_add 1 = .ok (.getfield 15, 3) := by decide +kernel
theorem dX0_add_4 : decode cX0_add 4 = .ok (.ifCond .lt 15, 3) := by decide +kernel
theorem dX0_add_7 : decode cX0_add 7 = .ok (.aload_n 0, 1) := by decide +kernel
theorem dX0_add_8 : decode cX0_add 8 = .ok (.getfield 15, 3) := by decide +kernel
theorem dX0_add_11 : decode cX0_add 11 = .ok (.aload_n 0, 1) := by decide +kernel
theorem dX0_add_12 : decode cX0_add 12 = .ok (.getfield 9, 3) := by decide +kernel
theorem dX0_add_15 : decode cX0_add 15 = .ok (.arraylength, 1) := by decide +kernel
theorem dX0_add_16 : decode cX0_add 16 = .ok (.if_icmp .lt 5, 3) := by decide +kernel
theorem dX0_add_19 : decode cX0_add 19 = .ok (.iconst 0, 1) := by decide +kernel
theorem dX0_add_20 : decode cX0_add 20 = .ok (.ireturn, 1) := by decide +kernel
theorem dX0_add_21 : decode cX0_add 21 = .ok (.aload_n 0, 1) := by decide +kernel
theorem dX0_add_22 : decode cX0_add 22 = .ok (.getfield 9, 3) := by decide +kernel
theorem dX0_add_25 : decode cX0_add 25 = .ok (.aload_n 0, 1) := by decide +kernel
theorem dX0_add_26 : decode cX0_add 26 = .ok (.getfield 15, 3) := by decide +kernel
theorem dX0_add_29 : decode cX0_add 29 = .ok (.iload_n 1, 1) := by decide +kernel
theorem dX0_add_30 : decode cX0_add 30 = .ok (.iastore, 1) := by decide +kernel
theorem dX0_add_31 : decode cX0_add 31 = .ok (.aload_n 0, 1) := by decide +kernel
theorem dX0_add_32 : decode cX0_add 32 = .ok (.dup, 1) := by decide +kernel
theorem dX0_add_33 : decode cX0_add 33 = .ok (.getfield 15, 3) := by decide +kernel
theorem dX0_add_36 : decode cX0_add 36 = .ok (.iconst 1, 1) := by decide +kernel
theorem dX0_add_37 : decode cX0_add 37 = .ok (.iadd, 1) := by decide +kernel
theorem dX0_add_38 : decode cX0_add 38 = .ok (.putfield 15, 3) := by decide +kernel
theorem dX0_add_41 : decode cX0_add 41 = .ok (.iconst 1, 1) := by decide +kernel
theorem dX0_add_42 : decode cX0_add 42 = .ok (.ireturn, 1) := by decide +kernel
theorem dX0_at_0 : decode cX0_at 0 = .ok (.iload_n 1, 1) := by decide +kernel
theorem dX0_at_1 : decode cX0_at 1 = .ok (.ifCond .lt 29, 3) := by decide +kernel
theorem dX0_at_4 : decode cX0_at 4 = .ok (.iload_n 1, 1) := by decide +kernel
theorem dX0_at_5 : decode cX0_at 5 = .ok (.aload_n 0, 1) := by decide +kernel
theorem dX0_at_6 : decode cX0_at 6 = .ok (.getfield 15, 3) := by decide +kernel
theorem dX0_at_9 : decode cX0_at 9 = .ok (.if_icmp .ge 21, 3) := by decide +kernel
theorem dX0_at_12 : decode cX0_at 12 = .ok (.iload_n 1, 1) := by decide +kernel
theorem dX0_at_13 : decode cX0_at 13 = .ok (.aload_n 0, 1) := by decide +kernel
theorem dX0_at_14 : decode cX0_at 14 = .ok (.getfield 9, 3) := by decide +kernel
theorem dX0_at_17 : decode cX0_at 17 = .ok (.arraylength, 1) := by decide +kernel
theorem dX0_at_18 : decode cX0_at 18 = .ok (.if_icmp .ge 12, 3) := by decide +kernel
theorem dX0_at_21 : decode cX0_at 21 = .ok (.aload_n 0, 1) := by decide +kernel
theorem dX0_at_22 : decode cX0_at 22 = .ok (.getfield 9, 3) := by decide +kernel
theorem dX0_at_25 : decode cX0_at 25 = .ok (.iload_n 1, 1) := by decide +kernel
theorem dX0_at_26 : decode cX0_at 26 = .ok (.iaload, 1) := by decide +kernel
theorem dX0_at_27 : decode cX0_at 27 = .ok (.goto 4, 3) := by decide +kernel
theorem dX0_at_30 : decode cX0_at 30 = .ok (.iconst 0, 1) := by decide +kernel
theorem dX0_at_31 : decode cX0_at 31 = .ok (.ireturn, 1) := by decide +kernel
theorem dX1_init_0 : decode cX1_init 0 = .ok (.aload_n 0, 1) := by decide +kernel
theorem dX1_init_1 : decode cX1_init 1 = .ok (.invokespecial 1, 3) := by decide +kernel
theorem dX1_init_4 : decode cX1_init 4 = .ok (.aload_n 0, 1) := by decide +kernel
theorem dX1_init_5 : decode cX1_init 5 = .ok (.iconst 0, 1) := by decide +kernel
theorem dX1_init_6 : decode cX1_init 6 = .ok (.putfield 7, 3) := by decide +kernel
theorem dX1_init_9 : decode cX1_init 9 = .ok (.aload_n 0, 1) := by decide +kernel
theorem dX1_init_10 : decode cX1_init 10 = .ok (.iconst 1, 1) := by decide +kernel
theorem dX1_init_11 : decode cX1_init 11 = .ok (.iload_n 1, 1) := by decide +kernel
theorem dX1_init_12 : decode cX1_init 12 = .ok (.invokestatic 13, 3) := by decide +kernel
theorem dX1_init_15 : decode cX1_init 15 = .ok (.putfield 19, 3) := by decide +kernel
theorem dX1_init_18 : decode cX1_init 18 = .ok (.aload_n 0, 1) := by decide +kernel
theorem dX1_init_19 : decode cX1_init 19 = .ok (.aload_n 0, 1) := by decide +kernel
theorem dX1_init_20 : decode cX1_init 20 = .ok (.getfield 19, 3) := by decide +kernel
theorem dX1_init_23 : decode cX1_init 23 = .ok (.bipush 28, 2) := by decide +kernel
theorem dX1_init_25 : decode cX1_init 25 = .ok (.imul, 1) := by decide +kernel
theorem dX1_init_26 : decode cX1_init 26 = .ok (.newarray .int, 2) := by decide +kernel
theorem dX1_init_28 : decode cX1_init 28 = .ok (.putfield 24, 3) := by decide +kernel
theorem dX1_init_31 : decode cX1_init 31 = .ok (.return_, 1) := by decide +kernel
set_option maxRecDepth 20000 in
theorem ggX1_add_X3_putInto : GoodIn wsX1_add wsX3_putInto := goodIn_r _ [12, 13, 14, 5, 6, 7, 15, 16, 17, 21, 22, 23, 24] (by decide +kernel) (by decide +kernel)
set_option maxRecDepth 20000 in
theorem gX1_add_X3_putInto : GoodIn wsX1_add (wsV RX1 34 RX3 yX3_putInto wsX3_putInto) := goodIn_app (goodIn_of _ (by decide +kernel)) ggX1_add_X3_putInto
theorem dX1_add_0 : decode cX1_add 0 = .ok (.aload_n 0, 1) := by decide +kernel
theorem dX1_add_1 : decode cX1_add 1 = .ok (.getfield 7, 3) := by decide +kernel
theorem dX1_add_4 : decode cX1_add 4 = .ok (.aload_n 0, 1) := by decide +kernel
theorem dX1_add_5 : decode cX1_add 5 = .ok (.getfield 19, 3) := by decide +kernel
theorem dX1_add_8 : decode cX1_add 8 = .ok (.if_icmp .lt 36, 3) := by decide +kernel
theorem dX1_add_11 : decode cX1_add 11 = .ok (.aload_n 0, 1) := by decide +kernel
theorem dX1_add_12 : decode cX1_add 12 = .ok (.getfield 24, 3) := by decide +kernel
theorem dX1_add_15 : decode cX1_add 15 = .ok (.bipush 28, 2) := by decide +kernel
theorem dX1_add_17 : decode cX1_add 17 = .ok (.aload_n 0, 1) := by decide +kernel
theorem dX1_add_18 : decode cX1_add 18 = .ok (.getfield 24, 3) := by decide +kernel
theorem dX1_add_21 : decode cX1_add 21 = .ok (.iconst 0, 1) := by decide +kernel
theorem dX1_add_22 : decode cX1_add 22 = .ok (.aload_n 0, 1) := by decide +kernel
theorem dX1_add_23 : decode cX1_add 23 = .ok (.getfield 19, 3) := by decide +kernel
theorem dX1_add_26 : decode cX1_add 26 = .ok (.iconst 1, 1) := by decide +kernel
theorem dX1_add_27 : decode cX1_add 27 = .ok (.isub, 1) := by decide +kernel
theorem dX1_add_28 : decode cX1_add 28 = .ok (.bipush 28, 2) := by decide +kernel
theorem dX1_add_30 : decode cX1_add 30 = .ok (.imul, 1) := by decide +kernel
theorem dX1_add_31 : decode cX1_add 31 = .ok (.invokestatic 28, 3) := by decide +kernel
theorem dX1_add_34 : decode cX1_add 34 = .ok (.aload_n 0, 1) := by decide +kernel
theorem dX1_add_35 : decode cX1_add 35 = .ok (.aload_n 0, 1) := by decide +kernel
theorem dX1_add_36 : decode cX1_add 36 = .ok (.getfield 19, 3) := by decide +kernel
theorem dX1_add_39 : decode cX1_add 39 = .ok (.iconst 1, 1) := by decide +kernel
theorem dX1_add_40 : decode cX1_add 40 = .ok (.isub, 1) := by decide +kernel
theorem dX1_add_41 : decode cX1_add 41 = .ok (.putfield 7, 3) := by decide +kernel
theorem dX1_add_44 : decode cX1_add 44 = .ok (.aload_n 1, 1) := by decide +kernel
theorem dX1_add_45 : decode cX1_add 45 = .ok (.aload_n 0, 1) := by decide +kernel
theorem dX1_add_46 : decode cX1_add 46 = .ok (.getfield 24, 3) := by decide +kernel
theorem dX1_add_49 : decode cX1_add 49 = .ok (.aload_n 0, 1) := by decide +kernel
theorem dX1_add_50 : decode cX1_add 50 = .ok (.getfield 7, 3) := by decide +kernel
theorem dX1_add_53 : decode cX1_add 53 = .ok (.bipush 28, 2) := by decide +kernel
theorem dX1_add_55 : decode cX1_add 55 = .ok (.imul, 1) := by decide +kernel
theorem dX1_add_56 : decode cX1_add 56 = .ok (.invokevirtual 34, 3) := by decide +kernel
theorem dX1_add_59 : decode cX1_add 59 = .ok (.aload_n 0, 1) := by decide +kernel
theorem dX1_add_60 : decode cX1_add 60 = .ok (.dup, 1) := by decide +kernel
theorem dX1_add_61 : decode cX1_add 61 = .ok (.getfield 7, 3) := by decide +kernel
theorem dX1_add_64 : decode cX1_add 64 = .ok (.iconst 1, 1) := by decide +kernel
theorem dX1_add_65 : decode cX1_add 65 = .ok (.iadd, 1) := by decide +kernel
theorem dX1_add_66 : decode cX1_add 66 = .ok (.putfield 7, 3) := by decide +kernel
theorem dX1_add_69 : decode cX1_add 69 = .ok (.return_, 1) := by decide +kernel
set_option maxRecDepth 20000 in
theorem ggX1_takeInto_X3_takeFrom : GoodIn wsX1_takeInto wsX3_takeFrom := goodIn_r _ [7, 8, 9, 10, 11, 12, 13, 14, 15, 19, 20, 21, 22] (by decide +kernel) (by decide +kernel)
set_option maxRecDepth 20000 in
theorem gX1_takeInto_X3_takeFrom : GoodIn wsX1_takeInto (wsV RX1 38 RX3 yX3_takeFrom wsX3_takeFrom) := goodIn_app (goodIn_of _ (by decide +kernel)) ggX1_takeInto_X3_takeFrom
theorem dX1_takeInto_0 : decode cX1_takeInto 0 = .ok (.aload_n 0, 1) := by decide +kernel
theorem dX1_takeInto_1 : decode cX1_takeInto 1 = .ok (.getfield 7, 3) := by decide +kernel
theorem dX1_takeInto_4 : decode cX1_takeInto 4 = .ok (.ifCond .gt 5, 3) := by decide +kernel
theorem dX1_takeInto_7 : decode cX1_takeInto 7 = .ok (.iconst 0, 1) := by decide +kernel
theorem dX1_takeInto_8 : decode cX1_takeInto 8 = .ok (.ireturn, 1) := by decide +kernel
theorem dX1_takeInto_9 : decode cX1_takeInto 9 = .ok (.aload_n 0, 1) := by decide +kernel
theorem dX1_takeInto_10 : decode cX1_takeInto 10 = .ok (.dup, 1) := by decide +kernel
theorem dX1_takeInto_11 : decode cX1_takeInto 11 = .ok (.getfield 7, 3) := by decide +kernel
theorem dX1_takeInto_14 : decode cX1_takeInto 14 = .ok (.iconst 1, 1) := by decide +kernel
theorem dX1_takeInto_15 : decode cX1_takeInto 15 = .ok (.isub, 1) := by decide +kernel
theorem dX1_takeInto_16 : decode cX1_takeInto 16 = .ok (.putfield 7, 3) := by decide +kernel
theorem dX1_takeInto_19 : decode cX1_takeInto 19 = .ok (.aload_n 1, 1) := by decide +kernel
theorem dX1_takeInto_20 : decode cX1_takeInto 20 = .ok (.aload_n 0, 1) := by decide +kernel
theorem dX1_takeInto_21 : decode cX1_takeInto 21 = .ok (.getfield 24, 3) := by decide +kernel
theorem dX1_takeInto_24 : decode cX1_takeInto 24 = .ok (.aload_n 0, 1) := by decide +kernel
theorem dX1_takeInto_25 : decode cX1_takeInto 25 = .ok (.getfield 7, 3) := by decide +kernel
theorem dX1_takeInto_28 : decode cX1_takeInto 28 = .ok (.bipush 28, 2) := by decide +kernel
theorem dX1_takeInto_30 : decode cX1_takeInto 30 = .ok (.imul, 1) := by decide +kernel
theorem dX1_takeInto_31 : decode cX1_takeInto 31 = .ok (.invokevirtual 38, 3) := by decide +kernel
theorem dX1_takeInto_34 : decode cX1_takeInto 34 = .ok (.iconst 1, 1) := by decide +kernel
theorem dX1_takeInto_35 : decode cX1_takeInto 35 = .ok (.ireturn, 1) := by decide +kernel
theorem dX2_init_0 : decode cX2_init 0 = .ok (.aload_n 0, 1) := by decide +kernel
theorem dX2_init_1 : decode cX2_init 1 = .ok (.invokespecial 3, 3) := by decide +kernel
theorem dX2_init_4 : decode cX2_init 4 = .ok (.aload_n 0, 1) := by decide +kernel
theorem dX2_init_5 : decode cX2_init 5 = .ok (.iconst 0, 1) := by decide +kernel
theorem dX2_init_6 : decode cX2_init 6 = .ok (.putfield 9, 3) := by decide +kernel
theorem dX2_init_9 : decode cX2_init 9 = .ok (.aload_n 0, 1) := by decide +kernel
theorem dX2_init_10 : decode cX2_init 10 = .ok (.iconst 0, 1) := by decide +kernel
theorem dX2_init_11 : decode cX2_init 11 = .ok (.putfield 15, 3) := by decide +kernel
theorem dX2_init_14 : decode cX2_init 14 = .ok (.aload_n 0, 1) := by decide +kernel
theorem dX2_init_15 : decode cX2_init 15 = .ok (.iconst 0, 1) := by decide +kernel
theorem dX2_init_16 : decode cX2_init 16 = .ok (.putfield 18, 3) := by decide +kernel
theorem dX2_init_19 : decode cX2_init 19 = .ok (.aload_n 0, 1) := by decide +kernel
theorem dX2_init_20 : decode cX2_init 20 = .ok (.iconst 0, 1) := by decide +kernel
theorem dX2_init_21 : decode cX2_init 21 = .ok (.putfield 21, 3) := by decide +kernel
theorem dX2_init_24 : decode cX2_init 24 = .ok (.aload_n 0, 1) := by decide +kernel
theorem dX2_init_25 : decode cX2_init 25 = .ok (.aload_n 1, 1) := by decide +kernel
theorem dX2_init_26 : decode cX2_init 26 = .ok (.putfield 25, 3) := by decide +kernel
theorem dX2_init_29 : decode cX2_init 29 = .ok (.return_, 1) := by decide +kernel
set_option maxRecDepth 20000 in
theorem ggX2_readInto_X6_clear : GoodIn wsX2_readInto wsX6_clear := goodIn_r _ [8, 9, 10, 11, 12, 13, 14, 15, 16, 17, 18, 19, 20, 7, 21, 22, 23, 24, 25, 107, 108, 109, 110, 111, 112, 113, 114, 115, 116, 117, 118, 119] (by decide +kernel) (by decide +kernel)
set_option maxRecDepth 20000 in
theorem gX2_readInto_X6_clear : GoodIn wsX2_readInto (wsV RX2 29 RX6 yX6_clear wsX6_clear) := goodIn_app (goodIn_of _ (by decide +kernel)) ggX2_readInto_X6_clear
set_option maxRecDepth 20000 in
theorem ggX2_readInto_X2_readItem : GoodIn wsX2_readInto wsX2_readItem := goodIn_r _ [30, 3, 1, 31, 32, 33, 34, 35, 36, 37, 38, 39, 40, 29, 41, 42, 43, 44, 45, 46, 47, 48, 49, 50, 51, 52, 53, 54, 55, 56, 57, 58, 2, 59, 19, 20, 7, 21, 22, 23, 24, 25, 60, 61, 62, 63, 9, 64, 65, 66, 67, 68, 69, 70, 71, 12, 72, 73, 74, 75, 76, 77, 78, 79, 80, 81, 82, 83, 84, 85, 10, 86, 87, 88, 89, 11, 90, 91, 92, 93, 94, 13, 95, 100, 101, 102, 103, 104, 105, 106, 107, 108, 109, 110, 111, 112, 113, 114, 115, 116, 117, 118, 119] (by decide +kernel) (by decide +kernel)
set_option maxRecDepth 20000 in
theorem gX2_readInto_X2_readItem : GoodIn wsX2_readInto (wsV RX2 39 RX2 yX2_readItem wsX2_readItem) := goodIn_app (goodIn_of _ (by decide +kernel)) ggX2_readInto_X2_readItem
set_option maxRecDepth 20000 in
theorem ggX2_readInto_X6_letOff : GoodIn wsX2_readInto wsX6_letOff := goodIn_r _ [99, 10, 9, 64, 65, 66, 7, 67, 23, 107, 108, 109, 110, 111, 112, 113, 114, 115, 116, 117, 118, 119] (by decide +kernel) (by decide +kernel)
set_option maxRecDepth 20000 in
theorem gX2_readInto_X6_letOff : GoodIn wsX2_readInto (wsV RX2 43 RX6 yX6_letOff wsX6_letOff) := goodIn_app (goodIn_of _ (by decide +kernel)) ggX2_readInto_X6_letOff
theorem dX2_readInto_0 : decode cX2_readInto 0 = .ok (.aload_n 0, 1) := by decide +kernel
theorem dX2_readInto_1 : decode cX2_readInto 1 = .ok (.iconst 0, 1) := by decide +kernel
theorem dX2_readInto_2 : decode cX2_readInto 2 = .ok (.putfield 9, 3) := by decide +kernel
theorem dX2_readInto_5 : decode cX2_readInto 5 = .ok (.aload_n 0, 1) := by decide +kernel
theorem dX2_readInto_6 : decode cX2_readInto 6 = .ok (.iconst 0, 1) := by decide +kernel
theorem dX2_readInto_7 : decode cX2_readInto 7 = .ok (.putfield 21, 3) := by decide +kernel
theorem dX2_readInto_10 : decode cX2_readInto 10 = .ok (.aload_n 1, 1) := by decide +kernel
theorem dX2_readInto_11 : decode cX2_readInto 11 = .ok (.invokevirtual 29, 3) := by decide +kernel
theorem dX2_readInto_14 : decode cX2_readInto 14 = .ok (.iconst 0, 1) := by decide +kernel
theorem dX2_readInto_15 : decode cX2_readInto 15 = .ok (.istore_n 2, 1) := by decide +kernel
theorem dX2_readInto_16 : decode cX2_readInto 16 = .ok (.iload_n 2, 1) := by decide +kernel
theorem dX2_readInto_17 : decode cX2_readInto 17 = .ok (.sipush 200, 3) := by decide +kernel
theorem dX2_readInto_20 : decode cX2_readInto 20 = .ok (.if_icmp .ge 38, 3) := by decide +kernel
theorem dX2_readInto_23 : decode cX2_readInto 23 = .ok (.aload_n 0, 1) := by decide +kernel
theorem dX2_readInto_24 : decode cX2_readInto 24 = .ok (.getfield 9, 3) := by decide +kernel
theorem dX2_readInto_27 : decode cX2_readInto 27 = .ok (.aload_n 0, 1) := by decide +kernel
theorem dX2_readInto_28 : decode cX2_readInto 28 = .ok (.getfield 25, 3) := by decide +kernel
theorem dX2_readInto_31 : decode cX2_readInto 31 = .ok (.getfield 34, 3) := by decide +kernel
theorem dX2_readInto_34 : decode cX2_readInto 34 = .ok (.if_icmp .ge 24, 3) := by decide +kernel
theorem dX2_readInto_37 : decode cX2_readInto 37 = .ok (.aload_n 0, 1) := by decide +kernel
theorem dX2_readInto_38 : decode cX2_readInto 38 = .ok (.getfield 9, 3) := by decide +kernel
theorem dX2_readInto_41 : decode cX2_readInto 41 = .ok (.istore_n 3, 1) := by decide +kernel
theorem dX2_readInto_42 : decode cX2_readInto 42 = .ok (.aload_n 0, 1) := by decide +kernel
theorem dX2_readInto_43 : decode cX2_readInto 43 = .ok (.aload_n 1, 1) := by decide +kernel
theorem dX2_readInto_44 : decode cX2_readInto 44 = .ok (.invokevirtual 39, 3) := by decide +kernel
theorem dX2_readInto_47 : decode cX2_readInto 47 = .ok (.ifCond .ne 5, 3) := by decide +kernel
theorem dX2_readInto_50 : decode cX2_readInto 50 = .ok (.iload_n 3, 1) := by decide +kernel
theorem dX2_readInto_51 : decode cX2_readInto 51 = .ok (.ireturn, 1) := by decide +kernel
theorem dX2_readInto_52 : decode cX2_readInto 52 = .ok (.iinc 2 1, 3) := by decide +kernel
theorem dX2_readInto_55 : decode cX2_readInto 55 = .ok (.goto (-39), 3) := by decide +kernel
theorem dX2_readInto_58 : decode cX2_readInto 58 = .ok (.aload_n 1, 1) := by decide +kernel
theorem dX2_readInto_59 : decode cX2_readInto 59 = .ok (.invokevirtual 43, 3) := by decide +kernel
theorem dX2_readInto_62 : decode cX2_readInto 62 = .ok (.bipush (-4), 2) := by decide +kernel
theorem dX2_readInto_64 : decode cX2_readInto 64 = .ok (.ireturn, 1) := by decide +kernel
set_option maxRecDepth 20000 in
theorem ggX2_readItem_X0_at : GoodIn wsX2_readItem wsX0_at := goodIn_r _ [7, 8, 9, 88, 89] (by decide +kernel) (by decide +kernel)
set_option maxRecDepth 20000 in
theorem gX2_readItem_X0_at : GoodIn wsX2_readItem (wsV RX2 46 RX0 yX0_at wsX0_at) := goodIn_app (goodIn_of _ (by decide +kernel)) ggX2_readItem_X0_at
set_option maxRecDepth 20000 in
theorem ggX2_readItem_X2_readTwo : GoodIn wsX2_readItem wsX2_readTwo := goodIn_r _ [14, 15, 16, 17, 18, 19, 13, 20, 1, 2, 3, 4, 5, 6, 7, 8, 9, 21, 22, 23, 24, 25, 26, 27, 83, 84, 85, 86, 87, 88, 89] (by decide +kernel) (by decide +kernel)
set_option maxRecDepth 20000 in
theorem gX2_readItem_X2_readTwo : GoodIn wsX2_readItem (wsV RX2 50 RX2 yX2_readTwo wsX2_readTwo) := goodIn_app (goodIn_of _ (by decide +kernel)) ggX2_readItem_X2_readTwo
set_option maxRecDepth 20000 in
theorem ggX2_readItem_X2_takeTwo : GoodIn wsX2_readItem wsX2_takeTwo := goodIn_r _ [31, 32, 15, 16, 33, 34, 35, 36, 37, 38, 39, 40, 41, 42, 43, 44, 45, 46, 47, 48, 49, 50, 51, 52, 53, 54, 55, 56, 57, 83, 84, 85, 86, 87, 90, 91, 92, 93, 94, 95, 96, 97, 98, 99, 100, 101, 102] (by decide +kernel) (by decide +kernel)
set_option maxRecDepth 20000 in
theorem gX2_readItem_X2_takeTwo : GoodIn wsX2_readItem (wsV RX2 54 RX2 yX2_takeTwo wsX2_takeTwo) := goodIn_app (goodIn_of _ (by decide +kernel)) ggX2_readItem_X2_takeTwo
set_option maxRecDepth 20000 in
theorem ggX2_readItem_X2_readOne : GoodIn wsX2_readItem wsX2_readOne := goodIn_r _ [61, 15, 17, 18, 19, 13, 20, 1, 2, 3, 4, 5, 6, 7, 8, 9, 21, 22, 23, 24, 25, 26, 27, 83, 84, 85, 86, 87, 88, 89] (by decide +kernel) (by decide +kernel)
set_option maxRecDepth 20000 in
theorem gX2_readItem_X2_readOne : GoodIn wsX2_readItem (wsV RX2 58 RX2 yX2_readOne wsX2_readOne) := goodIn_app (goodIn_of _ (by decide +kernel)) ggX2_readItem_X2_readOne
set_option maxRecDepth 20000 in
theorem ggX2_readItem_X2_takeOne : GoodIn wsX2_readItem wsX2_takeOne := goodIn_r _ [65, 32, 15, 66, 67, 68, 36, 69, 38, 70, 71, 72, 73, 74, 75, 76, 77, 78, 79, 80, 81, 82, 83, 84, 85, 86, 87, 90, 91, 92, 93, 94, 95, 96, 97, 98, 99, 100, 101, 102] (by decide +kernel) (by decide +kernel)
set_option maxRecDepth 20000 in
theorem gX2_readItem_X2_takeOne : GoodIn wsX2_readItem (wsV RX2 61 RX2 yX2_takeOne wsX2_takeOne) := goodIn_app (goodIn_of _ (by decide +kernel)) ggX2_readItem_X2_takeOne
theorem dX2_readItem_0 : decode cX2_readItem 0 = .ok (.aload_n 0, 1) := by decide +kernel
theorem dX2_readItem_1 : decode cX2_readItem 1 = .ok (.getfield 25, 3) := by decide +kernel
theorem dX2_readItem_4 : decode cX2_readItem 4 = .ok (.aload_n 0, 1) := by decide +kernel
theorem dX2_readItem_5 : decode cX2_readItem 5 = .ok (.getfield 9, 3) := by decide +kernel
theorem dX2_readItem_8 : decode cX2_readItem 8 = .ok (.invokevirtual 46, 3) := by decide +kernel
theorem dX2_readItem_11 : decode cX2_readItem 11 = .ok (.istore_n 2, 1) := by decide +kernel
theorem dX2_readItem_12 : decode cX2_readItem 12 = .ok (.aload_n 0, 1) := by decide +kernel
theorem dX2_readItem_13 : decode cX2_readItem 13 = .ok (.dup, 1) := by decide +kernel
theorem dX2_readItem_14 : decode cX2_readItem 14 = .ok (.getfield 9, 3) := by decide +kernel
theorem dX2_readItem_17 : decode cX2_readItem 17 = .ok (.iconst 1, 1) := by decide +kernel
theorem dX2_readItem_18 : decode cX2_readItem 18 = .ok (.iadd, 1) := by decide +kernel
theorem dX2_readItem_19 : decode cX2_readItem 19 = .ok (.putfield 9, 3) := by decide +kernel
theorem dX2_readItem_22 : decode cX2_readItem 22 = .ok (.iload_n 2, 1) := by decide +kernel
theorem dX2_readItem_23 : decode cX2_readItem 23 = .ok (.lookupswitch 101 #[(100, 79), (104, 79), (107, 57), (114, 57), (115, 79), (121, 57)], 57) := by decide +kernel
theorem dX2_readItem_80 : decode cX2_readItem 80 = .ok (.aload_n 0, 1) := by decide +kernel
theorem dX2_readItem_81 : decode cX2_readItem 81 = .ok (.invokevirtual 50, 3) := by decide +kernel
theorem dX2_readItem_84 : decode cX2_readItem 84 = .ok (.ifCond .eq 16, 3) := by decide +kernel
theorem dX2_readItem_87 : decode cX2_readItem 87 = .ok (.aload_n 0, 1) := by decide +kernel
theorem dX2_readItem_88 : decode cX2_readItem 88 = .ok (.iload_n 2, 1) := by decide +kernel
theorem dX2_readItem_89 : decode cX2_readItem 89 = .ok (.aload_n 1, 1) := by decide +kernel
theorem dX2_readItem_90 : decode cX2_readItem 90 = .ok (.invokevirtual 54, 3) := by decide +kernel
theorem dX2_readItem_93 : decode cX2_readItem 93 = .ok (.ifCond .eq 7, 3) := by decide +kernel
theorem dX2_readItem_96 : decode cX2_readItem 96 = .ok (.iconst 1, 1) := by decide +kernel
theorem dX2_readItem_97 : decode cX2_readItem 97 = .ok (.goto 4, 3) := by decide +kernel
theorem dX2_readItem_100 : decode cX2_readItem 100 = .ok (.iconst 0, 1) := by decide +kernel
theorem dX2_readItem_101 : decode cX2_readItem 101 = .ok (.ireturn, 1) := by decide +kernel
theorem dX2_readItem_102 : decode cX2_readItem 102 = .ok (.aload_n 0, 1) := by decide +kernel
theorem dX2_readItem_103 : decode cX2_readItem 103 = .ok (.invokevirtual 58, 3) := by decide +kernel
theorem dX2_readItem_106 : decode cX2_readItem 106 = .ok (.ifCond .eq 16, 3) := by decide +kernel
theorem dX2_readItem_109 : decode cX2_readItem 109 = .ok (.aload_n 0, 1) := by decide +kernel
theorem dX2_readItem_110 : decode cX2_readItem 110 = .ok (.iload_n 2, 1) := by decide +kernel
theorem dX2_readItem_111 : decode cX2_readItem 111 = .ok (.aload_n 1, 1) := by decide +kernel
theorem dX2_readItem_112 : decode cX2_readItem 112 = .ok (.invokevirtual 61, 3) := by decide +kernel
theorem dX2_readItem_115 : decode cX2_readItem 115 = .ok (.ifCond .eq 7, 3) := by decide +kernel
theorem dX2_readItem_118 : decode cX2_readItem 118 = .ok (.iconst 1, 1) := by decide +kernel
theorem dX2_readItem_119 : decode cX2_readItem 119 = .ok (.goto 4, 3) := by decide +kernel
theorem dX2_readItem_122 : decode cX2_readItem 122 = .ok (.iconst 0, 1) := by decide +kernel
theorem dX2_readItem_123 : decode cX2_readItem 123 = .ok (.ireturn, 1) := by decide +kernel
theorem dX2_readItem_124 : decode cX2_readItem 124 = .ok (.iconst 0, 1) := by decide +kernel
theorem dX2_readItem_125 : decode cX2_readItem 125 = .ok (.ireturn, 1) := by decide +kernel
set_option maxRecDepth 20000 in
theorem ggX2_readOne_X2_readNumber : GoodIn wsX2_readOne wsX2_readNumber := goodIn_r _ [6, 7, 8, 9, 10, 11, 12, 13, 14, 15, 16, 17, 5, 18, 23, 24, 25, 26, 27, 28, 29] (by decide +kernel) (by decide +kernel)
set_option maxRecDepth 20000 in
theorem gX2_readOne_X2_readNumber : GoodIn wsX2_readOne (wsV RX2 64 RX2 yX2_readNumber wsX2_readNumber) := goodIn_app (goodIn_of _ (by decide +kernel)) ggX2_readOne_X2_readNumber
set_option maxRecDepth 20000 in
theorem ggX2_readOne_X2_readSign : GoodIn wsX2_readOne wsX2_readSign := goodIn_r _ [22, 7, 8, 9, 10, 11, 12, 13, 14, 15, 23, 24, 25, 26, 27, 28, 29] (by decide +kernel) (by decide +kernel)
set_option maxRecDepth 20000 in
theorem gX2_readOne_X2_readSign : GoodIn wsX2_readOne (wsV RX2 68 RX2 yX2_readSign wsX2_readSign) := goodIn_app (goodIn_of _ (by decide +kernel)) ggX2_readOne_X2_readSign
theorem dX2_readOne_0 : decode cX2_readOne 0 = .ok (.aload_n 0, 1) := by decide +kernel
theorem dX2_readOne_1 : decode cX2_readOne 1 = .ok (.aload_n 0, 1) := by decide +kernel
theorem dX2_readOne_2 : decode cX2_readOne 2 = .ok (.invokevirtual 64, 3) := by decide +kernel
theorem dX2_readOne_5 : decode cX2_readOne 5 = .ok (.putfield 15, 3) := by decide +kernel
theorem dX2_readOne_8 : decode cX2_readOne 8 = .ok (.aload_n 0, 1) := by decide +kernel
theorem dX2_readOne_9 : decode cX2_readOne 9 = .ok (.getfield 15, 3) := by decide +kernel
theorem dX2_readOne_12 : decode cX2_readOne 12 = .ok (.bipush (-4), 2) := by decide +kernel
theorem dX2_readOne_14 : decode cX2_readOne 14 = .ok (.if_icmp .eq 16, 3) := by decide +kernel
theorem dX2_readOne_17 : decode cX2_readOne 17 = .ok (.aload_n 0, 1) := by decide +kernel
theorem dX2_readOne_18 : decode cX2_readOne 18 = .ok (.bipush 59, 2) := by decide +kernel
theorem dX2_readOne_20 : decode cX2_readOne 20 = .ok (.invokevirtual 68, 3) := by decide +kernel
theorem dX2_readOne_23 : decode cX2_readOne 23 = .ok (.ifCond .eq 7, 3) := by decide +kernel
theorem dX2_readOne_26 : decode cX2_readOne 26 = .ok (.iconst 1, 1) := by decide +kernel
theorem dX2_readOne_27 : decode cX2_readOne 27 = .ok (.goto 4, 3) := by decide +kernel
theorem dX2_readOne_30 : decode cX2_readOne 30 = .ok (.iconst 0, 1) := by decide +kernel
theorem dX2_readOne_31 : decode cX2_readOne 31 = .ok (.ireturn, 1) := by decide +kernel
set_option maxRecDepth 20000 in
theorem ggX2_readTwo_X2_readNumber : GoodIn wsX2_readTwo wsX2_readNumber := goodIn_r _ [7, 8, 9, 10, 11, 12, 13, 14, 15, 16, 17, 18, 6, 19, 24, 25, 26, 27, 28, 29, 30] (by decide +kernel) (by decide +kernel)
set_option maxRecDepth 20000 in
theorem gX2_readTwo_X2_readNumber : GoodIn wsX2_readTwo (wsV RX2 64 RX2 yX2_readNumber wsX2_readNumber) := goodIn_app (goodIn_of _ (by decide +kernel)) ggX2_readTwo_X2_readNumber
set_option maxRecDepth 20000 in
theorem ggX2_readTwo_X2_readSign : GoodIn wsX2_readTwo wsX2_readSign := goodIn_r _ [23, 8, 9, 10, 11, 12, 13, 14, 15, 16, 24, 25, 26, 27, 28, 29, 30] (by decide +kernel) (by decide +kernel)
set_option maxRecDepth 20000 in
theorem gX2_readTwo_X2_readSign : GoodIn wsX2_readTwo (wsV RX2 68 RX2 yX2_readSign wsX2_readSign) := goodIn_app (goodIn_of _ (by decide +kernel)) ggX2_readTwo_X2_readSign
theorem dX2_readTwo_0 : decode cX2_readTwo 0 = .ok (.aload_n 0, 1) := by decide +kernel
theorem dX2_readTwo_1 : decode cX2_readTwo 1 = .ok (.aload_n 0, 1) := by decide +kernel
theorem dX2_readTwo_2 : decode cX2_readTwo 2 = .ok (.invokevirtual 64, 3) := by decide +kernel
theorem dX2_readTwo_5 : decode cX2_readTwo 5 = .ok (.putfield 15, 3) := by decide +kernel
theorem dX2_readTwo_8 : decode cX2_readTwo 8 = .ok (.aload_n 0, 1) := by decide +kernel
theorem dX2_readTwo_9 : decode cX2_readTwo 9 = .ok (.getfield 15, 3) := by decide +kernel
theorem dX2_readTwo_12 : decode cX2_readTwo 12 = .ok (.bipush (-4), 2) := by decide +kernel
theorem dX2_readTwo_14 : decode cX2_readTwo 14 = .ok (.if_icmp .eq 12, 3) := by decide +kernel
theorem dX2_readTwo_17 : decode cX2_readTwo 17 = .ok (.aload_n 0, 1) := by decide +kernel
theorem dX2_readTwo_18 : decode cX2_readTwo 18 = .ok (.bipush 44, 2) := by decide +kernel
theorem dX2_readTwo_20 : decode cX2_readTwo 20 = .ok (.invokevirtual 68, 3) := by decide +kernel
theorem dX2_readTwo_23 : decode cX2_readTwo 23 = .ok (.ifCond .ne 5, 3) := by decide +kernel
theorem dX2_readTwo_26 : decode cX2_readTwo 26 = .ok (.iconst 0, 1) := by decide +kernel
theorem dX2_readTwo_27 : decode cX2_readTwo 27 = .ok (.ireturn, 1) := by decide +kernel
theorem dX2_readTwo_28 : decode cX2_readTwo 28 = .ok (.aload_n 0, 1) := by decide +kernel
theorem dX2_readTwo_29 : decode cX2_readTwo 29 = .ok (.aload_n 0, 1) := by decide +kernel
theorem dX2_readTwo_30 : decode cX2_readTwo 30 = .ok (.invokevirtual 64, 3) := by decide +kernel
theorem dX2_readTwo_33 : decode cX2_readTwo 33 = .ok (.putfield 18, 3) := by decide +kernel
theorem dX2_readTwo_36 : decode cX2_readTwo 36 = .ok (.aload_n 0, 1) := by decide +kernel
theorem dX2_readTwo_37 : decode cX2_readTwo 37 = .ok (.getfield 18, 3) := by decide +kernel
theorem dX2_readTwo_40 : decode cX2_readTwo 40 = .ok (.bipush (-4), 2) := by decide +kernel
theorem dX2_readTwo_42 : decode cX2_readTwo 42 = .ok (.if_icmp .eq 16, 3) := by decide +kernel
theorem dX2_readTwo_45 : decode cX2_readTwo 45 = .ok (.aload_n 0, 1) := by decide +kernel
theorem dX2_readTwo_46 : decode cX2_readTwo 46 = .ok (.bipush 59, 2) := by decide +kernel
theorem dX2_readTwo_48 : decode cX2_readTwo 48 = .ok (.invokevirtual 68, 3) := by decide +kernel
theorem dX2_readTwo_51 : decode cX2_readTwo 51 = .ok (.ifCond .eq 7, 3) := by decide +kernel
theorem dX2_readTwo_54 : decode cX2_readTwo 54 = .ok (.iconst 1, 1) := by decide +kernel
theorem dX2_readTwo_55 : decode cX2_readTwo 55 = .ok (.goto 4, 3) := by decide +kernel
theorem dX2_readTwo_58 : decode cX2_readTwo 58 = .ok (.iconst 0, 1) := by decide +kernel
theorem dX2_readTwo_59 : decode cX2_readTwo 59 = .ok (.ireturn, 1) := by decide +kernel
set_option maxRecDepth 20000 in
theorem ggX2_readSign_X0_at : GoodIn wsX2_readSign wsX0_at := goodIn_r _ [7, 8, 9, 15, 16] (by decide +kernel) (by decide +kernel)
set_option maxRecDepth 20000 in
theorem gX2_readSign_X0_at : GoodIn wsX2_readSign (wsV RX2 46 RX0 yX0_at wsX0_at) := goodIn_app (goodIn_of _ (by decide +kernel)) ggX2_readSign_X0_at
theorem dX2_readSign_0 : decode cX2_readSign 0 = .ok (.aload_n 0, 1) := by decide +kernel
theorem dX2_readSign_1 : decode cX2_readSign 1 = .ok (.getfield 25, 3) := by decide +kernel
theorem dX2_readSign_4 : decode cX2_readSign 4 = .ok (.aload_n 0, 1) := by decide +kernel
theorem dX2_readSign_5 : decode cX2_readSign 5 = .ok (.getfield 9, 3) := by decide +kernel
theorem dX2_readSign_8 : decode cX2_readSign 8 = .ok (.invokevirtual 46, 3) := by decide +kernel
theorem dX2_readSign_11 : decode cX2_readSign 11 = .ok (.iload_n 1, 1) := by decide +kernel
theorem dX2_readSign_12 : decode cX2_readSign 12 = .ok (.if_icmp .ne 7, 3) := by decide +kernel
theorem dX2_readSign_15 : decode cX2_readSign 15 = .ok (.iconst 1, 1) := by decide +kernel
theorem dX2_readSign_16 : decode cX2_readSign 16 = .ok (.goto 4, 3) := by decide +kernel
theorem dX2_readSign_19 : decode cX2_readSign 19 = .ok (.iconst 0, 1) := by decide +kernel
theorem dX2_readSign_20 : decode cX2_readSign 20 = .ok (.istore_n 2, 1) := by decide +kernel
theorem dX2_readSign_21 : decode cX2_readSign 21 = .ok (.aload_n 0, 1) := by decide +kernel
theorem dX2_readSign_22 : decode cX2_readSign 22 = .ok (.dup, 1) := by decide +kernel
theorem dX2_readSign_23 : decode cX2_readSign 23 = .ok (.getfield 9, 3) := by decide +kernel
theorem dX2_readSign_26 : decode cX2_readSign 26 = .ok (.iconst 1, 1) := by decide +kernel
theorem dX2_readSign_27 : decode cX2_readSign 27 = .ok (.iadd, 1) := by decide +kernel
theorem dX2_readSign_28 : decode cX2_readSign 28 = .ok (.putfield 9, 3) := by decide +kernel
theorem dX2_readSign_31 : decode cX2_readSign 31 = .ok (.iload_n 2, 1) := by decide +kernel
theorem dX2_readSign_32 : decode cX2_readSign 32 = .ok (.ireturn, 1) := by decide +kernel
set_option maxRecDepth 20000 in
theorem ggX2_readNumber_X0_at : GoodIn wsX2_readNumber wsX0_at := goodIn_r _ [7, 8, 9, 19, 20] (by decide +kernel) (by decide +kernel)
set_option maxRecDepth 20000 in
theorem gX2_readNumber_X0_at : GoodIn wsX2_readNumber (wsV RX2 46 RX0 yX0_at wsX0_at) := goodIn_app (goodIn_of _ (by decide +kernel)) ggX2_readNumber_X0_at
set_option maxRecDepth 20000 in
theorem ggX2_readNumber_X2_isFigure : GoodIn wsX2_readNumber wsX2_isFigure := goodIn_r _ [13] (by decide +kernel) (by decide +kernel)
set_option maxRecDepth 20000 in
theorem gX2_readNumber_X2_isFigure : GoodIn wsX2_readNumber (va_wsS RX2 72 yX2_isFigure wsX2_isFigure) := goodIn_app (goodIn_of _ (by decide +kernel)) ggX2_readNumber_X2_isFigure
theorem dX2_readNumber_0 : decode cX2_readNumber 0 = .ok (.bipush (-4), 2) := by decide +kernel
theorem dX2_readNumber_2 : decode cX2_readNumber 2 = .ok (.istore_n 1, 1) := by decide +kernel
theorem dX2_readNumber_3 : decode cX2_readNumber 3 = .ok (.iconst 0, 1) := by decide +kernel
theorem dX2_readNumber_4 : decode cX2_readNumber 4 = .ok (.istore_n 2, 1) := by decide +kernel
theorem dX2_readNumber_5 : decode cX2_readNumber 5 = .ok (.iload_n 2, 1) := by decide +kernel
theorem dX2_readNumber_6 : decode cX2_readNumber 6 = .ok (.iconst 2, 1) := by decide +kernel
theorem dX2_readNumber_7 : decode cX2_readNumber 7 = .ok (.if_icmp .ge 66, 3) := by decide +kernel
theorem dX2_readNumber_10 : decode cX2_readNumber 10 = .ok (.aload_n 0, 1) := by decide +kernel
theorem dX2_readNumber_11 : decode cX2_readNumber 11 = .ok (.getfield 25, 3) := by decide +kernel
theorem dX2_readNumber_14 : decode cX2_readNumber 14 = .ok (.aload_n 0, 1) := by decide +kernel
theorem dX2_readNumber_15 : decode cX2_readNumber 15 = .ok (.getfield 9, 3) := by decide +kernel
theorem dX2_readNumber_18 : decode cX2_readNumber 18 = .ok (.invokevirtual 46, 3) := by decide +kernel
theorem dX2_readNumber_21 : decode cX2_readNumber 21 = .ok (.invokestatic 72, 3) := by decide +kernel
theorem dX2_readNumber_24 : decode cX2_readNumber 24 = .ok (.ifCond .eq 49, 3) := by decide +kernel
theorem dX2_readNumber_27 : decode cX2_readNumber 27 = .ok (.aload_n 0, 1) := by decide +kernel
theorem dX2_readNumber_28 : decode cX2_readNumber 28 = .ok (.getfield 25, 3) := by decide +kernel
theorem dX2_readNumber_31 : decode cX2_readNumber 31 = .ok (.aload_n 0, 1) := by decide +kernel
theorem dX2_readNumber_32 : decode cX2_readNumber 32 = .ok (.getfield 9, 3) := by decide +kernel
theorem dX2_readNumber_35 : decode cX2_readNumber 35 = .ok (.invokevirtual 46, 3) := by decide +kernel
theorem dX2_readNumber_38 : decode cX2_readNumber 38 = .ok (.bipush 48, 2) := by decide +kernel
theorem dX2_readNumber_40 : decode cX2_readNumber 40 = .ok (.isub, 1) := by decide +kernel
theorem dX2_readNumber_41 : decode cX2_readNumber 41 = .ok (.istore_n 3, 1) := by decide +kernel
theorem dX2_readNumber_42 : decode cX2_readNumber 42 = .ok (.iload_n 2, 1) := by decide +kernel
theorem dX2_readNumber_43 : decode cX2_readNumber 43 = .ok (.ifCond .ne 7, 3) := by decide +kernel
theorem dX2_readNumber_46 : decode cX2_readNumber 46 = .ok (.iload_n 3, 1) := by decide +kernel
theorem dX2_readNumber_47 : decode cX2_readNumber 47 = .ok (.goto 9, 3) := by decide +kernel
theorem dX2_readNumber_50 : decode cX2_readNumber 50 = .ok (.iload_n 1, 1) := by decide +kernel
theorem dX2_readNumber_51 : decode cX2_readNumber 51 = .ok (.bipush 10, 2) := by decide +kernel
theorem dX2_readNumber_53 : decode cX2_readNumber 53 = .ok (.imul, 1) := by decide +kernel
theorem dX2_readNumber_54 : decode cX2_readNumber 54 = .ok (.iload_n 3, 1) := by decide +kernel
theorem dX2_readNumber_55 : decode cX2_readNumber 55 = .ok (.iadd, 1) := by decide +kernel
theorem dX2_readNumber_56 : decode cX2_readNumber 56 = .ok (.istore_n 1, 1) := by decide +kernel
theorem dX2_readNumber_57 : decode cX2_readNumber 57 = .ok (.aload_n 0, 1) := by decide +kernel
theorem dX2_readNumber_58 : decode cX2_readNumber 58 = .ok (.dup, 1) := by decide +kernel
theorem dX2_readNumber_59 : decode cX2_readNumber 59 = .ok (.getfield 9, 3) := by decide +kernel
theorem dX2_readNumber_62 : decode cX2_readNumber 62 = .ok (.iconst 1, 1) := by decide +kernel
theorem dX2_readNumber_63 : decode cX2_readNumber 63 = .ok (.iadd, 1) := by decide +kernel
theorem dX2_readNumber_64 : decode cX2_readNumber 64 = .ok (.putfield 9, 3) := by decide +kernel
theorem dX2_readNumber_67 : decode cX2_readNumber 67 = .ok (.iinc 2 1, 3) := by decide +kernel
theorem dX2_readNumber_70 : decode cX2_readNumber 70 = .ok (.goto (-65), 3) := by decide +kernel
theorem dX2_readNumber_73 : decode cX2_readNumber 73 = .ok (.iload_n 1, 1) := by decide +kernel
theorem dX2_readNumber_74 : decode cX2_readNumber 74 = .ok (.ireturn, 1) := by decide +kernel
theorem dX2_isFigure_0 : decode cX2_isFigure 0 = .ok (.iload_n 0, 1) := by decide +kernel
theorem dX2_isFigure_1 : decode cX2_isFigure 1 = .ok (.bipush 48, 2) := by decide +kernel
theorem dX2_isFigure_3 : decode cX2_isFigure 3 = .ok (.if_icmp .lt 13, 3) := by decide +kernel
theorem dX2_isFigure_6 : decode cX2_isFigure 6 = .ok (.iload_n 0, 1) := by decide +kernel
theorem dX2_isFigure_7 : decode cX2_isFigure 7 = .ok (.bipush 57, 2) := by decide +kernel
theorem dX2_isFigure_9 : decode cX2_isFigure 9 = .ok (.if_icmp .gt 7, 3) := by decide +kernel
theorem dX2_isFigure_12 : decode cX2_isFigure 12 = .ok (.iconst 1, 1) := by decide +kernel
theorem dX2_isFigure_13 : decode cX2_isFigure 13 = .ok (.goto 4, 3) := by decide +kernel
theorem dX2_isFigure_16 : decode cX2_isFigure 16 = .ok (.iconst 0, 1) := by decide +kernel
theorem dX2_isFigure_17 : decode cX2_isFigure 17 = .ok (.ireturn, 1) := by decide +kernel
set_option maxRecDepth 20000 in
theorem ggX2_takeOne_X6_takeStart : GoodIn wsX2_takeOne wsX6_takeStart := goodIn_r _ [7, 8, 9, 27, 28, 29, 30, 31, 32, 33, 34, 35, 36, 37, 38, 39] (by decide +kernel) (by decide +kernel)
set_option maxRecDepth 20000 in
theorem gX2_takeOne_X6_takeStart : GoodIn wsX2_takeOne (wsV RX2 75 RX6 yX6_takeStart wsX6_takeStart) := goodIn_app (goodIn_of _ (by decide +kernel)) ggX2_takeOne_X6_takeStart
set_option maxRecDepth 20000 in
theorem ggX2_takeOne_X6_takeDamp : GoodIn wsX2_takeOne wsX6_takeDamp := goodIn_r _ [13, 14, 15, 27, 28, 29, 30, 31, 32, 33, 34, 35, 36, 37, 38, 39] (by decide +kernel) (by decide +kernel)
set_option maxRecDepth 20000 in
theorem gX2_takeOne_X6_takeDamp : GoodIn wsX2_takeOne (wsV RX2 78 RX6 yX6_takeDamp wsX6_takeDamp) := goodIn_app (goodIn_of _ (by decide +kernel)) ggX2_takeOne_X6_takeDamp
set_option maxRecDepth 20000 in
theorem ggX2_takeOne_X6_takeHeir : GoodIn wsX2_takeOne wsX6_takeHeir := goodIn_r _ [19, 20, 21, 27, 28, 29, 30, 31, 32, 33, 34, 35, 36, 37, 38, 39] (by decide +kernel) (by decide +kernel)
set_option maxRecDepth 20000 in
theorem gX2_takeOne_X6_takeHeir : GoodIn wsX2_takeOne (wsV RX2 81 RX6 yX6_takeHeir wsX6_takeHeir) := goodIn_app (goodIn_of _ (by decide +kernel)) ggX2_takeOne_X6_takeHeir
theorem dX2_takeOne_0 : decode cX2_takeOne 0 = .ok (.aload_n 0, 1) := by decide +kernel
theorem dX2_takeOne_1 : decode cX2_takeOne 1 = .ok (.iconst 1, 1) := by decide +kernel
theorem dX2_takeOne_2 : decode cX2_takeOne 2 = .ok (.putfield 21, 3) := by decide +kernel
theorem dX2_takeOne_5 : decode cX2_takeOne 5 = .ok (.iload_n 1, 1) := by decide +kernel
theorem dX2_takeOne_6 : decode cX2_takeOne 6 = .ok (.lookupswitch 44 #[(100, 35), (115, 26)], 26) := by decide +kernel
theorem dX2_takeOne_32 : decode cX2_takeOne 32 = .ok (.aload_n 2, 1) := by decide +kernel
theorem dX2_takeOne_33 : decode cX2_takeOne 33 = .ok (.aload_n 0, 1) := by decide +kernel
theorem dX2_takeOne_34 : decode cX2_takeOne 34 = .ok (.getfield 15, 3) := by decide +kernel
theorem dX2_takeOne_37 : decode cX2_takeOne 37 = .ok (.invokevirtual 75, 3) := by decide +kernel
theorem dX2_takeOne_40 : decode cX2_takeOne 40 = .ok (.ireturn, 1) := by decide +kernel
theorem dX2_takeOne_41 : decode cX2_takeOne 41 = .ok (.aload_n 2, 1) := by decide +kernel
theorem dX2_takeOne_42 : decode cX2_takeOne 42 = .ok (.aload_n 0, 1) := by decide +kernel
theorem dX2_takeOne_43 : decode cX2_takeOne 43 = .ok (.getfield 15, 3) := by decide +kernel
theorem dX2_takeOne_46 : decode cX2_takeOne 46 = .ok (.invokevirtual 78, 3) := by decide +kernel
theorem dX2_takeOne_49 : decode cX2_takeOne 49 = .ok (.ireturn, 1) := by decide +kernel
theorem dX2_takeOne_50 : decode cX2_takeOne 50 = .ok (.aload_n 2, 1) := by decide +kernel
theorem dX2_takeOne_51 : decode cX2_takeOne 51 = .ok (.aload_n 0, 1) := by decide +kernel
theorem dX2_takeOne_52 : decode cX2_takeOne 52 = .ok (.getfield 15, 3) := by decide +kernel
theorem dX2_takeOne_55 : decode cX2_takeOne 55 = .ok (.invokevirtual 81, 3) := by decide +kernel
theorem dX2_takeOne_58 : decode cX2_takeOne 58 = .ok (.ireturn, 1) := by decide +kernel
set_option maxRecDepth 20000 in
theorem ggX2_takeTwo_X6_takeShape : GoodIn wsX2_takeTwo wsX6_takeShape := goodIn_r _ [8, 9, 10, 11, 12, 34, 35, 36, 37, 38, 39, 40, 41, 42, 43, 44, 45, 46] (by decide +kernel) (by decide +kernel)
set_option maxRecDepth 20000 in
theorem gX2_takeTwo_X6_takeShape : GoodIn wsX2_takeTwo (wsV RX2 84 RX6 yX6_takeShape wsX6_takeShape) := goodIn_app (goodIn_of _ (by decide +kernel)) ggX2_takeTwo_X6_takeShape
set_option maxRecDepth 20000 in
theorem ggX2_takeTwo_X6_takeKind : GoodIn wsX2_takeTwo wsX6_takeKind := goodIn_r _ [16, 17, 18, 19, 20, 7, 21, 10, 34, 35, 36, 37, 38, 39, 40, 41, 42, 43, 44, 45, 46] (by decide +kernel) (by decide +kernel)
set_option maxRecDepth 20000 in
theorem gX2_takeTwo_X6_takeKind : GoodIn wsX2_takeTwo (wsV RX2 88 RX6 yX6_takeKind wsX6_takeKind) := goodIn_app (goodIn_of _ (by decide +kernel)) ggX2_takeTwo_X6_takeKind
set_option maxRecDepth 20000 in
theorem ggX2_takeTwo_X6_takeRent : GoodIn wsX2_takeTwo wsX6_takeRent := goodIn_r _ [25, 26, 27, 28, 34, 35, 36, 37, 38, 39, 40, 41, 42, 43, 44, 45, 46] (by decide +kernel) (by decide +kernel)
set_option maxRecDepth 20000 in
theorem gX2_takeTwo_X6_takeRent : GoodIn wsX2_takeTwo (wsV RX2 91 RX6 yX6_takeRent wsX6_takeRent) := goodIn_app (goodIn_of _ (by decide +kernel)) ggX2_takeTwo_X6_takeRent
theorem dX2_takeTwo_0 : decode cX2_takeTwo 0 = .ok (.iload_n 1, 1) := by decide +kernel
theorem dX2_takeTwo_1 : decode cX2_takeTwo 1 = .ok (.bipush 121, 2) := by decide +kernel
theorem dX2_takeTwo_3 : decode cX2_takeTwo 3 = .ok (.if_icmp .ne 31, 3) := by decide +kernel
theorem dX2_takeTwo_6 : decode cX2_takeTwo 6 = .ok (.aload_n 0, 1) := by decide +kernel
theorem dX2_takeTwo_7 : decode cX2_takeTwo 7 = .ok (.getfield 21, 3) := by decide +kernel
theorem dX2_takeTwo_10 : decode cX2_takeTwo 10 = .ok (.ifCond .ne 22, 3) := by decide +kernel
theorem dX2_takeTwo_13 : decode cX2_takeTwo 13 = .ok (.aload_n 2, 1) := by decide +kernel
theorem dX2_takeTwo_14 : decode cX2_takeTwo 14 = .ok (.aload_n 0, 1) := by decide +kernel
theorem dX2_takeTwo_15 : decode cX2_takeTwo 15 = .ok (.getfield 15, 3) := by decide +kernel
theorem dX2_takeTwo_18 : decode cX2_takeTwo 18 = .ok (.aload_n 0, 1) := by decide +kernel
theorem dX2_takeTwo_19 : decode cX2_takeTwo 19 = .ok (.getfield 18, 3) := by decide +kernel
theorem dX2_takeTwo_22 : decode cX2_takeTwo 22 = .ok (.invokevirtual 84, 3) := by decide +kernel
theorem dX2_takeTwo_25 : decode cX2_takeTwo 25 = .ok (.ifCond .eq 7, 3) := by decide +kernel
theorem dX2_takeTwo_28 : decode cX2_takeTwo 28 = .ok (.iconst 1, 1) := by decide +kernel
theorem dX2_takeTwo_29 : decode cX2_takeTwo 29 = .ok (.goto 4, 3) := by decide +kernel
theorem dX2_takeTwo_32 : decode cX2_takeTwo 32 = .ok (.iconst 0, 1) := by decide +kernel
theorem dX2_takeTwo_33 : decode cX2_takeTwo 33 = .ok (.ireturn, 1) := by decide +kernel
theorem dX2_takeTwo_34 : decode cX2_takeTwo 34 = .ok (.aload_n 0, 1) := by decide +kernel
theorem dX2_takeTwo_35 : decode cX2_takeTwo 35 = .ok (.iconst 1, 1) := by decide +kernel
theorem dX2_takeTwo_36 : decode cX2_takeTwo 36 = .ok (.putfield 21, 3) := by decide +kernel
theorem dX2_takeTwo_39 : decode cX2_takeTwo 39 = .ok (.iload_n 1, 1) := by decide +kernel
theorem dX2_takeTwo_40 : decode cX2_takeTwo 40 = .ok (.bipush 107, 2) := by decide +kernel
theorem dX2_takeTwo_42 : decode cX2_takeTwo 42 = .ok (.if_icmp .ne 18, 3) := by decide +kernel
theorem dX2_takeTwo_45 : decode cX2_takeTwo 45 = .ok (.aload_n 2, 1) := by decide +kernel
theorem dX2_takeTwo_46 : decode cX2_takeTwo 46 = .ok (.aload_n 0, 1) := by decide +kernel
theorem dX2_takeTwo_47 : decode cX2_takeTwo 47 = .ok (.getfield 15, 3) := by decide +kernel
theorem dX2_takeTwo_50 : decode cX2_takeTwo 50 = .ok (.aload_n 0, 1) := by decide +kernel
theorem dX2_takeTwo_51 : decode cX2_takeTwo 51 = .ok (.getfield 18, 3) := by decide +kernel
theorem dX2_takeTwo_54 : decode cX2_takeTwo 54 = .ok (.invokevirtual 88, 3) := by decide +kernel
theorem dX2_takeTwo_57 : decode cX2_takeTwo 57 = .ok (.goto 15, 3) := by decide +kernel
theorem dX2_takeTwo_60 : decode cX2_takeTwo 60 = .ok (.aload_n 2, 1) := by decide +kernel
theorem dX2_takeTwo_61 : decode cX2_takeTwo 61 = .ok (.aload_n 0, 1) := by decide +kernel
theorem dX2_takeTwo_62 : decode cX2_takeTwo 62 = .ok (.getfield 15, 3) := by decide +kernel
theorem dX2_takeTwo_65 : decode cX2_takeTwo 65 = .ok (.aload_n 0, 1) := by decide +kernel
theorem dX2_takeTwo_66 : decode cX2_takeTwo 66 = .ok (.getfield 18, 3) := by decide +kernel
theorem dX2_takeTwo_69 : decode cX2_takeTwo 69 = .ok (.invokevirtual 91, 3) := by decide +kernel
theorem dX2_takeTwo_72 : decode cX2_takeTwo 72 = .ok (.ireturn, 1) := by decide +kernel
theorem dX3_init_0 : decode cX3_init 0 = .ok (.aload_n 0, 1) := by decide +kernel
theorem dX3_init_1 : decode cX3_init 1 = .ok (.invokespecial 3, 3) := by decide +kernel
theorem dX3_init_4 : decode cX3_init 4 = .ok (.aload_n 0, 1) := by decide +kernel
theorem dX3_init_5 : decode cX3_init 5 = .ok (.bipush 25, 2) := by decide +kernel
theorem dX3_init_7 : decode cX3_init 7 = .ok (.newarray .int, 2) := by decide +kernel
theorem dX3_init_9 : decode cX3_init 9 = .ok (.putfield 9, 3) := by decide +kernel
theorem dX3_init_12 : decode cX3_init 12 = .ok (.aload_n 0, 1) := by decide +kernel
theorem dX3_init_13 : decode cX3_init 13 = .ok (.iconst 0, 1) := by decide +kernel
theorem dX3_init_14 : decode cX3_init 14 = .ok (.putfield 15, 3) := by decide +kernel
theorem dX3_init_17 : decode cX3_init 17 = .ok (.aload_n 0, 1) := by decide +kernel
theorem dX3_init_18 : decode cX3_init 18 = .ok (.iconst 0, 1) := by decide +kernel
theorem dX3_init_19 : decode cX3_init 19 = .ok (.putfield 19, 3) := by decide +kernel
theorem dX3_init_22 : decode cX3_init 22 = .ok (.aload_n 0, 1) := by decide +kernel
theorem dX3_init_23 : decode cX3_init 23 = .ok (.bipush (-4), 2) := by decide +kernel
theorem dX3_init_25 : decode cX3_init 25 = .ok (.putfield 22, 3) := by decide +kernel
theorem dX3_init_28 : decode cX3_init 28 = .ok (.return_, 1) := by decide +kernel
theorem dX3_setOut_0 : decode cX3_setOut 0 = .ok (.aload_n 1, 1) := by decide +kernel
theorem dX3_setOut_1 : decode cX3_setOut 1 = .ok (.getfield 25, 3) := by decide +kernel
theorem dX3_setOut_4 : decode cX3_setOut 4 = .ok (.iconst 0, 1) := by decide +kernel
theorem dX3_setOut_5 : decode cX3_setOut 5 = .ok (.aload_n 0, 1) := by decide +kernel
theorem dX3_setOut_6 : decode cX3_setOut 6 = .ok (.getfield 9, 3) := by decide +kernel
theorem dX3_setOut_9 : decode cX3_setOut 9 = .ok (.iconst 0, 1) := by decide +kernel
theorem dX3_setOut_10 : decode cX3_setOut 10 = .ok (.bipush 25, 2) := by decide +kernel
theorem dX3_setOut_12 : decode cX3_setOut 12 = .ok (.invokestatic 28, 3) := by decide +kernel
theorem dX3_setOut_15 : decode cX3_setOut 15 = .ok (.aload_n 0, 1) := by decide +kernel
theorem dX3_setOut_16 : decode cX3_setOut 16 = .ok (.aload_n 1, 1) := by decide +kernel
theorem dX3_setOut_17 : decode cX3_setOut 17 = .ok (.getfield 34, 3) := by decide +kernel
theorem dX3_setOut_20 : decode cX3_setOut 20 = .ok (.putfield 15, 3) := by decide +kernel
theorem dX3_setOut_23 : decode cX3_setOut 23 = .ok (.aload_n 0, 1) := by decide +kernel
theorem dX3_setOut_24 : decode cX3_setOut 24 = .ok (.iconst 0, 1) := by decide +kernel
theorem dX3_setOut_25 : decode cX3_setOut 25 = .ok (.putfield 19, 3) := by decide +kernel
theorem dX3_setOut_28 : decode cX3_setOut 28 = .ok (.aload_n 0, 1) := by decide +kernel
theorem dX3_setOut_29 : decode cX3_setOut 29 = .ok (.bipush (-4), 2) := by decide +kernel
theorem dX3_setOut_31 : decode cX3_setOut 31 = .ok (.putfield 22, 3) := by decide +kernel
theorem dX3_setOut_34 : decode cX3_setOut 34 = .ok (.return_, 1) := by decide +kernel
theorem dX3_become_0 : decode cX3_become 0 = .ok (.aload_n 1, 1) := by decide +kernel
theorem dX3_become_1 : decode cX3_become 1 = .ok (.getfield 9, 3) := by decide +kernel
theorem dX3_become_4 : decode cX3_become 4 = .ok (.iconst 0, 1) := by decide +kernel
theorem dX3_become_5 : decode cX3_become 5 = .ok (.aload_n 0, 1) := by decide +kernel
theorem dX3_become_6 : decode cX3_become 6 = .ok (.getfield 9, 3) := by decide +kernel
theorem dX3_become_9 : decode cX3_become 9 = .ok (.iconst 0, 1) := by decide +kernel
theorem dX3_become_10 : decode cX3_become 10 = .ok (.bipush 25, 2) := by decide +kernel
theorem dX3_become_12 : decode cX3_become 12 = .ok (.invokestatic 28, 3) := by decide +kernel
theorem dX3_become_15 : decode cX3_become 15 = .ok (.aload_n 0, 1) := by decide +kernel
theorem dX3_become_16 : decode cX3_become 16 = .ok (.aload_n 1, 1) := by decide +kernel
theorem dX3_become_17 : decode cX3_become 17 = .ok (.getfield 15, 3) := by decide +kernel
theorem dX3_become_20 : decode cX3_become 20 = .ok (.putfield 15, 3) := by decide +kernel
theorem dX3_become_23 : decode cX3_become 23 = .ok (.aload_n 0, 1) := by decide +kernel
theorem dX3_become_24 : decode cX3_become 24 = .ok (.aload_n 1, 1) := by decide +kernel
theorem dX3_become_25 : decode cX3_become 25 = .ok (.getfield 19, 3) := by decide +kernel
theorem dX3_become_28 : decode cX3_become 28 = .ok (.putfield 19, 3) := by decide +kernel
theorem dX3_become_31 : decode cX3_become 31 = .ok (.aload_n 0, 1) := by decide +kernel
theorem dX3_become_32 : decode cX3_become 32 = .ok (.aload_n 1, 1) := by decide +kernel
theorem dX3_become_33 : decode cX3_become 33 = .ok (.getfield 22, 3) := by decide +kernel
theorem dX3_become_36 : decode cX3_become 36 = .ok (.putfield 22, 3) := by decide +kernel
theorem dX3_become_39 : decode cX3_become 39 = .ok (.return_, 1) := by decide +kernel
theorem dX3_hasBegun_0 : decode cX3_hasBegun 0 = .ok (.aload_n 0, 1) := by decide +kernel
theorem dX3_hasBegun_1 : decode cX3_hasBegun 1 = .ok (.getfield 22, 3) := by decide +kernel
theorem dX3_hasBegun_4 : decode cX3_hasBegun 4 = .ok (.bipush (-4), 2) := by decide +kernel
theorem dX3_hasBegun_6 : decode cX3_hasBegun 6 = .ok (.if_icmp .eq 7, 3) := by decide +kernel
theorem dX3_hasBegun_9 : decode cX3_hasBegun 9 = .ok (.iconst 1, 1) := by decide +kernel
theorem dX3_hasBegun_10 : decode cX3_hasBegun 10 = .ok (.goto 4, 3) := by decide +kernel
theorem dX3_hasBegun_13 : decode cX3_hasBegun 13 = .ok (.iconst 0, 1) := by decide +kernel
theorem dX3_hasBegun_14 : decode cX3_hasBegun 14 = .ok (.ireturn, 1) := by decide +kernel
theorem dX3_kindAt_0 : decode cX3_kindAt 0 = .ok (.iload_n 1, 1) := by decide +kernel
theorem dX3_kindAt_1 : decode cX3_kindAt 1 = .ok (.ifCond .lt 21, 3) := by decide +kernel
theorem dX3_kindAt_4 : decode cX3_kindAt 4 = .ok (.iload_n 1, 1) := by decide +kernel
theorem dX3_kindAt_5 : decode cX3_kindAt 5 = .ok (.aload_n 0, 1) := by decide +kernel
theorem dX3_kindAt_6 : decode cX3_kindAt 6 = .ok (.getfield 9, 3) := by decide +kernel
theorem dX3_kindAt_9 : decode cX3_kindAt 9 = .ok (.arraylength, 1) := by decide +kernel
theorem dX3_kindAt_10 : decode cX3_kindAt 10 = .ok (.if_icmp .ge 12, 3) := by decide +kernel
theorem dX3_kindAt_13 : decode cX3_kindAt 13 = .ok (.aload_n 0, 1) := by decide +kernel
theorem dX3_kindAt_14 : decode cX3_kindAt 14 = .ok (.getfield 9, 3) := by decide +kernel
theorem dX3_kindAt_17 : decode cX3_kindAt 17 = .ok (.iload_n 1, 1) := by decide +kernel
theorem dX3_kindAt_18 : decode cX3_kindAt 18 = .ok (.iaload, 1) := by decide +kernel
theorem dX3_kindAt_19 : decode cX3_kindAt 19 = .ok (.goto 4, 3) := by decide +kernel
theorem dX3_kindAt_22 : decode cX3_kindAt 22 = .ok (.iconst 2, 1) := by decide +kernel
theorem dX3_kindAt_23 : decode cX3_kindAt 23 = .ok (.ireturn, 1) := by decide +kernel
theorem dX3_setKind_0 : decode cX3_setKind 0 = .ok (.iload_n 1, 1) := by decide +kernel
theorem dX3_setKind_1 : decode cX3_setKind 1 = .ok (.ifCond .lt 19, 3) := by decide +kernel
theorem dX3_setKind_4 : decode cX3_setKind 4 = .ok (.iload_n 1, 1) := by decide +kernel
theorem dX3_setKind_5 : decode cX3_setKind 5 = .ok (.aload_n 0, 1) := by decide +kernel
theorem dX3_setKind_6 : decode cX3_setKind 6 = .ok (.getfield 9, 3) := by decide +kernel
theorem dX3_setKind_9 : decode cX3_setKind 9 = .ok (.arraylength, 1) := by decide +kernel
theorem dX3_setKind_10 : decode cX3_setKind 10 = .ok (.if_icmp .ge 10, 3) := by decide +kernel
theorem dX3_setKind_13 : decode cX3_setKind 13 = .ok (.aload_n 0, 1) := by decide +kernel
theorem dX3_setKind_14 : decode cX3_setKind 14 = .ok (.getfield 9, 3) := by decide +kernel
theorem dX3_setKind_17 : decode cX3_setKind 17 = .ok (.iload_n 1, 1) := by decide +kernel
theorem dX3_setKind_18 : decode cX3_setKind 18 = .ok (.iload_n 2, 1) := by decide +kernel
theorem dX3_setKind_19 : decode cX3_setKind 19 = .ok (.iastore, 1) := by decide +kernel
theorem dX3_setKind_20 : decode cX3_setKind 20 = .ok (.return_, 1) := by decide +kernel
set_option maxRecDepth 20000 in
theorem ggX3_countOf_X3_kindAt : GoodIn wsX3_countOf wsX3_kindAt := goodIn_r _ [5, 6, 7, 8, 9, 10] (by decide +kernel) (by decide +kernel)
set_option maxRecDepth 20000 in
theorem gX3_countOf_X3_kindAt : GoodIn wsX3_countOf (wsV RX3 37 RX3 yX3_kindAt wsX3_kindAt) := goodIn_app (goodIn_of _ (by decide +kernel)) ggX3_countOf_X3_kindAt
theorem dX3_countOf_0 : decode cX3_countOf 0 = .ok (.iconst 0, 1) := by decide +kernel
theorem dX3_countOf_1 : decode cX3_countOf 1 = .ok (.istore_n 3, 1) := by decide +kernel
theorem dX3_countOf_2 : decode cX3_countOf 2 = .ok (.iconst 0, 1) := by decide +kernel
theorem dX3_countOf_3 : decode cX3_countOf 3 = .ok (.istore 4, 2) := by decide +kernel
theorem dX3_countOf_5 : decode cX3_countOf 5 = .ok (.iload 4, 2) := by decide +kernel
theorem dX3_countOf_7 : decode cX3_countOf 7 = .ok (.iload_n 2, 1) := by decide +kernel
theorem dX3_countOf_8 : decode cX3_countOf 8 = .ok (.if_icmp .ge 22, 3) := by decide +kernel
theorem dX3_countOf_11 : decode cX3_countOf 11 = .ok (.aload_n 0, 1) := by decide +kernel
theorem dX3_countOf_12 : decode cX3_countOf 12 = .ok (.iload 4, 2) := by decide +kernel
theorem dX3_countOf_14 : decode cX3_countOf 14 = .ok (.invokevirtual 37, 3) := by decide +kernel
theorem dX3_countOf_17 : decode cX3_countOf 17 = .ok (.iload_n 1, 1) := by decide +kernel
theorem dX3_countOf_18 : decode cX3_countOf 18 = .ok (.if_icmp .ne 6, 3) := by decide +kernel
theorem dX3_countOf_21 : decode cX3_countOf 21 = .ok (.iinc 3 1, 3) := by decide +kernel
theorem dX3_countOf_24 : decode cX3_countOf 24 = .ok (.iinc 4 1, 3) := by decide +kernel
theorem dX3_countOf_27 : decode cX3_countOf 27 = .ok (.goto (-22), 3) := by decide +kernel
theorem dX3_countOf_30 : decode cX3_countOf 30 = .ok (.iload_n 3, 1) := by decide +kernel
theorem dX3_countOf_31 : decode cX3_countOf 31 = .ok (.ireturn, 1) := by decide +kernel
theorem dX3_putInto_0 : decode cX3_putInto 0 = .ok (.iload_n 2, 1) := by decide +kernel
theorem dX3_putInto_1 : decode cX3_putInto 1 = .ok (.ifCond .lt 58, 3) := by decide +kernel
theorem dX3_putInto_4 : decode cX3_putInto 4 = .ok (.iload_n 2, 1) := by decide +kernel
theorem dX3_putInto_5 : decode cX3_putInto 5 = .ok (.aload_n 1, 1) := by decide +kernel
theorem dX3_putInto_6 : decode cX3_putInto 6 = .ok (.arraylength, 1) := by decide +kernel
theorem dX3_putInto_7 : decode cX3_putInto 7 = .ok (.bipush 28, 2) := by decide +kernel
theorem dX3_putInto_9 : decode cX3_putInto 9 = .ok (.isub, 1) := by decide +kernel
theorem dX3_putInto_10 : decode cX3_putInto 10 = .ok (.if_icmp .gt 49, 3) := by decide +kernel
theorem dX3_putInto_13 : decode cX3_putInto 13 = .ok (.aload_n 0, 1) := by decide +kernel
theorem dX3_putInto_14 : decode cX3_putInto 14 = .ok (.getfield 9, 3) := by decide +kernel
theorem dX3_putInto_17 : decode cX3_putInto 17 = .ok (.iconst 0, 1) := by decide +kernel
theorem dX3_putInto_18 : decode cX3_putInto 18 = .ok (.aload_n 1, 1) := by decide +kernel
theorem dX3_putInto_19 : decode cX3_putInto 19 = .ok (.iload_n 2, 1) := by decide +kernel
theorem dX3_putInto_20 : decode cX3_putInto 20 = .ok (.bipush 25, 2) := by decide +kernel
theorem dX3_putInto_22 : decode cX3_putInto 22 = .ok (.invokestatic 28, 3) := by decide +kernel
theorem dX3_putInto_25 : decode cX3_putInto 25 = .ok (.aload_n 1, 1) := by decide +kernel
theorem dX3_putInto_26 : decode cX3_putInto 26 = .ok (.iload_n 2, 1) := by decide +kernel
theorem dX3_putInto_27 : decode cX3_putInto 27 = .ok (.bipush 25, 2) := by decide +kernel
theorem dX3_putInto_29 : decode cX3_putInto 29 = .ok (.iadd, 1) := by decide +kernel
theorem dX3_putInto_30 : decode cX3_putInto 30 = .ok (.aload_n 0, 1) := by decide +kernel
theorem dX3_putInto_31 : decode cX3_putInto 31 = .ok (.getfield 15, 3) := by decide +kernel
theorem dX3_putInto_34 : decode cX3_putInto 34 = .ok (.iastore, 1) := by decide +kernel
theorem dX3_putInto_35 : decode cX3_putInto 35 = .ok (.aload_n 1, 1) := by decide +kernel
theorem dX3_putInto_36 : decode cX3_putInto 36 = .ok (.iload_n 2, 1) := by decide +kernel
theorem dX3_putInto_37 : decode cX3_putInto 37 = .ok (.bipush 25, 2) := by decide +kernel
theorem dX3_putInto_39 : decode cX3_putInto 39 = .ok (.iadd, 1) := by decide +kernel
theorem dX3_putInto_40 : decode cX3_putInto 40 = .ok (.iconst 1, 1) := by decide +kernel
theorem dX3_putInto_41 : decode cX3_putInto 41 = .ok (.iadd, 1) := by decide +kernel
theorem dX3_putInto_42 : decode cX3_putInto 42 = .ok (.aload_n 0, 1) := by decide +kernel
theorem dX3_putInto_43 : decode cX3_putInto 43 = .ok (.getfield 19, 3) := by decide +kernel
theorem dX3_putInto_46 : decode cX3_putInto 46 = .ok (.iastore, 1) := by decide +kernel
theorem dX3_putInto_47 : decode cX3_putInto 47 = .ok (.aload_n 1, 1) := by decide +kernel
theorem dX3_putInto_48 : decode cX3_putInto 48 = .ok (.iload_n 2, 1) := by decide +kernel
theorem dX3_putInto_49 : decode cX3_putInto 49 = .ok (.bipush 25, 2) := by decide +kernel
theorem dX3_putInto_51 : decode cX3_putInto 51 = .ok (.iadd, 1) := by decide +kernel
theorem dX3_putInto_52 : decode cX3_putInto 52 = .ok (.iconst 2, 1) := by decide +kernel
theorem dX3_putInto_53 : decode cX3_putInto 53 = .ok (.iadd, 1) := by decide +kernel
theorem dX3_putInto_54 : decode cX3_putInto 54 = .ok (.aload_n 0, 1) := by decide +kernel
theorem dX3_putInto_55 : decode cX3_putInto 55 = .ok (.getfield 22, 3) := by decide +kernel
theorem dX3_putInto_58 : decode cX3_putInto 58 = .ok (.iastore, 1) := by decide +kernel
theorem dX3_putInto_59 : decode cX3_putInto 59 = .ok (.return_, 1) := by decide +kernel
theorem dX3_takeFrom_0 : decode cX3_takeFrom 0 = .ok (.iload_n 2, 1) := by decide +kernel
theorem dX3_takeFrom_1 : decode cX3_takeFrom 1 = .ok (.ifCond .lt 58, 3) := by decide +kernel
theorem dX3_takeFrom_4 : decode cX3_takeFrom 4 = .ok (.iload_n 2, 1) := by decide +kernel
theorem dX3_takeFrom_5 : decode cX3_takeFrom 5 = .ok (.aload_n 1, 1) := by decide +kernel
theorem dX3_takeFrom_6 : decode cX3_takeFrom 6 = .ok (.arraylength, 1) := by decide +kernel
theorem dX3_takeFrom_7 : decode cX3_takeFrom 7 = .ok (.bipush 28, 2) := by decide +kernel
theorem dX3_takeFrom_9 : decode cX3_takeFrom 9 = .ok (.isub, 1) := by decide +kernel
theorem dX3_takeFrom_10 : decode cX3_takeFrom 10 = .ok (.if_icmp .gt 49, 3) := by decide +kernel
theorem dX3_takeFrom_13 : decode cX3_takeFrom 13 = .ok (.aload_n 1, 1) := by decide +kernel
theorem dX3_takeFrom_14 : decode cX3_takeFrom 14 = .ok (.iload_n 2, 1) := by decide +kernel
theorem dX3_takeFrom_15 : decode cX3_takeFrom 15 = .ok (.aload_n 0, 1) := by decide +kernel
theorem dX3_takeFrom_16 : decode cX3_takeFrom 16 = .ok (.getfield 9, 3) := by decide +kernel
theorem dX3_takeFrom_19 : decode cX3_takeFrom 19 = .ok (.iconst 0, 1) := by decide +kernel
theorem dX3_takeFrom_20 : decode cX3_takeFrom 20 = .ok (.bipush 25, 2) := by decide +kernel
theorem dX3_takeFrom_22 : decode cX3_takeFrom 22 = .ok (.invokestatic 28, 3) := by decide +kernel
theorem dX3_takeFrom_25 : decode cX3_takeFrom 25 = .ok (.aload_n 0, 1) := by decide +kernel
theorem dX3_takeFrom_26 : decode cX3_takeFrom 26 = .ok (.aload_n 1, 1) := by decide +kernel
theorem dX3_takeFrom_27 : decode cX3_takeFrom 27 = .ok (.iload_n 2, 1) := by decide +kernel
theorem dX3_takeFrom_28 : decode cX3_takeFrom 28 = .ok (.bipush 25, 2) := by decide +kernel
theorem dX3_takeFrom_30 : decode cX3_takeFrom 30 = .ok (.iadd, 1) := by decide +kernel
theorem dX3_takeFrom_31 : decode cX3_takeFrom 31 = .ok (.iaload, 1) := by decide +kernel
theorem dX3_takeFrom_32 : decode cX3_takeFrom 32 = .ok (.putfield 15, 3) := by decide +kernel
theorem dX3_takeFrom_35 : decode cX3_takeFrom 35 = .ok (.aload_n 0, 1) := by decide +kernel
theorem dX3_takeFrom_36 : decode cX3_takeFrom 36 = .ok (.aload_n 1, 1) := by decide +kernel
theorem dX3_takeFrom_37 : decode cX3_takeFrom 37 = .ok (.iload_n 2, 1) := by decide +kernel
theorem dX3_takeFrom_38 : decode cX3_takeFrom 38 = .ok (.bipush 25, 2) := by decide +kernel
theorem dX3_takeFrom_40 : decode cX3_takeFrom 40 = .ok (.iadd, 1) := by decide +kernel
theorem dX3_takeFrom_41 : decode cX3_takeFrom 41 = .ok (.iconst 1, 1) := by decide +kernel
theorem dX3_takeFrom_42 : decode cX3_takeFrom 42 = .ok (.iadd, 1) := by decide +kernel
theorem dX3_takeFrom_43 : decode cX3_takeFrom 43 = .ok (.iaload, 1) := by decide +kernel
theorem dX3_takeFrom_44 : decode cX3_takeFrom 44 = .ok (.putfield 19, 3) := by decide +kernel
theorem dX3_takeFrom_47 : decode cX3_takeFrom 47 = .ok (.aload_n 0, 1) := by decide +kernel
theorem dX3_takeFrom_48 : decode cX3_takeFrom 48 = .ok (.aload_n 1, 1) := by decide +kernel
theorem dX3_takeFrom_49 : decode cX3_takeFrom 49 = .ok (.iload_n 2, 1) := by decide +kernel
theorem dX3_takeFrom_50 : decode cX3_takeFrom 50 = .ok (.bipush 25, 2) := by decide +kernel
theorem dX3_takeFrom_52 : decode cX3_takeFrom 52 = .ok (.iadd, 1) := by decide +kernel
theorem dX3_takeFrom_53 : decode cX3_takeFrom 53 = .ok (.iconst 2, 1) := by decide +kernel
theorem dX3_takeFrom_54 : decode cX3_takeFrom 54 = .ok (.iadd, 1) := by decide +kernel
theorem dX3_takeFrom_55 : decode cX3_takeFrom 55 = .ok (.iaload, 1) := by decide +kernel
theorem dX3_takeFrom_56 : decode cX3_takeFrom 56 = .ok (.putfield 22, 3) := by decide +kernel
theorem dX3_takeFrom_59 : decode cX3_takeFrom 59 = .ok (.return_, 1) := by decide +kernel
theorem dX4_init_0 : decode cX4_init 0 = .ok (.aload_n 0, 1) := by decide +kernel
theorem dX4_init_1 : decode cX4_init 1 = .ok (.invokespecial 3, 3) := by decide +kernel
theorem dX4_init_4 : decode cX4_init 4 = .ok (.aload_n 0, 1) := by decide +kernel
theorem dX4_init_5 : decode cX4_init 5 = .ok (.bipush 8, 2) := by decide +kernel
theorem dX4_init_7 : decode cX4_init 7 = .ok (.newarray .int, 2) := by decide +kernel
theorem dX4_init_9 : decode cX4_init 9 = .ok (.putfield 9, 3) := by decide +kernel
theorem dX4_init_12 : decode cX4_init 12 = .ok (.aload_n 0, 1) := by decide +kernel
theorem dX4_init_13 : decode cX4_init 13 = .ok (.bipush 8, 2) := by decide +kernel
theorem dX4_init_15 : decode cX4_init 15 = .ok (.newarray .int, 2) := by decide +kernel
theorem dX4_init_17 : decode cX4_init 17 = .ok (.putfield 15, 3) := by decide +kernel
theorem dX4_init_20 : decode cX4_init 20 = .ok (.aload_n 0, 1) := by decide +kernel
theorem dX4_init_21 : decode cX4_init 21 = .ok (.iconst 0, 1) := by decide +kernel
theorem dX4_init_22 : decode cX4_init 22 = .ok (.putfield 18, 3) := by decide +kernel
theorem dX4_init_25 : decode cX4_init 25 = .ok (.return_, 1) := by decide +kernel
theorem dX4_add_0 : decode cX4_add 0 = .ok (.aload_n 0, 1) := by decide +kernel
theorem dX4_add_1 : decode cX4_add 1 = .ok (.getfield 18, 3) := by decide +kernel
theorem dX4_add_4 : decode cX4_add 4 = .ok (.ifCond .lt 12, 3) := by decide +kernel
theorem dX4_add_7 : decode cX4_add 7 = .ok (.aload_n 0, 1) := by decide +kernel
theorem dX4_add_8 : decode cX4_add 8 = .ok (.getfield 18, 3) := by decide +kernel
theorem dX4_add_11 : decode cX4_add 11 = .ok (.bipush 8, 2) := by decide +kernel
theorem dX4_add_13 : decode cX4_add 13 = .ok (.if_icmp .lt 5, 3) := by decide +kernel
theorem dX4_add_16 : decode cX4_add 16 = .ok (.iconst 0, 1) := by decide +kernel
theorem dX4_add_17 : decode cX4_add 17 = .ok (.ireturn, 1) := by decide +kernel
theorem dX4_add_18 : decode cX4_add 18 = .ok (.aload_n 0, 1) := by decide +kernel
theorem dX4_add_19 : decode cX4_add 19 = .ok (.getfield 9, 3) := by decide +kernel
theorem dX4_add_22 : decode cX4_add 22 = .ok (.aload_n 0, 1) := by decide +kernel
theorem dX4_add_23 : decode cX4_add 23 = .ok (.getfield 18, 3) := by decide +kernel
theorem dX4_add_26 : decode cX4_add 26 = .ok (.iload_n 1, 1) := by decide +kernel
theorem dX4_add_27 : decode cX4_add 27 = .ok (.iastore, 1) := by decide +kernel
theorem dX4_add_28 : decode cX4_add 28 = .ok (.aload_n 0, 1) := by decide +kernel
theorem dX4_add_29 : decode cX4_add 29 = .ok (.getfield 15, 3) := by decide +kernel
theorem dX4_add_32 : decode cX4_add 32 = .ok (.aload_n 0, 1) := by decide +kernel
theorem dX4_add_33 : decode cX4_add 33 = .ok (.getfield 18, 3) := by decide +kernel
theorem dX4_add_36 : decode cX4_add 36 = .ok (.iload_n 2, 1) := by decide +kernel
theorem dX4_add_37 : decode cX4_add 37 = .ok (.iastore, 1) := by decide +kernel
theorem dX4_add_38 : decode cX4_add 38 = .ok (.aload_n 0, 1) := by decide +kernel
theorem dX4_add_39 : decode cX4_add 39 = .ok (.dup, 1) := by decide +kernel
theorem dX4_add_40 : decode cX4_add 40 = .ok (.getfield 18, 3) := by decide +kernel
theorem dX4_add_43 : decode cX4_add 43 = .ok (.iconst 1, 1) := by decide +kernel
theorem dX4_add_44 : decode cX4_add 44 = .ok (.iadd, 1) := by decide +kernel
theorem dX4_add_45 : decode cX4_add 45 = .ok (.putfield 18, 3) := by decide +kernel
theorem dX4_add_48 : decode cX4_add 48 = .ok (.iconst 1, 1) := by decide +kernel
theorem dX4_add_49 : decode cX4_add 49 = .ok (.ireturn, 1) := by decide +kernel
theorem dX4_agree_0 : decode cX4_agree 0 = .ok (.iconst 0, 1) := by decide +kernel
theorem dX4_agree_1 : decode cX4_agree 1 = .ok (.istore_n 3, 1) := by decide +kernel
theorem dX4_agree_2 : decode cX4_agree 2 = .ok (.iload_n 3, 1) := by decide +kernel
theorem dX4_agree_3 : decode cX4_agree 3 = .ok (.aload_n 0, 1) := by decide +kernel
theorem dX4_agree_4 : decode cX4_agree 4 = .ok (.getfield 18, 3) := by decide +kernel
theorem dX4_agree_7 : decode cX4_agree 7 = .ok (.if_icmp .ge 31, 3) := by decide +kernel
theorem dX4_agree_10 : decode cX4_agree 10 = .ok (.aload_n 0, 1) := by decide +kernel
theorem dX4_agree_11 : decode cX4_agree 11 = .ok (.getfield 15, 3) := by decide +kernel
theorem dX4_agree_14 : decode cX4_agree 14 = .ok (.iload_n 3, 1) := by decide +kernel
theorem dX4_agree_15 : decode cX4_agree 15 = .ok (.iaload, 1) := by decide +kernel
theorem dX4_agree_16 : decode cX4_agree 16 = .ok (.iload_n 2, 1) := by decide +kernel
theorem dX4_agree_17 : decode cX4_agree 17 = .ok (.if_icmp .ne 15, 3) := by decide +kernel
theorem dX4_agree_20 : decode cX4_agree 20 = .ok (.aload_n 0, 1) := by decide +kernel
theorem dX4_agree_21 : decode cX4_agree 21 = .ok (.getfield 9, 3) := by decide +kernel
theorem dX4_agree_24 : decode cX4_agree 24 = .ok (.iload_n 3, 1) := by decide +kernel
theorem dX4_agree_25 : decode cX4_agree 25 = .ok (.iaload, 1) := by decide +kernel
theorem dX4_agree_26 : decode cX4_agree 26 = .ok (.iload_n 1, 1) := by decide +kernel
theorem dX4_agree_27 : decode cX4_agree 27 = .ok (.if_icmp .eq 5, 3) := by decide +kernel
theorem dX4_agree_30 : decode cX4_agree 30 = .ok (.iconst 0, 1) := by decide +kernel
theorem dX4_agree_31 : decode cX4_agree 31 = .ok (.ireturn, 1) := by decide +kernel
theorem dX4_agree_32 : decode cX4_agree 32 = .ok (.iinc 3 1, 3) := by decide +kernel
theorem dX4_agree_35 : decode cX4_agree 35 = .ok (.goto (-33), 3) := by decide +kernel
theorem dX4_agree_38 : decode cX4_agree 38 = .ok (.iconst 1, 1) := by decide +kernel
theorem dX4_agree_39 : decode cX4_agree 39 = .ok (.ireturn, 1) := by decide +kernel
theorem dX5_init_0 : decode cX5_init 0 = .ok (.aload_n 0, 1) := by decide +kernel
theorem dX5_init_1 : decode cX5_init 1 = .ok (.invokespecial 3, 3) := by decide +kernel
theorem dX5_init_4 : decode cX5_init 4 = .ok (.aload_n 0, 1) := by decide +kernel
theorem dX5_init_5 : decode cX5_init 5 = .ok (.bipush 25, 2) := by decide +kernel
theorem dX5_init_7 : decode cX5_init 7 = .ok (.newarray .int, 2) := by decide +kernel
theorem dX5_init_9 : decode cX5_init 9 = .ok (.putfield 9, 3) := by decide +kernel
theorem dX5_init_12 : decode cX5_init 12 = .ok (.aload_n 0, 1) := by decide +kernel
theorem dX5_init_13 : decode cX5_init 13 = .ok (.bipush 25, 2) := by decide +kernel
theorem dX5_init_15 : decode cX5_init 15 = .ok (.newarray .int, 2) := by decide +kernel
theorem dX5_init_17 : decode cX5_init 17 = .ok (.putfield 15, 3) := by decide +kernel
theorem dX5_init_20 : decode cX5_init 20 = .ok (.return_, 1) := by decide +kernel
set_option maxRecDepth 20000 in
theorem ggX5_goNight_X3_hasBegun : GoodIn wsX5_goNight wsX3_hasBegun := goodIn_r _ [5, 6, 56, 57, 58, 59] (by decide +kernel) (by decide +kernel)
set_option maxRecDepth 20000 in
theorem gX5_goNight_X3_hasBegun : GoodIn wsX5_goNight (wsV RX5 18 RX3 yX3_hasBegun wsX3_hasBegun) := goodIn_app (goodIn_of _ (by decide +kernel)) ggX5_goNight_X3_hasBegun
set_option maxRecDepth 20000 in
theorem ggX5_goNight_X5_nextCell : GoodIn wsX5_goNight wsX5_nextCell := goodIn_r _ [11, 12, 13, 14, 15, 10, 16, 17, 18, 19, 20, 21, 22, 23, 24, 25, 26, 27, 28, 29, 4, 30, 31, 32, 33, 34, 35, 36, 37, 38, 39, 40, 41, 42, 43, 44, 45, 46, 47, 48, 56, 57, 58, 59, 60, 61, 62, 63, 64, 65, 66, 67, 68, 69, 70, 71, 72, 73, 74] (by decide +kernel) (by decide +kernel)
set_option maxRecDepth 20000 in
theorem gX5_goNight_X5_nextCell : GoodIn wsX5_goNight (wsV RX5 24 RX5 yX5_nextCell wsX5_nextCell) := goodIn_app (goodIn_of _ (by decide +kernel)) ggX5_goNight_X5_nextCell
set_option maxRecDepth 20000 in
theorem ggX5_goNight_X3_kindAt : GoodIn wsX5_goNight wsX3_kindAt := goodIn_r _ [30, 31, 56, 57, 58, 59] (by decide +kernel) (by decide +kernel)
set_option maxRecDepth 20000 in
theorem gX5_goNight_X3_kindAt : GoodIn wsX5_goNight (wsV RX5 28 RX3 yX3_kindAt wsX3_kindAt) := goodIn_app (goodIn_of _ (by decide +kernel)) ggX5_goNight_X3_kindAt
set_option maxRecDepth 20000 in
theorem ggX5_goNight_X7_stepsInto : GoodIn wsX5_goNight wsX7_stepsInto := goodIn_r _ [34] (by decide +kernel) (by decide +kernel)
set_option maxRecDepth 20000 in
theorem gX5_goNight_X7_stepsInto_n32 : GoodIn wsX5_goNight (wsX7_stepsInto) := ggX5_goNight_X7_stepsInto
set_option maxRecDepth 20000 in
theorem ggX5_goNight_X5_comeInto : GoodIn wsX5_goNight wsX5_comeInto := goodIn_r _ [51, 27, 28, 29, 4, 30, 31, 52, 53, 54, 55, 43, 44, 45, 24, 46, 47, 48, 1, 2, 3, 5, 6, 56, 57, 58, 59, 62, 63, 64, 65, 66, 67, 68, 69, 70, 71, 72, 73, 74] (by decide +kernel) (by decide +kernel)
set_option maxRecDepth 20000 in
theorem gX5_goNight_X5_comeInto : GoodIn wsX5_goNight (va_wsS RX5 36 yX5_comeInto wsX5_comeInto) := goodIn_app (goodIn_of _ (by decide +kernel)) ggX5_goNight_X5_comeInto
theorem dX5_goNight_0 : decode cX5_goNight 0 = .ok (.iconst 0, 1) := by decide +kernel
theorem dX5_goNight_1 : decode cX5_goNight 1 = .ok (.istore 4, 2) := by decide +kernel
theorem dX5_goNight_3 : decode cX5_goNight 3 = .ok (.aload_n 2, 1) := by decide +kernel
theorem dX5_goNight_4 : decode cX5_goNight 4 = .ok (.invokevirtual 18, 3) := by decide +kernel
theorem dX5_goNight_7 : decode cX5_goNight 7 = .ok (.ifCond .ne 7, 3) := by decide +kernel
theorem dX5_goNight_10 : decode cX5_goNight 10 = .ok (.iconst 1, 1) := by decide +kernel
theorem dX5_goNight_11 : decode cX5_goNight 11 = .ok (.goto 4, 3) := by decide +kernel
theorem dX5_goNight_14 : decode cX5_goNight 14 = .ok (.iconst 0, 1) := by decide +kernel
theorem dX5_goNight_15 : decode cX5_goNight 15 = .ok (.istore 5, 2) := by decide +kernel
theorem dX5_goNight_17 : decode cX5_goNight 17 = .ok (.iload_n 3, 1) := by decide +kernel
theorem dX5_goNight_18 : decode cX5_goNight 18 = .ok (.istore 6, 2) := by decide +kernel
theorem dX5_goNight_20 : decode cX5_goNight 20 = .ok (.iconst 0, 1) := by decide +kernel
theorem dX5_goNight_21 : decode cX5_goNight 21 = .ok (.istore 7, 2) := by decide +kernel
theorem dX5_goNight_23 : decode cX5_goNight 23 = .ok (.iload 5, 2) := by decide +kernel
theorem dX5_goNight_25 : decode cX5_goNight 25 = .ok (.ifCond .eq 104, 3) := by decide +kernel
theorem dX5_goNight_28 : decode cX5_goNight 28 = .ok (.iload 7, 2) := by decide +kernel
theorem dX5_goNight_30 : decode cX5_goNight 30 = .ok (.bipush 9, 2) := by decide +kernel
theorem dX5_goNight_32 : decode cX5_goNight 32 = .ok (.if_icmp .gt 97, 3) := by decide +kernel
theorem dX5_goNight_35 : decode cX5_goNight 35 = .ok (.aload_n 0, 1) := by decide +kernel
theorem dX5_goNight_36 : decode cX5_goNight 36 = .ok (.aload_n 1, 1) := by decide +kernel
theorem dX5_goNight_37 : decode cX5_goNight 37 = .ok (.aload_n 2, 1) := by decide +kernel
theorem dX5_goNight_38 : decode cX5_goNight 38 = .ok (.invokevirtual 24, 3) := by decide +kernel
theorem dX5_goNight_41 : decode cX5_goNight 41 = .ok (.istore 8, 2) := by decide +kernel
theorem dX5_goNight_43 : decode cX5_goNight 43 = .ok (.aload_n 2, 1) := by decide +kernel
theorem dX5_goNight_44 : decode cX5_goNight 44 = .ok (.iload 8, 2) := by decide +kernel
theorem dX5_goNight_46 : decode cX5_goNight 46 = .ok (.invokevirtual 28, 3) := by decide +kernel
theorem dX5_goNight_49 : decode cX5_goNight 49 = .ok (.iload_n 3, 1) := by decide +kernel
theorem dX5_goNight_50 : decode cX5_goNight 50 = .ok (.invokestatic 32, 3) := by decide +kernel
theorem dX5_goNight_53 : decode cX5_goNight 53 = .ok (.istore 9, 2) := by decide +kernel
theorem dX5_goNight_55 : decode cX5_goNight 55 = .ok (.iload 8, 2) := by decide +kernel
theorem dX5_goNight_57 : decode cX5_goNight 57 = .ok (.bipush (-4), 2) := by decide +kernel
theorem dX5_goNight_59 : decode cX5_goNight 59 = .ok (.if_icmp .eq 10, 3) := by decide +kernel
theorem dX5_goNight_62 : decode cX5_goNight 62 = .ok (.iload 9, 2) := by decide +kernel
theorem dX5_goNight_64 : decode cX5_goNight 64 = .ok (.iload 6, 2) := by decide +kernel
theorem dX5_goNight_66 : decode cX5_goNight 66 = .ok (.if_icmp .le 28, 3) := by decide +kernel
theorem dX5_goNight_69 : decode cX5_goNight 69 = .ok (.iload 8, 2) := by decide +kernel
theorem dX5_goNight_71 : decode cX5_goNight 71 = .ok (.bipush (-4), 2) := by decide +kernel
theorem dX5_goNight_73 : decode cX5_goNight 73 = .ok (.if_icmp .eq 12, 3) := by decide +kernel
theorem dX5_goNight_76 : decode cX5_goNight 76 = .ok (.iload 7, 2) := by decide +kernel
theorem dX5_goNight_78 : decode cX5_goNight 78 = .ok (.ifCond .ne 7, 3) := by decide +kernel
theorem dX5_goNight_81 : decode cX5_goNight 81 = .ok (.iconst 1, 1) := by decide +kernel
theorem dX5_goNight_82 : decode cX5_goNight 82 = .ok (.goto 4, 3) := by decide +kernel
theorem dX5_goNight_85 : decode cX5_goNight 85 = .ok (.iconst 0, 1) := by decide +kernel
theorem dX5_goNight_86 : decode cX5_goNight 86 = .ok (.istore 4, 2) := by decide +kernel
theorem dX5_goNight_88 : decode cX5_goNight 88 = .ok (.iconst 0, 1) := by decide +kernel
theorem dX5_goNight_89 : decode cX5_goNight 89 = .ok (.istore 5, 2) := by decide +kernel
theorem dX5_goNight_91 : decode cX5_goNight 91 = .ok (.goto 32, 3) := by decide +kernel
theorem dX5_goNight_94 : decode cX5_goNight 94 = .ok (.iload 6, 2) := by decide +kernel
theorem dX5_goNight_96 : decode cX5_goNight 96 = .ok (.iload 9, 2) := by decide +kernel
theorem dX5_goNight_98 : decode cX5_goNight 98 = .ok (.isub, 1) := by decide +kernel
theorem dX5_goNight_99 : decode cX5_goNight 99 = .ok (.istore 6, 2) := by decide +kernel
theorem dX5_goNight_101 : decode cX5_goNight 101 = .ok (.iload 8, 2) := by decide +kernel
theorem dX5_goNight_103 : decode cX5_goNight 103 = .ok (.aload_n 1, 1) := by decide +kernel
theorem dX5_goNight_104 : decode cX5_goNight 104 = .ok (.aload_n 2, 1) := by decide +kernel
theorem dX5_goNight_105 : decode cX5_goNight 105 = .ok (.invokestatic 36, 3) := by decide +kernel
theorem dX5_goNight_108 : decode cX5_goNight 108 = .ok (.ifCond .eq 12, 3) := by decide +kernel
theorem dX5_goNight_111 : decode cX5_goNight 111 = .ok (.iload 6, 2) := by decide +kernel
theorem dX5_goNight_113 : decode cX5_goNight 113 = .ok (.ifCond .le 7, 3) := by decide +kernel
theorem dX5_goNight_116 : decode cX5_goNight 116 = .ok (.iconst 1, 1) := by decide +kernel
theorem dX5_goNight_117 : decode cX5_goNight 117 = .ok (.goto 4, 3) := by decide +kernel
theorem dX5_goNight_120 : decode cX5_goNight 120 = .ok (.iconst 0, 1) := by decide +kernel
theorem dX5_goNight_121 : decode cX5_goNight 121 = .ok (.istore 5, 2) := by decide +kernel
theorem dX5_goNight_123 : decode cX5_goNight 123 = .ok (.iinc 7 1, 3) := by decide +kernel
theorem dX5_goNight_126 : decode cX5_goNight 126 = .ok (.goto (-103), 3) := by decide +kernel
theorem dX5_goNight_129 : decode cX5_goNight 129 = .ok (.aload_n 2, 1) := by decide +kernel
theorem dX5_goNight_130 : decode cX5_goNight 130 = .ok (.dup, 1) := by decide +kernel
theorem dX5_goNight_131 : decode cX5_goNight 131 = .ok (.getfield 40, 3) := by decide +kernel
theorem dX5_goNight_134 : decode cX5_goNight 134 = .ok (.iconst 1, 1) := by decide +kernel
theorem dX5_goNight_135 : decode cX5_goNight 135 = .ok (.iadd, 1) := by decide +kernel
theorem dX5_goNight_136 : decode cX5_goNight 136 = .ok (.putfield 40, 3) := by decide +kernel
theorem dX5_goNight_139 : decode cX5_goNight 139 = .ok (.iload 4, 2) := by decide +kernel
theorem dX5_goNight_141 : decode cX5_goNight 141 = .ok (.ireturn, 1) := by decide +kernel
set_option maxRecDepth 20000 in
theorem ggX5_comeInto_X3_kindAt : GoodIn wsX5_comeInto wsX3_kindAt := goodIn_r _ [5, 6, 23, 24, 25, 26] (by decide +kernel) (by decide +kernel)
set_option maxRecDepth 20000 in
theorem gX5_comeInto_X3_kindAt : GoodIn wsX5_comeInto (wsV RX5 28 RX3 yX3_kindAt wsX3_kindAt) := goodIn_app (goodIn_of _ (by decide +kernel)) ggX5_comeInto_X3_kindAt
set_option maxRecDepth 20000 in
theorem ggX5_comeInto_X3_setKind : GoodIn wsX5_comeInto wsX3_setKind := goodIn_r _ [10, 6, 23, 24, 25, 26] (by decide +kernel) (by decide +kernel)
set_option maxRecDepth 20000 in
theorem gX5_comeInto_X3_setKind : GoodIn wsX5_comeInto (wsV RX5 47 RX3 yX3_setKind wsX3_setKind) := goodIn_app (goodIn_of _ (by decide +kernel)) ggX5_comeInto_X3_setKind
set_option maxRecDepth 20000 in
theorem ggX5_comeInto_X6_isOfLine : GoodIn wsX5_comeInto wsX6_isOfLine := goodIn_r _ [15, 16, 17, 27, 28, 29, 30, 31, 32, 33, 34, 35, 36, 37, 38, 39] (by decide +kernel) (by decide +kernel)
set_option maxRecDepth 20000 in
theorem gX5_comeInto_X6_isOfLine : GoodIn wsX5_comeInto (wsV RX5 51 RX6 yX6_isOfLine wsX6_isOfLine) := goodIn_app (goodIn_of _ (by decide +kernel)) ggX5_comeInto_X6_isOfLine
set_option maxRecDepth 20000 in
theorem ggX5_comeInto_X3_hasBegun : GoodIn wsX5_comeInto wsX3_hasBegun := goodIn_r _ [21, 22, 23, 24, 25, 26] (by decide +kernel) (by decide +kernel)
set_option maxRecDepth 20000 in
theorem gX5_comeInto_X3_hasBegun : GoodIn wsX5_comeInto (wsV RX5 18 RX3 yX3_hasBegun wsX3_hasBegun) := goodIn_app (goodIn_of _ (by decide +kernel)) ggX5_comeInto_X3_hasBegun
theorem dX5_comeInto_0 : decode cX5_comeInto 0 = .ok (.aload_n 2, 1) := by decide +kernel
theorem dX5_comeInto_1 : decode cX5_comeInto 1 = .ok (.iload_n 0, 1) := by decide +kernel
theorem dX5_comeInto_2 : decode cX5_comeInto 2 = .ok (.invokevirtual 28, 3) := by decide +kernel
theorem dX5_comeInto_5 : decode cX5_comeInto 5 = .ok (.iconst 3, 1) := by decide +kernel
theorem dX5_comeInto_6 : decode cX5_comeInto 6 = .ok (.if_icmp .ne 7, 3) := by decide +kernel
theorem dX5_comeInto_9 : decode cX5_comeInto 9 = .ok (.iconst 1, 1) := by decide +kernel
theorem dX5_comeInto_10 : decode cX5_comeInto 10 = .ok (.goto 4, 3) := by decide +kernel
theorem dX5_comeInto_13 : decode cX5_comeInto 13 = .ok (.iconst 0, 1) := by decide +kernel
theorem dX5_comeInto_14 : decode cX5_comeInto 14 = .ok (.istore_n 3, 1) := by decide +kernel
theorem dX5_comeInto_15 : decode cX5_comeInto 15 = .ok (.aload_n 2, 1) := by decide +kernel
theorem dX5_comeInto_16 : decode cX5_comeInto 16 = .ok (.iload_n 0, 1) := by decide +kernel
theorem dX5_comeInto_17 : decode cX5_comeInto 17 = .ok (.putfield 44, 3) := by decide +kernel
theorem dX5_comeInto_20 : decode cX5_comeInto 20 = .ok (.iload_n 3, 1) := by decide +kernel
theorem dX5_comeInto_21 : decode cX5_comeInto 21 = .ok (.ifCond .eq 9, 3) := by decide +kernel
theorem dX5_comeInto_24 : decode cX5_comeInto 24 = .ok (.aload_n 2, 1) := by decide +kernel
theorem dX5_comeInto_25 : decode cX5_comeInto 25 = .ok (.iload_n 0, 1) := by decide +kernel
theorem dX5_comeInto_26 : decode cX5_comeInto 26 = .ok (.iconst 0, 1) := by decide +kernel
theorem dX5_comeInto_27 : decode cX5_comeInto 27 = .ok (.invokevirtual 47, 3) := by decide +kernel
theorem dX5_comeInto_30 : decode cX5_comeInto 30 = .ok (.aload_n 1, 1) := by decide +kernel
theorem dX5_comeInto_31 : decode cX5_comeInto 31 = .ok (.iload_n 0, 1) := by decide +kernel
theorem dX5_comeInto_32 : decode cX5_comeInto 32 = .ok (.invokevirtual 51, 3) := by decide +kernel
theorem dX5_comeInto_35 : decode cX5_comeInto 35 = .ok (.ifCond .eq 11, 3) := by decide +kernel
theorem dX5_comeInto_38 : decode cX5_comeInto 38 = .ok (.aload_n 2, 1) := by decide +kernel
theorem dX5_comeInto_39 : decode cX5_comeInto 39 = .ok (.aload_n 2, 1) := by decide +kernel
theorem dX5_comeInto_40 : decode cX5_comeInto 40 = .ok (.getfield 40, 3) := by decide +kernel
theorem dX5_comeInto_43 : decode cX5_comeInto 43 = .ok (.putfield 57, 3) := by decide +kernel
theorem dX5_comeInto_46 : decode cX5_comeInto 46 = .ok (.iload_n 3, 1) := by decide +kernel
theorem dX5_comeInto_47 : decode cX5_comeInto 47 = .ok (.ifCond .ne 14, 3) := by decide +kernel
theorem dX5_comeInto_50 : decode cX5_comeInto 50 = .ok (.aload_n 2, 1) := by decide +kernel
theorem dX5_comeInto_51 : decode cX5_comeInto 51 = .ok (.invokevirtual 18, 3) := by decide +kernel
theorem dX5_comeInto_54 : decode cX5_comeInto 54 = .ok (.ifCond .ne 7, 3) := by decide +kernel
theorem dX5_comeInto_57 : decode cX5_comeInto 57 = .ok (.iconst 1, 1) := by decide +kernel
theorem dX5_comeInto_58 : decode cX5_comeInto 58 = .ok (.goto 4, 3) := by decide +kernel
theorem dX5_comeInto_61 : decode cX5_comeInto 61 = .ok (.iconst 0, 1) := by decide +kernel
theorem dX5_comeInto_62 : decode cX5_comeInto 62 = .ok (.ireturn, 1) := by decide +kernel
set_option maxRecDepth 20000 in
theorem ggX5_nextCell_X5_spread : GoodIn wsX5_nextCell wsX5_spread := goodIn_r _ [6, 7, 8, 9, 10, 11, 12, 13, 14, 15, 16, 17, 18, 19, 20, 21, 22, 23, 24, 25, 46, 47, 48, 49, 50, 51, 52, 53, 54, 55, 56, 57, 58, 40, 41, 42, 43] (by decide +kernel) (by decide +kernel)
set_option maxRecDepth 20000 in
theorem gX5_nextCell_X5_spread : GoodIn wsX5_nextCell (va_wsS RX5 60 yX5_spread wsX5_spread) := goodIn_app (goodIn_of _ (by decide +kernel)) ggX5_nextCell_X5_spread
set_option maxRecDepth 20000 in
theorem ggX5_nextCell_X5_nearestLettuce : GoodIn wsX5_nextCell wsX5_nearestLettuce := goodIn_r _ [29, 1, 17, 18, 19, 20, 21, 22, 46, 47, 48, 49, 50, 51, 52, 53, 54, 55, 56, 57, 58, 44, 45, 40, 41, 42, 43] (by decide +kernel) (by decide +kernel)
set_option maxRecDepth 20000 in
theorem gX5_nextCell_X5_nearestLettuce : GoodIn wsX5_nextCell (wsV RX5 64 RX5 yX5_nearestLettuce wsX5_nearestLettuce) := goodIn_app (goodIn_of _ (by decide +kernel)) ggX5_nextCell_X5_nearestLettuce
set_option maxRecDepth 20000 in
theorem ggX5_nextCell_X5_nearestOfLine : GoodIn wsX5_nextCell wsX5_nearestOfLine := goodIn_r _ [33, 1, 34, 35, 36, 14, 37, 38, 39, 46, 47, 48, 49, 50, 51, 52, 53, 54, 55, 56, 57, 58, 44, 45] (by decide +kernel) (by decide +kernel)
set_option maxRecDepth 20000 in
theorem gX5_nextCell_X5_nearestOfLine : GoodIn wsX5_nextCell (wsV RX5 67 RX5 yX5_nearestOfLine wsX5_nearestOfLine) := goodIn_app (goodIn_of _ (by decide +kernel)) ggX5_nextCell_X5_nearestOfLine
set_option maxRecDepth 20000 in
theorem ggX5_nextCell_X6_besideAt : GoodIn wsX5_nextCell wsX6_besideAt := goodIn_r _ [15, 16, 46, 47, 48, 49, 50, 51, 52, 53, 54, 55, 56, 57, 58] (by decide +kernel) (by decide +kernel)
set_option maxRecDepth 20000 in
theorem gX5_nextCell_X6_besideAt : GoodIn wsX5_nextCell (wsV RX5 71 RX6 yX6_besideAt wsX6_besideAt) := goodIn_app (goodIn_of _ (by decide +kernel)) ggX5_nextCell_X6_besideAt
theorem dX5_nextCell_0 : decode cX5_nextCell 0 = .ok (.aload_n 2, 1) := by decide +kernel
theorem dX5_nextCell_1 : decode cX5_nextCell 1 = .ok (.getfield 44, 3) := by decide +kernel
theorem dX5_nextCell_4 : decode cX5_nextCell 4 = .ok (.aload_n 1, 1) := by decide +kernel
theorem dX5_nextCell_5 : decode cX5_nextCell 5 = .ok (.aload_n 2, 1) := by decide +kernel
theorem dX5_nextCell_6 : decode cX5_nextCell 6 = .ok (.aload_n 0, 1) := by decide +kernel
theorem dX5_nextCell_7 : decode cX5_nextCell 7 = .ok (.getfield 9, 3) := by decide +kernel
theorem dX5_nextCell_10 : decode cX5_nextCell 10 = .ok (.invokestatic 60, 3) := by decide +kernel
theorem dX5_nextCell_13 : decode cX5_nextCell 13 = .ok (.aload_n 0, 1) := by decide +kernel
theorem dX5_nextCell_14 : decode cX5_nextCell 14 = .ok (.aload_n 1, 1) := by decide +kernel
theorem dX5_nextCell_15 : decode cX5_nextCell 15 = .ok (.aload_n 2, 1) := by decide +kernel
theorem dX5_nextCell_16 : decode cX5_nextCell 16 = .ok (.invokevirtual 64, 3) := by decide +kernel
theorem dX5_nextCell_19 : decode cX5_nextCell 19 = .ok (.istore_n 3, 1) := by decide +kernel
theorem dX5_nextCell_20 : decode cX5_nextCell 20 = .ok (.iload_n 3, 1) := by decide +kernel
theorem dX5_nextCell_21 : decode cX5_nextCell 21 = .ok (.bipush (-4), 2) := by decide +kernel
theorem dX5_nextCell_23 : decode cX5_nextCell 23 = .ok (.if_icmp .ne 9, 3) := by decide +kernel
theorem dX5_nextCell_26 : decode cX5_nextCell 26 = .ok (.aload_n 0, 1) := by decide +kernel
theorem dX5_nextCell_27 : decode cX5_nextCell 27 = .ok (.aload_n 1, 1) := by decide +kernel
theorem dX5_nextCell_28 : decode cX5_nextCell 28 = .ok (.invokevirtual 67, 3) := by decide +kernel
theorem dX5_nextCell_31 : decode cX5_nextCell 31 = .ok (.istore_n 3, 1) := by decide +kernel
theorem dX5_nextCell_32 : decode cX5_nextCell 32 = .ok (.iload_n 3, 1) := by decide +kernel
theorem dX5_nextCell_33 : decode cX5_nextCell 33 = .ok (.bipush (-4), 2) := by decide +kernel
theorem dX5_nextCell_35 : decode cX5_nextCell 35 = .ok (.if_icmp .ne 6, 3) := by decide +kernel
theorem dX5_nextCell_38 : decode cX5_nextCell 38 = .ok (.bipush (-4), 2) := by decide +kernel
theorem dX5_nextCell_40 : decode cX5_nextCell 40 = .ok (.ireturn, 1) := by decide +kernel
theorem dX5_nextCell_41 : decode cX5_nextCell 41 = .ok (.iload_n 3, 1) := by decide +kernel
theorem dX5_nextCell_42 : decode cX5_nextCell 42 = .ok (.aload_n 1, 1) := by decide +kernel
theorem dX5_nextCell_43 : decode cX5_nextCell 43 = .ok (.aload_n 2, 1) := by decide +kernel
theorem dX5_nextCell_44 : decode cX5_nextCell 44 = .ok (.aload_n 0, 1) := by decide +kernel
theorem dX5_nextCell_45 : decode cX5_nextCell 45 = .ok (.getfield 15, 3) := by decide +kernel
theorem dX5_nextCell_48 : decode cX5_nextCell 48 = .ok (.invokestatic 60, 3) := by decide +kernel
theorem dX5_nextCell_51 : decode cX5_nextCell 51 = .ok (.bipush (-4), 2) := by decide +kernel
theorem dX5_nextCell_53 : decode cX5_nextCell 53 = .ok (.istore 4, 2) := by decide +kernel
theorem dX5_nextCell_55 : decode cX5_nextCell 55 = .ok (.sipush 1000, 3) := by decide +kernel
theorem dX5_nextCell_58 : decode cX5_nextCell 58 = .ok (.istore 5, 2) := by decide +kernel
theorem dX5_nextCell_60 : decode cX5_nextCell 60 = .ok (.iconst 0, 1) := by decide +kernel
theorem dX5_nextCell_61 : decode cX5_nextCell 61 = .ok (.istore 6, 2) := by decide +kernel
theorem dX5_nextCell_63 : decode cX5_nextCell 63 = .ok (.iload 6, 2) := by decide +kernel
theorem dX5_nextCell_65 : decode cX5_nextCell 65 = .ok (.iconst 4, 1) := by decide +kernel
theorem dX5_nextCell_66 : decode cX5_nextCell 66 = .ok (.if_icmp .ge 61, 3) := by decide +kernel
theorem dX5_nextCell_69 : decode cX5_nextCell 69 = .ok (.aload_n 1, 1) := by decide +kernel
theorem dX5_nextCell_70 : decode cX5_nextCell 70 = .ok (.aload_n 2, 1) := by decide +kernel
theorem dX5_nextCell_71 : decode cX5_nextCell 71 = .ok (.getfield 44, 3) := by decide +kernel
theorem dX5_nextCell_74 : decode cX5_nextCell 74 = .ok (.iload 6, 2) := by decide +kernel
theorem dX5_nextCell_76 : decode cX5_nextCell 76 = .ok (.invokevirtual 71, 3) := by decide +kernel
theorem dX5_nextCell_79 : decode cX5_nextCell 79 = .ok (.istore 7, 2) := by decide +kernel
theorem dX5_nextCell_81 : decode cX5_nextCell 81 = .ok (.iload 7, 2) := by decide +kernel
theorem dX5_nextCell_83 : decode cX5_nextCell 83 = .ok (.ifCond .lt 38, 3) := by decide +kernel
theorem dX5_nextCell_86 : decode cX5_nextCell 86 = .ok (.iload 7, 2) := by decide +kernel
theorem dX5_nextCell_88 : decode cX5_nextCell 88 = .ok (.aload_n 0, 1) := by decide +kernel
theorem dX5_nextCell_89 : decode cX5_nextCell 89 = .ok (.getfield 15, 3) := by decide +kernel
theorem dX5_nextCell_92 : decode cX5_nextCell 92 = .ok (.arraylength, 1) := by decide +kernel
theorem dX5_nextCell_93 : decode cX5_nextCell 93 = .ok (.if_icmp .ge 28, 3) := by decide +kernel
theorem dX5_nextCell_96 : decode cX5_nextCell 96 = .ok (.aload_n 0, 1) := by decide +kernel
theorem dX5_nextCell_97 : decode cX5_nextCell 97 = .ok (.getfield 15, 3) := by decide +kernel
theorem dX5_nextCell_100 : decode cX5_nextCell 100 = .ok (.iload 7, 2) := by decide +kernel
theorem dX5_nextCell_102 : decode cX5_nextCell 102 = .ok (.iaload, 1) := by decide +kernel
theorem dX5_nextCell_103 : decode cX5_nextCell 103 = .ok (.iload 5, 2) := by decide +kernel
theorem dX5_nextCell_105 : decode cX5_nextCell 105 = .ok (.if_icmp .ge 16, 3) := by decide +kernel
theorem dX5_nextCell_108 : decode cX5_nextCell 108 = .ok (.aload_n 0, 1) := by decide +kernel
theorem dX5_nextCell_109 : decode cX5_nextCell 109 = .ok (.getfield 15, 3) := by decide +kernel
theorem dX5_nextCell_112 : decode cX5_nextCell 112 = .ok (.iload 7, 2) := by decide +kernel
theorem dX5_nextCell_114 : decode cX5_nextCell 114 = .ok (.iaload, 1) := by decide +kernel
theorem dX5_nextCell_115 : decode cX5_nextCell 115 = .ok (.istore 5, 2) := by decide +kernel
theorem dX5_nextCell_117 : decode cX5_nextCell 117 = .ok (.iload 7, 2) := by decide +kernel
theorem dX5_nextCell_119 : decode cX5_nextCell 119 = .ok (.istore 4, 2) := by decide +kernel
theorem dX5_nextCell_121 : decode cX5_nextCell 121 = .ok (.iinc 6 1, 3) := by decide +kernel
theorem dX5_nextCell_124 : decode cX5_nextCell 124 = .ok (.goto (-61), 3) := by decide +kernel
theorem dX5_nextCell_127 : decode cX5_nextCell 127 = .ok (.iload 4, 2) := by decide +kernel
theorem dX5_nextCell_129 : decode cX5_nextCell 129 = .ok (.ireturn, 1) := by decide +kernel
set_option maxRecDepth 20000 in
theorem ggX5_nearestLettuce_X3_kindAt : GoodIn wsX5_nearestLettuce wsX3_kindAt := goodIn_r _ [6, 7, 23, 24, 25, 26] (by decide +kernel) (by decide +kernel)
set_option maxRecDepth 20000 in
theorem gX5_nearestLettuce_X3_kindAt : GoodIn wsX5_nearestLettuce (wsV RX5 28 RX3 yX3_kindAt wsX3_kindAt) := goodIn_app (goodIn_of _ (by decide +kernel)) ggX5_nearestLettuce_X3_kindAt
theorem dX5_nearestLettuce_0 : decode cX5_nearestLettuce 0 = .ok (.bipush (-4), 2) := by decide +kernel
theorem dX5_nearestLettuce_2 : decode cX5_nearestLettuce 2 = .ok (.istore_n 3, 1) := by decide +kernel
theorem dX5_nearestLettuce_3 : decode cX5_nearestLettuce 3 = .ok (.iconst 5, 1) := by decide +kernel
theorem dX5_nearestLettuce_4 : decode cX5_nearestLettuce 4 = .ok (.istore 4, 2) := by decide +kernel
theorem dX5_nearestLettuce_6 : decode cX5_nearestLettuce 6 = .ok (.iconst 0, 1) := by decide +kernel
theorem dX5_nearestLettuce_7 : decode cX5_nearestLettuce 7 = .ok (.istore 5, 2) := by decide +kernel
theorem dX5_nearestLettuce_9 : decode cX5_nearestLettuce 9 = .ok (.iload 5, 2) := by decide +kernel
theorem dX5_nearestLettuce_11 : decode cX5_nearestLettuce 11 = .ok (.aload_n 1, 1) := by decide +kernel
theorem dX5_nearestLettuce_12 : decode cX5_nearestLettuce 12 = .ok (.getfield 74, 3) := by decide +kernel
theorem dX5_nearestLettuce_15 : decode cX5_nearestLettuce 15 = .ok (.if_icmp .ge 53, 3) := by decide +kernel
theorem dX5_nearestLettuce_18 : decode cX5_nearestLettuce 18 = .ok (.iload 5, 2) := by decide +kernel
theorem dX5_nearestLettuce_20 : decode cX5_nearestLettuce 20 = .ok (.aload_n 0, 1) := by decide +kernel
theorem dX5_nearestLettuce_21 : decode cX5_nearestLettuce 21 = .ok (.getfield 9, 3) := by decide +kernel
theorem dX5_nearestLettuce_24 : decode cX5_nearestLettuce 24 = .ok (.arraylength, 1) := by decide +kernel
theorem dX5_nearestLettuce_25 : decode cX5_nearestLettuce 25 = .ok (.if_icmp .ge 43, 3) := by decide +kernel
theorem dX5_nearestLettuce_28 : decode cX5_nearestLettuce 28 = .ok (.aload_n 2, 1) := by decide +kernel
theorem dX5_nearestLettuce_29 : decode cX5_nearestLettuce 29 = .ok (.iload 5, 2) := by decide +kernel
theorem dX5_nearestLettuce_31 : decode cX5_nearestLettuce 31 = .ok (.invokevirtual 28, 3) := by decide +kernel
theorem dX5_nearestLettuce_34 : decode cX5_nearestLettuce 34 = .ok (.iconst 3, 1) := by decide +kernel
theorem dX5_nearestLettuce_35 : decode cX5_nearestLettuce 35 = .ok (.if_icmp .ne 27, 3) := by decide +kernel
theorem dX5_nearestLettuce_38 : decode cX5_nearestLettuce 38 = .ok (.aload_n 0, 1) := by decide +kernel
theorem dX5_nearestLettuce_39 : decode cX5_nearestLettuce 39 = .ok (.getfield 9, 3) := by decide +kernel
theorem dX5_nearestLettuce_42 : decode cX5_nearestLettuce 42 = .ok (.iload 5, 2) := by decide +kernel
theorem dX5_nearestLettuce_44 : decode cX5_nearestLettuce 44 = .ok (.iaload, 1) := by decide +kernel
theorem dX5_nearestLettuce_45 : decode cX5_nearestLettuce 45 = .ok (.iload 4, 2) := by decide +kernel
theorem dX5_nearestLettuce_47 : decode cX5_nearestLettuce 47 = .ok (.if_icmp .ge 15, 3) := by decide +kernel
theorem dX5_nearestLettuce_50 : decode cX5_nearestLettuce 50 = .ok (.aload_n 0, 1) := by decide +kernel
theorem dX5_nearestLettuce_51 : decode cX5_nearestLettuce 51 = .ok (.getfield 9, 3) := by decide +kernel
theorem dX5_nearestLettuce_54 : decode cX5_nearestLettuce 54 = .ok (.iload 5, 2) := by decide +kernel
theorem dX5_nearestLettuce_56 : decode cX5_nearestLettuce 56 = .ok (.iaload, 1) := by decide +kernel
theorem dX5_nearestLettuce_57 : decode cX5_nearestLettuce 57 = .ok (.istore 4, 2) := by decide +kernel
theorem dX5_nearestLettuce_59 : decode cX5_nearestLettuce 59 = .ok (.iload 5, 2) := by decide +kernel
theorem dX5_nearestLettuce_61 : decode cX5_nearestLettuce 61 = .ok (.istore_n 3, 1) := by decide +kernel
theorem dX5_nearestLettuce_62 : decode cX5_nearestLettuce 62 = .ok (.iinc 5 1, 3) := by decide +kernel
theorem dX5_nearestLettuce_65 : decode cX5_nearestLettuce 65 = .ok (.goto (-56), 3) := by decide +kernel
theorem dX5_nearestLettuce_68 : decode cX5_nearestLettuce 68 = .ok (.iload_n 3, 1) := by decide +kernel
theorem dX5_nearestLettuce_69 : decode cX5_nearestLettuce 69 = .ok (.ireturn, 1) := by decide +kernel
set_option maxRecDepth 20000 in
theorem ggX5_nearestOfLine_X6_isOfLine : GoodIn wsX5_nearestOfLine wsX6_isOfLine := goodIn_r _ [6, 7, 8, 9, 10, 11, 12, 13, 14, 15, 16, 17, 18, 19, 20, 21] (by decide +kernel) (by decide +kernel)
set_option maxRecDepth 20000 in
theorem gX5_nearestOfLine_X6_isOfLine : GoodIn wsX5_nearestOfLine (wsV RX5 51 RX6 yX6_isOfLine wsX6_isOfLine) := goodIn_app (goodIn_of _ (by decide +kernel)) ggX5_nearestOfLine_X6_isOfLine
theorem dX5_nearestOfLine_0 : decode cX5_nearestOfLine 0 = .ok (.bipush (-4), 2) := by decide +kernel
theorem dX5_nearestOfLine_2 : decode cX5_nearestOfLine 2 = .ok (.istore_n 2, 1) := by decide +kernel
theorem dX5_nearestOfLine_3 : decode cX5_nearestOfLine 3 = .ok (.sipush 1000, 3) := by decide +kernel
theorem dX5_nearestOfLine_6 : decode cX5_nearestOfLine 6 = .ok (.istore_n 3, 1) := by decide +kernel
theorem dX5_nearestOfLine_7 : decode cX5_nearestOfLine 7 = .ok (.iconst 0, 1) := by decide +kernel
theorem dX5_nearestOfLine_8 : decode cX5_nearestOfLine 8 = .ok (.istore 4, 2) := by decide +kernel
theorem dX5_nearestOfLine_10 : decode cX5_nearestOfLine 10 = .ok (.iload 4, 2) := by decide +kernel
theorem dX5_nearestOfLine_12 : decode cX5_nearestOfLine 12 = .ok (.aload_n 1, 1) := by decide +kernel
theorem dX5_nearestOfLine_13 : decode cX5_nearestOfLine 13 = .ok (.getfield 74, 3) := by decide +kernel
theorem dX5_nearestOfLine_16 : decode cX5_nearestOfLine 16 = .ok (.if_icmp .ge 50, 3) := by decide +kernel
theorem dX5_nearestOfLine_19 : decode cX5_nearestOfLine 19 = .ok (.iload 4, 2) := by decide +kernel
theorem dX5_nearestOfLine_21 : decode cX5_nearestOfLine 21 = .ok (.aload_n 0, 1) := by decide +kernel
theorem dX5_nearestOfLine_22 : decode cX5_nearestOfLine 22 = .ok (.getfield 9, 3) := by decide +kernel
theorem dX5_nearestOfLine_25 : decode cX5_nearestOfLine 25 = .ok (.arraylength, 1) := by decide +kernel
theorem dX5_nearestOfLine_26 : decode cX5_nearestOfLine 26 = .ok (.if_icmp .ge 40, 3) := by decide +kernel
theorem dX5_nearestOfLine_29 : decode cX5_nearestOfLine 29 = .ok (.aload_n 1, 1) := by decide +kernel
theorem dX5_nearestOfLine_30 : decode cX5_nearestOfLine 30 = .ok (.iload 4, 2) := by decide +kernel
theorem dX5_nearestOfLine_32 : decode cX5_nearestOfLine 32 = .ok (.invokevirtual 51, 3) := by decide +kernel
theorem dX5_nearestOfLine_35 : decode cX5_nearestOfLine 35 = .ok (.ifCond .eq 25, 3) := by decide +kernel
theorem dX5_nearestOfLine_38 : decode cX5_nearestOfLine 38 = .ok (.aload_n 0, 1) := by decide +kernel
theorem dX5_nearestOfLine_39 : decode cX5_nearestOfLine 39 = .ok (.getfield 9, 3) := by decide +kernel
theorem dX5_nearestOfLine_42 : decode cX5_nearestOfLine 42 = .ok (.iload 4, 2) := by decide +kernel
theorem dX5_nearestOfLine_44 : decode cX5_nearestOfLine 44 = .ok (.iaload, 1) := by decide +kernel
theorem dX5_nearestOfLine_45 : decode cX5_nearestOfLine 45 = .ok (.iload_n 3, 1) := by decide +kernel
theorem dX5_nearestOfLine_46 : decode cX5_nearestOfLine 46 = .ok (.if_icmp .ge 14, 3) := by decide +kernel
theorem dX5_nearestOfLine_49 : decode cX5_nearestOfLine 49 = .ok (.aload_n 0, 1) := by decide +kernel
theorem dX5_nearestOfLine_50 : decode cX5_nearestOfLine 50 = .ok (.getfield 9, 3) := by decide +kernel
theorem dX5_nearestOfLine_53 : decode cX5_nearestOfLine 53 = .ok (.iload 4, 2) := by decide +kernel
theorem dX5_nearestOfLine_55 : decode cX5_nearestOfLine 55 = .ok (.iaload, 1) := by decide +kernel
theorem dX5_nearestOfLine_56 : decode cX5_nearestOfLine 56 = .ok (.istore_n 3, 1) := by decide +kernel
theorem dX5_nearestOfLine_57 : decode cX5_nearestOfLine 57 = .ok (.iload 4, 2) := by decide +kernel
theorem dX5_nearestOfLine_59 : decode cX5_nearestOfLine 59 = .ok (.istore_n 2, 1) := by decide +kernel
theorem dX5_nearestOfLine_60 : decode cX5_nearestOfLine 60 = .ok (.iinc 4 1, 3) := by decide +kernel
theorem dX5_nearestOfLine_63 : decode cX5_nearestOfLine 63 = .ok (.goto (-53), 3) := by decide +kernel
theorem dX5_nearestOfLine_66 : decode cX5_nearestOfLine 66 = .ok (.iload_n 2, 1) := by decide +kernel
theorem dX5_nearestOfLine_67 : decode cX5_nearestOfLine 67 = .ok (.ireturn, 1) := by decide +kernel
set_option maxRecDepth 20000 in
theorem ggX5_stepsTo_X5_spread : GoodIn wsX5_stepsTo wsX5_spread := goodIn_r _ [5, 6, 7, 8, 9, 10, 11, 12, 13, 14, 15, 16, 17, 18, 19, 20, 21, 22, 23, 24, 31, 32, 33, 34, 35, 36, 37, 38, 39, 40, 41, 42, 43, 25, 26, 27, 28] (by decide +kernel) (by decide +kernel)
set_option maxRecDepth 20000 in
theorem gX5_stepsTo_X5_spread : GoodIn wsX5_stepsTo (va_wsS RX5 60 yX5_spread wsX5_spread) := goodIn_app (goodIn_of _ (by decide +kernel)) ggX5_stepsTo_X5_spread
theorem dX5_stepsTo_0 : decode cX5_stepsTo 0 = .ok (.aload_n 3, 1) := by decide +kernel
theorem dX5_stepsTo_1 : decode cX5_stepsTo 1 = .ok (.getfield 44, 3) := by decide +kernel
theorem dX5_stepsTo_4 : decode cX5_stepsTo 4 = .ok (.aload_n 2, 1) := by decide +kernel
theorem dX5_stepsTo_5 : decode cX5_stepsTo 5 = .ok (.aload_n 3, 1) := by decide +kernel
theorem dX5_stepsTo_6 : decode cX5_stepsTo 6 = .ok (.aload_n 0, 1) := by decide +kernel
theorem dX5_stepsTo_7 : decode cX5_stepsTo 7 = .ok (.getfield 9, 3) := by decide +kernel
theorem dX5_stepsTo_10 : decode cX5_stepsTo 10 = .ok (.invokestatic 60, 3) := by decide +kernel
theorem dX5_stepsTo_13 : decode cX5_stepsTo 13 = .ok (.iload_n 1, 1) := by decide +kernel
theorem dX5_stepsTo_14 : decode cX5_stepsTo 14 = .ok (.ifCond .lt 21, 3) := by decide +kernel
theorem dX5_stepsTo_17 : decode cX5_stepsTo 17 = .ok (.iload_n 1, 1) := by decide +kernel
theorem dX5_stepsTo_18 : decode cX5_stepsTo 18 = .ok (.aload_n 0, 1) := by decide +kernel
theorem dX5_stepsTo_19 : decode cX5_stepsTo 19 = .ok (.getfield 9, 3) := by decide +kernel
theorem dX5_stepsTo_22 : decode cX5_stepsTo 22 = .ok (.arraylength, 1) := by decide +kernel
theorem dX5_stepsTo_23 : decode cX5_stepsTo 23 = .ok (.if_icmp .ge 12, 3) := by decide +kernel
theorem dX5_stepsTo_26 : decode cX5_stepsTo 26 = .ok (.aload_n 0, 1) := by decide +kernel
theorem dX5_stepsTo_27 : decode cX5_stepsTo 27 = .ok (.getfield 9, 3) := by decide +kernel
theorem dX5_stepsTo_30 : decode cX5_stepsTo 30 = .ok (.iload_n 1, 1) := by decide +kernel
theorem dX5_stepsTo_31 : decode cX5_stepsTo 31 = .ok (.iaload, 1) := by decide +kernel
theorem dX5_stepsTo_32 : decode cX5_stepsTo 32 = .ok (.goto 6, 3) := by decide +kernel
theorem dX5_stepsTo_35 : decode cX5_stepsTo 35 = .ok (.sipush 1000, 3) := by decide +kernel
theorem dX5_stepsTo_38 : decode cX5_stepsTo 38 = .ok (.ireturn, 1) := by decide +kernel
set_option maxRecDepth 20000 in
theorem ggX5_spread_J7_fill_53178 : GoodIn wsX5_spread wsJ7_fill_53178 := goodIn_r _ [4] (by decide +kernel) (by decide +kernel)
set_option maxRecDepth 20000 in
theorem gX5_spread_J7_fill_53178 : GoodIn wsX5_spread (va_wsS RX5 77 yJ7_fill_53178 wsJ7_fill_53178) := goodIn_app (goodIn_of _ (by decide +kernel)) ggX5_spread_J7_fill_53178
set_option maxRecDepth 20000 in
theorem ggX5_spread_X6_besideAt : GoodIn wsX5_spread wsX6_besideAt := goodIn_r _ [9, 10, 20, 21, 22, 23, 24, 25, 26, 27, 28, 29, 30, 31, 32] (by decide +kernel) (by decide +kernel)
set_option maxRecDepth 20000 in
theorem gX5_spread_X6_besideAt : GoodIn wsX5_spread (wsV RX5 71 RX6 yX6_besideAt wsX6_besideAt) := goodIn_app (goodIn_of _ (by decide +kernel)) ggX5_spread_X6_besideAt
set_option maxRecDepth 20000 in
theorem ggX5_spread_X3_kindAt : GoodIn wsX5_spread wsX3_kindAt := goodIn_r _ [15, 16, 33, 34, 35, 36] (by decide +kernel) (by decide +kernel)
set_option maxRecDepth 20000 in
theorem gX5_spread_X3_kindAt : GoodIn wsX5_spread (wsV RX5 28 RX3 yX3_kindAt wsX3_kindAt) := goodIn_app (goodIn_of _ (by decide +kernel)) ggX5_spread_X3_kindAt
set_option maxRecDepth 20000 in
theorem ggX5_spread_X7_stepsInto : GoodIn wsX5_spread wsX7_stepsInto := goodIn_r _ [19] (by decide +kernel) (by decide +kernel)
set_option maxRecDepth 20000 in
theorem gX5_spread_X7_stepsInto_n32 : GoodIn wsX5_spread (wsX7_stepsInto) := ggX5_spread_X7_stepsInto
theorem dX5_spread_0 : decode cX5_spread 0 = .ok (.aload_n 3, 1) := by decide +kernel
theorem dX5_spread_1 : decode cX5_spread 1 = .ok (.sipush 1000, 3) := by decide +kernel
theorem dX5_spread_4 : decode cX5_spread 4 = .ok (.invokestatic 77, 3) := by decide +kernel
theorem dX5_spread_7 : decode cX5_spread 7 = .ok (.iload_n 0, 1) := by decide +kernel
theorem dX5_spread_8 : decode cX5_spread 8 = .ok (.ifCond .lt 9, 3) := by decide +kernel
theorem dX5_spread_11 : decode cX5_spread 11 = .ok (.iload_n 0, 1) := by decide +kernel
theorem dX5_spread_12 : decode cX5_spread 12 = .ok (.aload_n 3, 1) := by decide +kernel
theorem dX5_spread_13 : decode cX5_spread 13 = .ok (.arraylength, 1) := by decide +kernel
theorem dX5_spread_14 : decode cX5_spread 14 = .ok (.if_icmp .lt 4, 3) := by decide +kernel
theorem dX5_spread_17 : decode cX5_spread 17 = .ok (.return_, 1) := by decide +kernel
theorem dX5_spread_18 : decode cX5_spread 18 = .ok (.aload_n 3, 1) := by decide +kernel
theorem dX5_spread_19 : decode cX5_spread 19 = .ok (.iload_n 0, 1) := by decide +kernel
theorem dX5_spread_20 : decode cX5_spread 20 = .ok (.iconst 0, 1) := by decide +kernel
theorem dX5_spread_21 : decode cX5_spread 21 = .ok (.iastore, 1) := by decide +kernel
theorem dX5_spread_22 : decode cX5_spread 22 = .ok (.iconst 1, 1) := by decide +kernel
theorem dX5_spread_23 : decode cX5_spread 23 = .ok (.istore 4, 2) := by decide +kernel
theorem dX5_spread_25 : decode cX5_spread 25 = .ok (.iconst 0, 1) := by decide +kernel
theorem dX5_spread_26 : decode cX5_spread 26 = .ok (.istore 5, 2) := by decide +kernel
theorem dX5_spread_28 : decode cX5_spread 28 = .ok (.iload 4, 2) := by decide +kernel
theorem dX5_spread_30 : decode cX5_spread 30 = .ok (.ifCond .eq 134, 3) := by decide +kernel
theorem dX5_spread_33 : decode cX5_spread 33 = .ok (.iload 5, 2) := by decide +kernel
theorem dX5_spread_35 : decode cX5_spread 35 = .ok (.bipush 25, 2) := by decide +kernel
theorem dX5_spread_37 : decode cX5_spread 37 = .ok (.if_icmp .ge 127, 3) := by decide +kernel
theorem dX5_spread_40 : decode cX5_spread 40 = .ok (.iconst 0, 1) := by decide +kernel
theorem dX5_spread_41 : decode cX5_spread 41 = .ok (.istore 4, 2) := by decide +kernel
theorem dX5_spread_43 : decode cX5_spread 43 = .ok (.iconst 0, 1) := by decide +kernel
theorem dX5_spread_44 : decode cX5_spread 44 = .ok (.istore 6, 2) := by decide +kernel
theorem dX5_spread_46 : decode cX5_spread 46 = .ok (.iload 6, 2) := by decide +kernel
theorem dX5_spread_48 : decode cX5_spread 48 = .ok (.aload_n 1, 1) := by decide +kernel
theorem dX5_spread_49 : decode cX5_spread 49 = .ok (.getfield 74, 3) := by decide +kernel
theorem dX5_spread_52 : decode cX5_spread 52 = .ok (.if_icmp .ge 106, 3) := by decide +kernel
theorem dX5_spread_55 : decode cX5_spread 55 = .ok (.iload 6, 2) := by decide +kernel
theorem dX5_spread_57 : decode cX5_spread 57 = .ok (.aload_n 3, 1) := by decide +kernel
theorem dX5_spread_58 : decode cX5_spread 58 = .ok (.arraylength, 1) := by decide +kernel
theorem dX5_spread_59 : decode cX5_spread 59 = .ok (.if_icmp .ge 99, 3) := by decide +kernel
theorem dX5_spread_62 : decode cX5_spread 62 = .ok (.iconst 0, 1) := by decide +kernel
theorem dX5_spread_63 : decode cX5_spread 63 = .ok (.istore 7, 2) := by decide +kernel
theorem dX5_spread_65 : decode cX5_spread 65 = .ok (.iload 7, 2) := by decide +kernel
theorem dX5_spread_67 : decode cX5_spread 67 = .ok (.iconst 4, 1) := by decide +kernel
theorem dX5_spread_68 : decode cX5_spread 68 = .ok (.if_icmp .ge 84, 3) := by decide +kernel
theorem dX5_spread_71 : decode cX5_spread 71 = .ok (.aload_n 3, 1) := by decide +kernel
theorem dX5_spread_72 : decode cX5_spread 72 = .ok (.iload 6, 2) := by decide +kernel
theorem dX5_spread_74 : decode cX5_spread 74 = .ok (.iaload, 1) := by decide +kernel
theorem dX5_spread_75 : decode cX5_spread 75 = .ok (.sipush 1000, 3) := by decide +kernel
theorem dX5_spread_78 : decode cX5_spread 78 = .ok (.if_icmp .ge 74, 3) := by decide +kernel
theorem dX5_spread_81 : decode cX5_spread 81 = .ok (.aload_n 1, 1) := by decide +kernel
theorem dX5_spread_82 : decode cX5_spread 82 = .ok (.iload 6, 2) := by decide +kernel
theorem dX5_spread_84 : decode cX5_spread 84 = .ok (.iload 7, 2) := by decide +kernel
theorem dX5_spread_86 : decode cX5_spread 86 = .ok (.invokevirtual 71, 3) := by decide +kernel
theorem dX5_spread_89 : decode cX5_spread 89 = .ok (.istore 8, 2) := by decide +kernel
theorem dX5_spread_91 : decode cX5_spread 91 = .ok (.aload_n 3, 1) := by decide +kernel
theorem dX5_spread_92 : decode cX5_spread 92 = .ok (.iload 6, 2) := by decide +kernel
theorem dX5_spread_94 : decode cX5_spread 94 = .ok (.iaload, 1) := by decide +kernel
theorem dX5_spread_95 : decode cX5_spread 95 = .ok (.aload_n 2, 1) := by decide +kernel
theorem dX5_spread_96 : decode cX5_spread 96 = .ok (.iload 8, 2) := by decide +kernel
theorem dX5_spread_98 : decode cX5_spread 98 = .ok (.invokevirtual 28, 3) := by decide +kernel
theorem dX5_spread_101 : decode cX5_spread 101 = .ok (.iconst 3, 1) := by decide +kernel
theorem dX5_spread_102 : decode cX5_spread 102 = .ok (.invokestatic 32, 3) := by decide +kernel
theorem dX5_spread_105 : decode cX5_spread 105 = .ok (.iadd, 1) := by decide +kernel
theorem dX5_spread_106 : decode cX5_spread 106 = .ok (.istore 9, 2) := by decide +kernel
theorem dX5_spread_108 : decode cX5_spread 108 = .ok (.iload 8, 2) := by decide +kernel
theorem dX5_spread_110 : decode cX5_spread 110 = .ok (.ifCond .lt 36, 3) := by decide +kernel
theorem dX5_spread_113 : decode cX5_spread 113 = .ok (.iload 8, 2) := by decide +kernel
theorem dX5_spread_115 : decode cX5_spread 115 = .ok (.aload_n 3, 1) := by decide +kernel
theorem dX5_spread_116 : decode cX5_spread 116 = .ok (.arraylength, 1) := by decide +kernel
theorem dX5_spread_117 : decode cX5_spread 117 = .ok (.if_icmp .ge 29, 3) := by decide +kernel
theorem dX5_spread_120 : decode cX5_spread 120 = .ok (.iload 9, 2) := by decide +kernel
theorem dX5_spread_122 : decode cX5_spread 122 = .ok (.aload_n 3, 1) := by decide +kernel
theorem dX5_spread_123 : decode cX5_spread 123 = .ok (.iload 8, 2) := by decide +kernel
theorem dX5_spread_125 : decode cX5_spread 125 = .ok (.iaload, 1) := by decide +kernel
theorem dX5_spread_126 : decode cX5_spread 126 = .ok (.if_icmp .ge 20, 3) := by decide +kernel
theorem dX5_spread_129 : decode cX5_spread 129 = .ok (.iload 9, 2) := by decide +kernel
theorem dX5_spread_131 : decode cX5_spread 131 = .ok (.sipush 1000, 3) := by decide +kernel
theorem dX5_spread_134 : decode cX5_spread 134 = .ok (.if_icmp .ge 12, 3) := by decide +kernel
theorem dX5_spread_137 : decode cX5_spread 137 = .ok (.aload_n 3, 1) := by decide +kernel
theorem dX5_spread_138 : decode cX5_spread 138 = .ok (.iload 8, 2) := by decide +kernel
theorem dX5_spread_140 : decode cX5_spread 140 = .ok (.iload 9, 2) := by decide +kernel
theorem dX5_spread_142 : decode cX5_spread 142 = .ok (.iastore, 1) := by decide +kernel
theorem dX5_spread_143 : decode cX5_spread 143 = .ok (.iconst 1, 1) := by decide +kernel
theorem dX5_spread_144 : decode cX5_spread 144 = .ok (.istore 4, 2) := by decide +kernel
theorem dX5_spread_146 : decode cX5_spread 146 = .ok (.iinc 7 1, 3) := by decide +kernel
theorem dX5_spread_149 : decode cX5_spread 149 = .ok (.goto (-84), 3) := by decide +kernel
theorem dX5_spread_152 : decode cX5_spread 152 = .ok (.iinc 6 1, 3) := by decide +kernel
theorem dX5_spread_155 : decode cX5_spread 155 = .ok (.goto (-109), 3) := by decide +kernel
theorem dX5_spread_158 : decode cX5_spread 158 = .ok (.iinc 5 1, 3) := by decide +kernel
theorem dX5_spread_161 : decode cX5_spread 161 = .ok (.goto (-133), 3) := by decide +kernel
theorem dX5_spread_164 : decode cX5_spread 164 = .ok (.return_, 1) := by decide +kernel
theorem dX6_init_0 : decode cX6_init 0 = .ok (.aload_n 0, 1) := by decide +kernel
theorem dX6_init_1 : decode cX6_init 1 = .ok (.invokespecial 3, 3) := by decide +kernel
theorem dX6_init_4 : decode cX6_init 4 = .ok (.aload_n 0, 1) := by decide +kernel
theorem dX6_init_5 : decode cX6_init 5 = .ok (.bipush 25, 2) := by decide +kernel
theorem dX6_init_7 : decode cX6_init 7 = .ok (.newarray .int, 2) := by decide +kernel
theorem dX6_init_9 : decode cX6_init 9 = .ok (.putfield 9, 3) := by decide +kernel
theorem dX6_init_12 : decode cX6_init 12 = .ok (.aload_n 0, 1) := by decide +kernel
theorem dX6_init_13 : decode cX6_init 13 = .ok (.bipush 25, 2) := by decide +kernel
theorem dX6_init_15 : decode cX6_init 15 = .ok (.newarray .int, 2) := by decide +kernel
theorem dX6_init_17 : decode cX6_init 17 = .ok (.putfield 15, 3) := by decide +kernel
theorem dX6_init_20 : decode cX6_init 20 = .ok (.aload_n 0, 1) := by decide +kernel
theorem dX6_init_21 : decode cX6_init 21 = .ok (.bipush 100, 2) := by decide +kernel
theorem dX6_init_23 : decode cX6_init 23 = .ok (.newarray .int, 2) := by decide +kernel
theorem dX6_init_25 : decode cX6_init 25 = .ok (.putfield 18, 3) := by decide +kernel
theorem dX6_init_28 : decode cX6_init 28 = .ok (.aload_n 0, 1) := by decide +kernel
theorem dX6_init_29 : decode cX6_init 29 = .ok (.bipush 9, 2) := by decide +kernel
theorem dX6_init_31 : decode cX6_init 31 = .ok (.newarray .int, 2) := by decide +kernel
theorem dX6_init_33 : decode cX6_init 33 = .ok (.putfield 21, 3) := by decide +kernel
theorem dX6_init_36 : decode cX6_init 36 = .ok (.aload_n 0, 1) := by decide +kernel
theorem dX6_init_37 : decode cX6_init 37 = .ok (.iconst 5, 1) := by decide +kernel
theorem dX6_init_38 : decode cX6_init 38 = .ok (.newarray .int, 2) := by decide +kernel
theorem dX6_init_40 : decode cX6_init 40 = .ok (.putfield 24, 3) := by decide +kernel
theorem dX6_init_43 : decode cX6_init 43 = .ok (.aload_n 0, 1) := by decide +kernel
theorem dX6_init_44 : decode cX6_init 44 = .ok (.iconst 5, 1) := by decide +kernel
theorem dX6_init_45 : decode cX6_init 45 = .ok (.newarray .int, 2) := by decide +kernel
theorem dX6_init_47 : decode cX6_init 47 = .ok (.putfield 27, 3) := by decide +kernel
theorem dX6_init_50 : decode cX6_init 50 = .ok (.aload_n 0, 1) := by decide +kernel
theorem dX6_init_51 : decode cX6_init 51 = .ok (.iconst 4, 1) := by decide +kernel
theorem dX6_init_52 : decode cX6_init 52 = .ok (.newarray .int, 2) := by decide +kernel
theorem dX6_init_54 : decode cX6_init 54 = .ok (.putfield 30, 3) := by decide +kernel
theorem dX6_init_57 : decode cX6_init 57 = .ok (.aload_n 0, 1) := by decide +kernel
theorem dX6_init_58 : decode cX6_init 58 = .ok (.iconst 0, 1) := by decide +kernel
theorem dX6_init_59 : decode cX6_init 59 = .ok (.putfield 33, 3) := by decide +kernel
theorem dX6_init_62 : decode cX6_init 62 = .ok (.aload_n 0, 1) := by decide +kernel
theorem dX6_init_63 : decode cX6_init 63 = .ok (.iconst 0, 1) := by decide +kernel
theorem dX6_init_64 : decode cX6_init 64 = .ok (.putfield 37, 3) := by decide +kernel
theorem dX6_init_67 : decode cX6_init 67 = .ok (.aload_n 0, 1) := by decide +kernel
theorem dX6_init_68 : decode cX6_init 68 = .ok (.iconst 0, 1) := by decide +kernel
theorem dX6_init_69 : decode cX6_init 69 = .ok (.putfield 40, 3) := by decide +kernel
theorem dX6_init_72 : decode cX6_init 72 = .ok (.aload_n 0, 1) := by decide +kernel
theorem dX6_init_73 : decode cX6_init 73 = .ok (.iconst 0, 1) := by decide +kernel
theorem dX6_init_74 : decode cX6_init 74 = .ok (.putfield 43, 3) := by decide +kernel
theorem dX6_init_77 : decode cX6_init 77 = .ok (.aload_n 0, 1) := by decide +kernel
theorem dX6_init_78 : decode cX6_init 78 = .ok (.iconst 0, 1) := by decide +kernel
theorem dX6_init_79 : decode cX6_init 79 = .ok (.putfield 46, 3) := by decide +kernel
theorem dX6_init_82 : decode cX6_init 82 = .ok (.aload_n 0, 1) := by decide +kernel
theorem dX6_init_83 : decode cX6_init 83 = .ok (.iconst 0, 1) := by decide +kernel
theorem dX6_init_84 : decode cX6_init 84 = .ok (.putfield 49, 3) := by decide +kernel
theorem dX6_init_87 : decode cX6_init 87 = .ok (.return_, 1) := by decide +kernel
set_option maxRecDepth 20000 in
theorem ggX6_clear_J7_fill_53178 : GoodIn wsX6_clear wsJ7_fill_53178 := goodIn_r _ [9] (by decide +kernel) (by decide +kernel)
set_option maxRecDepth 20000 in
theorem gX6_clear_J7_fill_53178 : GoodIn wsX6_clear (va_wsS RX6 52 yJ7_fill_53178 wsJ7_fill_53178) := goodIn_app (goodIn_of _ (by decide +kernel)) ggX6_clear_J7_fill_53178
set_option maxRecDepth 20000 in
theorem ggX6_clear_X6_takeShape : GoodIn wsX6_clear wsX6_takeShape := goodIn_r _ [14, 15, 16, 17, 18, 19, 20, 21, 22, 23, 24, 25, 26, 27, 28, 29, 30, 31] (by decide +kernel) (by decide +kernel)
set_option maxRecDepth 20000 in
theorem gX6_clear_X6_takeShape : GoodIn wsX6_clear (wsV RX6 58 RX6 yX6_takeShape wsX6_takeShape) := goodIn_app (goodIn_of _ (by decide +kernel)) ggX6_clear_X6_takeShape
theorem dX6_clear_0 : decode cX6_clear 0 = .ok (.aload_n 0, 1) := by decide +kernel
theorem dX6_clear_1 : decode cX6_clear 1 = .ok (.getfield 9, 3) := by decide +kernel
theorem dX6_clear_4 : decode cX6_clear 4 = .ok (.iconst 0, 1) := by decide +kernel
theorem dX6_clear_5 : decode cX6_clear 5 = .ok (.invokestatic 52, 3) := by decide +kernel
theorem dX6_clear_8 : decode cX6_clear 8 = .ok (.aload_n 0, 1) := by decide +kernel
theorem dX6_clear_9 : decode cX6_clear 9 = .ok (.iconst 0, 1) := by decide +kernel
theorem dX6_clear_10 : decode cX6_clear 10 = .ok (.putfield 40, 3) := by decide +kernel
theorem dX6_clear_13 : decode cX6_clear 13 = .ok (.aload_n 0, 1) := by decide +kernel
theorem dX6_clear_14 : decode cX6_clear 14 = .ok (.iconst 0, 1) := by decide +kernel
theorem dX6_clear_15 : decode cX6_clear 15 = .ok (.putfield 43, 3) := by decide +kernel
theorem dX6_clear_18 : decode cX6_clear 18 = .ok (.aload_n 0, 1) := by decide +kernel
theorem dX6_clear_19 : decode cX6_clear 19 = .ok (.iconst 0, 1) := by decide +kernel
theorem dX6_clear_20 : decode cX6_clear 20 = .ok (.putfield 46, 3) := by decide +kernel
theorem dX6_clear_23 : decode cX6_clear 23 = .ok (.aload_n 0, 1) := by decide +kernel
theorem dX6_clear_24 : decode cX6_clear 24 = .ok (.iconst 0, 1) := by decide +kernel
theorem dX6_clear_25 : decode cX6_clear 25 = .ok (.putfield 49, 3) := by decide +kernel
theorem dX6_clear_28 : decode cX6_clear 28 = .ok (.aload_n 0, 1) := by decide +kernel
theorem dX6_clear_29 : decode cX6_clear 29 = .ok (.iconst 5, 1) := by decide +kernel
theorem dX6_clear_30 : decode cX6_clear 30 = .ok (.iconst 4, 1) := by decide +kernel
theorem dX6_clear_31 : decode cX6_clear 31 = .ok (.invokevirtual 58, 3) := by decide +kernel
theorem dX6_clear_34 : decode cX6_clear 34 = .ok (.pop, 1) := by decide +kernel
theorem dX6_clear_35 : decode cX6_clear 35 = .ok (.return_, 1) := by decide +kernel
theorem dX6_takeShape_0 : decode cX6_takeShape 0 = .ok (.iload_n 1, 1) := by decide +kernel
theorem dX6_takeShape_1 : decode cX6_takeShape 1 = .ok (.iconst 3, 1) := by decide +kernel
theorem dX6_takeShape_2 : decode cX6_takeShape 2 = .ok (.if_icmp .lt 18, 3) := by decide +kernel
theorem dX6_takeShape_5 : decode cX6_takeShape 5 = .ok (.iload_n 1, 1) := by decide +kernel
theorem dX6_takeShape_6 : decode cX6_takeShape 6 = .ok (.iconst 5, 1) := by decide +kernel
theorem dX6_takeShape_7 : decode cX6_takeShape 7 = .ok (.if_icmp .gt 13, 3) := by decide +kernel
theorem dX6_takeShape_10 : decode cX6_takeShape 10 = .ok (.iload_n 2, 1) := by decide +kernel
theorem dX6_takeShape_11 : decode cX6_takeShape 11 = .ok (.iconst 2, 1) := by decide +kernel
theorem dX6_takeShape_12 : decode cX6_takeShape 12 = .ok (.if_icmp .lt 8, 3) := by decide +kernel
theorem dX6_takeShape_15 : decode cX6_takeShape 15 = .ok (.iload_n 2, 1) := by decide +kernel
theorem dX6_takeShape_16 : decode cX6_takeShape 16 = .ok (.iconst 5, 1) := by decide +kernel
theorem dX6_takeShape_17 : decode cX6_takeShape 17 = .ok (.if_icmp .le 5, 3) := by decide +kernel
theorem dX6_takeShape_20 : decode cX6_takeShape 20 = .ok (.iconst 0, 1) := by decide +kernel
theorem dX6_takeShape_21 : decode cX6_takeShape 21 = .ok (.ireturn, 1) := by decide +kernel
theorem dX6_takeShape_22 : decode cX6_takeShape 22 = .ok (.aload_n 0, 1) := by decide +kernel
theorem dX6_takeShape_23 : decode cX6_takeShape 23 = .ok (.iload_n 2, 1) := by decide +kernel
theorem dX6_takeShape_24 : decode cX6_takeShape 24 = .ok (.putfield 33, 3) := by decide +kernel
theorem dX6_takeShape_27 : decode cX6_takeShape 27 = .ok (.aload_n 0, 1) := by decide +kernel
theorem dX6_takeShape_28 : decode cX6_takeShape 28 = .ok (.iload_n 1, 1) := by decide +kernel
theorem dX6_takeShape_29 : decode cX6_takeShape 29 = .ok (.iload_n 2, 1) := by decide +kernel
theorem dX6_takeShape_30 : decode cX6_takeShape 30 = .ok (.imul, 1) := by decide +kernel
theorem dX6_takeShape_31 : decode cX6_takeShape 31 = .ok (.putfield 37, 3) := by decide +kernel
theorem dX6_takeShape_34 : decode cX6_takeShape 34 = .ok (.iconst 0, 1) := by decide +kernel
theorem dX6_takeShape_35 : decode cX6_takeShape 35 = .ok (.istore_n 3, 1) := by decide +kernel
theorem dX6_takeShape_36 : decode cX6_takeShape 36 = .ok (.iconst 0, 1) := by decide +kernel
theorem dX6_takeShape_37 : decode cX6_takeShape 37 = .ok (.istore 4, 2) := by decide +kernel
theorem dX6_takeShape_39 : decode cX6_takeShape 39 = .ok (.iload 4, 2) := by decide +kernel
theorem dX6_takeShape_41 : decode cX6_takeShape 41 = .ok (.iload_n 1, 1) := by decide +kernel
theorem dX6_takeShape_42 : decode cX6_takeShape 42 = .ok (.if_icmp .ge 131, 3) := by decide +kernel
theorem dX6_takeShape_45 : decode cX6_takeShape 45 = .ok (.iconst 0, 1) := by decide +kernel
theorem dX6_takeShape_46 : decode cX6_takeShape 46 = .ok (.istore 5, 2) := by decide +kernel
theorem dX6_takeShape_48 : decode cX6_takeShape 48 = .ok (.iload 5, 2) := by decide +kernel
theorem dX6_takeShape_50 : decode cX6_takeShape 50 = .ok (.iload_n 2, 1) := by decide +kernel
theorem dX6_takeShape_51 : decode cX6_takeShape 51 = .ok (.if_icmp .ge 116, 3) := by decide +kernel
theorem dX6_takeShape_54 : decode cX6_takeShape 54 = .ok (.aload_n 0, 1) := by decide +kernel
theorem dX6_takeShape_55 : decode cX6_takeShape 55 = .ok (.getfield 15, 3) := by decide +kernel
theorem dX6_takeShape_58 : decode cX6_takeShape 58 = .ok (.iload_n 3, 1) := by decide +kernel
theorem dX6_takeShape_59 : decode cX6_takeShape 59 = .ok (.iload 5, 2) := by decide +kernel
theorem dX6_takeShape_61 : decode cX6_takeShape 61 = .ok (.iastore, 1) := by decide +kernel
theorem dX6_takeShape_62 : decode cX6_takeShape 62 = .ok (.aload_n 0, 1) := by decide +kernel
theorem dX6_takeShape_63 : decode cX6_takeShape 63 = .ok (.getfield 18, 3) := by decide +kernel
theorem dX6_takeShape_66 : decode cX6_takeShape 66 = .ok (.iload_n 3, 1) := by decide +kernel
theorem dX6_takeShape_67 : decode cX6_takeShape 67 = .ok (.iconst 4, 1) := by decide +kernel
theorem dX6_takeShape_68 : decode cX6_takeShape 68 = .ok (.imul, 1) := by decide +kernel
theorem dX6_takeShape_69 : decode cX6_takeShape 69 = .ok (.iload 4, 2) := by decide +kernel
theorem dX6_takeShape_71 : decode cX6_takeShape 71 = .ok (.ifCond .le 9, 3) := by decide +kernel
theorem dX6_takeShape_74 : decode cX6_takeShape 74 = .ok (.iload_n 3, 1) := by decide +kernel
theorem dX6_takeShape_75 : decode cX6_takeShape 75 = .ok (.iload_n 2, 1) := by decide +kernel
theorem dX6_takeShape_76 : decode cX6_takeShape 76 = .ok (.isub, 1) := by decide +kernel
theorem dX6_takeShape_77 : decode cX6_takeShape 77 = .ok (.goto 5, 3) := by decide +kernel
theorem dX6_takeShape_80 : decode cX6_takeShape 80 = .ok (.bipush (-4), 2) := by decide +kernel
theorem dX6_takeShape_82 : decode cX6_takeShape 82 = .ok (.iastore, 1) := by decide +kernel
theorem dX6_takeShape_83 : decode cX6_takeShape 83 = .ok (.aload_n 0, 1) := by decide +kernel
theorem dX6_takeShape_84 : decode cX6_takeShape 84 = .ok (.getfield 18, 3) := by decide +kernel
theorem dX6_takeShape_87 : decode cX6_takeShape 87 = .ok (.iload_n 3, 1) := by decide +kernel
theorem dX6_takeShape_88 : decode cX6_takeShape 88 = .ok (.iconst 4, 1) := by decide +kernel
theorem dX6_takeShape_89 : decode cX6_takeShape 89 = .ok (.imul, 1) := by decide +kernel
theorem dX6_takeShape_90 : decode cX6_takeShape 90 = .ok (.iconst 1, 1) := by decide +kernel
theorem dX6_takeShape_91 : decode cX6_takeShape 91 = .ok (.iadd, 1) := by decide +kernel
theorem dX6_takeShape_92 : decode cX6_takeShape 92 = .ok (.iload 5, 2) := by decide +kernel
theorem dX6_takeShape_94 : decode cX6_takeShape 94 = .ok (.ifCond .le 9, 3) := by decide +kernel
theorem dX6_takeShape_97 : decode cX6_takeShape 97 = .ok (.iload_n 3, 1) := by decide +kernel
theorem dX6_takeShape_98 : decode cX6_takeShape 98 = .ok (.iconst 1, 1) := by decide +kernel
theorem dX6_takeShape_99 : decode cX6_takeShape 99 = .ok (.isub, 1) := by decide +kernel
theorem dX6_takeShape_100 : decode cX6_takeShape 100 = .ok (.goto 5, 3) := by decide +kernel
theorem dX6_takeShape_103 : decode cX6_takeShape 103 = .ok (.bipush (-4), 2) := by decide +kernel
theorem dX6_takeShape_105 : decode cX6_takeShape 105 = .ok (.iastore, 1) := by decide +kernel
theorem dX6_takeShape_106 : decode cX6_takeShape 106 = .ok (.aload_n 0, 1) := by decide +kernel
theorem dX6_takeShape_107 : decode cX6_takeShape 107 = .ok (.getfield 18, 3) := by decide +kernel
theorem dX6_takeShape_110 : decode cX6_takeShape 110 = .ok (.iload_n 3, 1) := by decide +kernel
theorem dX6_takeShape_111 : decode cX6_takeShape 111 = .ok (.iconst 4, 1) := by decide +kernel
theorem dX6_takeShape_112 : decode cX6_takeShape 112 = .ok (.imul, 1) := by decide +kernel
theorem dX6_takeShape_113 : decode cX6_takeShape 113 = .ok (.iconst 2, 1) := by decide +kernel
theorem dX6_takeShape_114 : decode cX6_takeShape 114 = .ok (.iadd, 1) := by decide +kernel
theorem dX6_takeShape_115 : decode cX6_takeShape 115 = .ok (.iload 5, 2) := by decide +kernel
theorem dX6_takeShape_117 : decode cX6_takeShape 117 = .ok (.iload_n 2, 1) := by decide +kernel
theorem dX6_takeShape_118 : decode cX6_takeShape 118 = .ok (.iconst 1, 1) := by decide +kernel
theorem dX6_takeShape_119 : decode cX6_takeShape 119 = .ok (.isub, 1) := by decide +kernel
theorem dX6_takeShape_120 : decode cX6_takeShape 120 = .ok (.if_icmp .ge 9, 3) := by decide +kernel
theorem dX6_takeShape_123 : decode cX6_takeShape 123 = .ok (.iload_n 3, 1) := by decide +kernel
theorem dX6_takeShape_124 : decode cX6_takeShape 124 = .ok (.iconst 1, 1) := by decide +kernel
theorem dX6_takeShape_125 : decode cX6_takeShape 125 = .ok (.iadd, 1) := by decide +kernel
theorem dX6_takeShape_126 : decode cX6_takeShape 126 = .ok (.goto 5, 3) := by decide +kernel
theorem dX6_takeShape_129 : decode cX6_takeShape 129 = .ok (.bipush (-4), 2) := by decide +kernel
theorem dX6_takeShape_131 : decode cX6_takeShape 131 = .ok (.iastore, 1) := by decide +kernel
theorem dX6_takeShape_132 : decode cX6_takeShape 132 = .ok (.aload_n 0, 1) := by decide +kernel
theorem dX6_takeShape_133 : decode cX6_takeShape 133 = .ok (.getfield 18, 3) := by decide +kernel
theorem dX6_takeShape_136 : decode cX6_takeShape 136 = .ok (.iload_n 3, 1) := by decide +kernel
theorem dX6_takeShape_137 : decode cX6_takeShape 137 = .ok (.iconst 4, 1) := by decide +kernel
theorem dX6_takeShape_138 : decode cX6_takeShape 138 = .ok (.imul, 1) := by decide +kernel
theorem dX6_takeShape_139 : decode cX6_takeShape 139 = .ok (.iconst 3, 1) := by decide +kernel
theorem dX6_takeShape_140 : decode cX6_takeShape 140 = .ok (.iadd, 1) := by decide +kernel
theorem dX6_takeShape_141 : decode cX6_takeShape 141 = .ok (.iload 4, 2) := by decide +kernel
theorem dX6_takeShape_143 : decode cX6_takeShape 143 = .ok (.iload_n 1, 1) := by decide +kernel
theorem dX6_takeShape_144 : decode cX6_takeShape 144 = .ok (.iconst 1, 1) := by decide +kernel
theorem dX6_takeShape_145 : decode cX6_takeShape 145 = .ok (.isub, 1) := by decide +kernel
theorem dX6_takeShape_146 : decode cX6_takeShape 146 = .ok (.if_icmp .ge 9, 3) := by decide +kernel
theorem dX6_takeShape_149 : decode cX6_takeShape 149 = .ok (.iload_n 3, 1) := by decide +kernel
theorem dX6_takeShape_150 : decode cX6_takeShape 150 = .ok (.iload_n 2, 1) := by decide +kernel
theorem dX6_takeShape_151 : decode cX6_takeShape 151 = .ok (.iadd, 1) := by decide +kernel
theorem dX6_takeShape_152 : decode cX6_takeShape 152 = .ok (.goto 5, 3) := by decide +kernel
theorem dX6_takeShape_155 : decode cX6_takeShape 155 = .ok (.bipush (-4), 2) := by decide +kernel
theorem dX6_takeShape_157 : decode cX6_takeShape 157 = .ok (.iastore, 1) := by decide +kernel
theorem dX6_takeShape_158 : decode cX6_takeShape 158 = .ok (.iinc 3 1, 3) := by decide +kernel
theorem dX6_takeShape_161 : decode cX6_takeShape 161 = .ok (.iinc 5 1, 3) := by decide +kernel
theorem dX6_takeShape_164 : decode cX6_takeShape 164 = .ok (.goto (-116), 3) := by decide +kernel
theorem dX6_takeShape_167 : decode cX6_takeShape 167 = .ok (.iinc 4 1, 3) := by decide +kernel
theorem dX6_takeShape_170 : decode cX6_takeShape 170 = .ok (.goto (-131), 3) := by decide +kernel
theorem dX6_takeShape_173 : decode cX6_takeShape 173 = .ok (.iconst 1, 1) := by decide +kernel
theorem dX6_takeShape_174 : decode cX6_takeShape 174 = .ok (.ireturn, 1) := by decide +kernel
set_option maxRecDepth 20000 in
theorem ggX6_takeKind_X6_has : GoodIn wsX6_takeKind wsX6_has := goodIn_r _ [6, 7, 1, 8, 9, 10, 11, 12, 13, 14, 15, 16, 17, 18, 19, 20] (by decide +kernel) (by decide +kernel)
set_option maxRecDepth 20000 in
theorem gX6_takeKind_X6_has : GoodIn wsX6_takeKind (wsV RX6 62 RX6 yX6_has wsX6_has) := goodIn_app (goodIn_of _ (by decide +kernel)) ggX6_takeKind_X6_has
theorem dX6_takeKind_0 : decode cX6_takeKind 0 = .ok (.aload_n 0, 1) := by decide +kernel
theorem dX6_takeKind_1 : decode cX6_takeKind 1 = .ok (.iload_n 1, 1) := by decide +kernel
theorem dX6_takeKind_2 : decode cX6_takeKind 2 = .ok (.invokevirtual 62, 3) := by decide +kernel
theorem dX6_takeKind_5 : decode cX6_takeKind 5 = .ok (.ifCond .eq 12, 3) := by decide +kernel
theorem dX6_takeKind_8 : decode cX6_takeKind 8 = .ok (.iload_n 2, 1) := by decide +kernel
theorem dX6_takeKind_9 : decode cX6_takeKind 9 = .ok (.ifCond .lt 8, 3) := by decide +kernel
theorem dX6_takeKind_12 : decode cX6_takeKind 12 = .ok (.iload_n 2, 1) := by decide +kernel
theorem dX6_takeKind_13 : decode cX6_takeKind 13 = .ok (.iconst 4, 1) := by decide +kernel
theorem dX6_takeKind_14 : decode cX6_takeKind 14 = .ok (.if_icmp .le 5, 3) := by decide +kernel

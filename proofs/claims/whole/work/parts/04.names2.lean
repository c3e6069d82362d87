theorem dX6_takeKind_17 : decode cX6_takeKind 17 = .ok (.iconst 0, 1) := by decide +kernel
theorem dX6_takeKind_18 : decode cX6_takeKind 18 = .ok (.ireturn, 1) := by decide +kernel
theorem dX6_takeKind_19 : decode cX6_takeKind 19 = .ok (.aload_n 0, 1) := by decide +kernel
theorem dX6_takeKind_20 : decode cX6_takeKind 20 = .ok (.getfield 9, 3) := by decide +kernel
theorem dX6_takeKind_23 : decode cX6_takeKind 23 = .ok (.iload_n 1, 1) := by decide +kernel
theorem dX6_takeKind_24 : decode cX6_takeKind 24 = .ok (.iload_n 2, 1) := by decide +kernel
theorem dX6_takeKind_25 : decode cX6_takeKind 25 = .ok (.iastore, 1) := by decide +kernel
theorem dX6_takeKind_26 : decode cX6_takeKind 26 = .ok (.iconst 1, 1) := by decide +kernel
theorem dX6_takeKind_27 : decode cX6_takeKind 27 = .ok (.ireturn, 1) := by decide +kernel
theorem dX6_takeStart_0 : decode cX6_takeStart 0 = .ok (.iload_n 1, 1) := by decide +kernel
theorem dX6_takeStart_1 : decode cX6_takeStart 1 = .ok (.ifCond .lt 11, 3) := by decide +kernel
theorem dX6_takeStart_4 : decode cX6_takeStart 4 = .ok (.iload_n 1, 1) := by decide +kernel
theorem dX6_takeStart_5 : decode cX6_takeStart 5 = .ok (.aload_n 0, 1) := by decide +kernel
theorem dX6_takeStart_6 : decode cX6_takeStart 6 = .ok (.getfield 33, 3) := by decide +kernel
theorem dX6_takeStart_9 : decode cX6_takeStart 9 = .ok (.if_icmp .lt 5, 3) := by decide +kernel
theorem dX6_takeStart_12 : decode cX6_takeStart 12 = .ok (.iconst 0, 1) := by decide +kernel
theorem dX6_takeStart_13 : decode cX6_takeStart 13 = .ok (.ireturn, 1) := by decide +kernel
theorem dX6_takeStart_14 : decode cX6_takeStart 14 = .ok (.aload_n 0, 1) := by decide +kernel
theorem dX6_takeStart_15 : decode cX6_takeStart 15 = .ok (.iload_n 1, 1) := by decide +kernel
theorem dX6_takeStart_16 : decode cX6_takeStart 16 = .ok (.putfield 40, 3) := by decide +kernel
theorem dX6_takeStart_19 : decode cX6_takeStart 19 = .ok (.iconst 1, 1) := by decide +kernel
theorem dX6_takeStart_20 : decode cX6_takeStart 20 = .ok (.ireturn, 1) := by decide +kernel
theorem dX6_takeDamp_0 : decode cX6_takeDamp 0 = .ok (.iload_n 1, 1) := by decide +kernel
theorem dX6_takeDamp_1 : decode cX6_takeDamp 1 = .ok (.ifCond .lt 21, 3) := by decide +kernel
theorem dX6_takeDamp_4 : decode cX6_takeDamp 4 = .ok (.iload_n 1, 1) := by decide +kernel
theorem dX6_takeDamp_5 : decode cX6_takeDamp 5 = .ok (.bipush 9, 2) := by decide +kernel
theorem dX6_takeDamp_7 : decode cX6_takeDamp 7 = .ok (.if_icmp .gt 15, 3) := by decide +kernel
theorem dX6_takeDamp_10 : decode cX6_takeDamp 10 = .ok (.aload_n 0, 1) := by decide +kernel
theorem dX6_takeDamp_11 : decode cX6_takeDamp 11 = .ok (.getfield 43, 3) := by decide +kernel
theorem dX6_takeDamp_14 : decode cX6_takeDamp 14 = .ok (.aload_n 0, 1) := by decide +kernel
theorem dX6_takeDamp_15 : decode cX6_takeDamp 15 = .ok (.getfield 21, 3) := by decide +kernel
theorem dX6_takeDamp_18 : decode cX6_takeDamp 18 = .ok (.arraylength, 1) := by decide +kernel
theorem dX6_takeDamp_19 : decode cX6_takeDamp 19 = .ok (.if_icmp .lt 5, 3) := by decide +kernel
theorem dX6_takeDamp_22 : decode cX6_takeDamp 22 = .ok (.iconst 0, 1) := by decide +kernel
theorem dX6_takeDamp_23 : decode cX6_takeDamp 23 = .ok (.ireturn, 1) := by decide +kernel
theorem dX6_takeDamp_24 : decode cX6_takeDamp 24 = .ok (.aload_n 0, 1) := by decide +kernel
theorem dX6_takeDamp_25 : decode cX6_takeDamp 25 = .ok (.getfield 21, 3) := by decide +kernel
theorem dX6_takeDamp_28 : decode cX6_takeDamp 28 = .ok (.aload_n 0, 1) := by decide +kernel
theorem dX6_takeDamp_29 : decode cX6_takeDamp 29 = .ok (.getfield 43, 3) := by decide +kernel
theorem dX6_takeDamp_32 : decode cX6_takeDamp 32 = .ok (.iload_n 1, 1) := by decide +kernel
theorem dX6_takeDamp_33 : decode cX6_takeDamp 33 = .ok (.iastore, 1) := by decide +kernel
theorem dX6_takeDamp_34 : decode cX6_takeDamp 34 = .ok (.aload_n 0, 1) := by decide +kernel
theorem dX6_takeDamp_35 : decode cX6_takeDamp 35 = .ok (.dup, 1) := by decide +kernel
theorem dX6_takeDamp_36 : decode cX6_takeDamp 36 = .ok (.getfield 43, 3) := by decide +kernel
theorem dX6_takeDamp_39 : decode cX6_takeDamp 39 = .ok (.iconst 1, 1) := by decide +kernel
theorem dX6_takeDamp_40 : decode cX6_takeDamp 40 = .ok (.iadd, 1) := by decide +kernel
theorem dX6_takeDamp_41 : decode cX6_takeDamp 41 = .ok (.putfield 43, 3) := by decide +kernel
theorem dX6_takeDamp_44 : decode cX6_takeDamp 44 = .ok (.iconst 1, 1) := by decide +kernel
theorem dX6_takeDamp_45 : decode cX6_takeDamp 45 = .ok (.ireturn, 1) := by decide +kernel
theorem dX6_takeRent_0 : decode cX6_takeRent 0 = .ok (.iload_n 1, 1) := by decide +kernel
theorem dX6_takeRent_1 : decode cX6_takeRent 1 = .ok (.ifCond .lt 24, 3) := by decide +kernel
theorem dX6_takeRent_4 : decode cX6_takeRent 4 = .ok (.iload_n 1, 1) := by decide +kernel
theorem dX6_takeRent_5 : decode cX6_takeRent 5 = .ok (.bipush 60, 2) := by decide +kernel
theorem dX6_takeRent_7 : decode cX6_takeRent 7 = .ok (.if_icmp .gt 18, 3) := by decide +kernel
theorem dX6_takeRent_10 : decode cX6_takeRent 10 = .ok (.iload_n 2, 1) := by decide +kernel
theorem dX6_takeRent_11 : decode cX6_takeRent 11 = .ok (.iconst 1, 1) := by decide +kernel
theorem dX6_takeRent_12 : decode cX6_takeRent 12 = .ok (.if_icmp .lt 13, 3) := by decide +kernel
theorem dX6_takeRent_15 : decode cX6_takeRent 15 = .ok (.iload_n 2, 1) := by decide +kernel
theorem dX6_takeRent_16 : decode cX6_takeRent 16 = .ok (.bipush 99, 2) := by decide +kernel
theorem dX6_takeRent_18 : decode cX6_takeRent 18 = .ok (.if_icmp .gt 7, 3) := by decide +kernel
theorem dX6_takeRent_21 : decode cX6_takeRent 21 = .ok (.iconst 1, 1) := by decide +kernel
theorem dX6_takeRent_22 : decode cX6_takeRent 22 = .ok (.goto 4, 3) := by decide +kernel
theorem dX6_takeRent_25 : decode cX6_takeRent 25 = .ok (.iconst 0, 1) := by decide +kernel
theorem dX6_takeRent_26 : decode cX6_takeRent 26 = .ok (.istore_n 3, 1) := by decide +kernel
theorem dX6_takeRent_27 : decode cX6_takeRent 27 = .ok (.iload_n 3, 1) := by decide +kernel
theorem dX6_takeRent_28 : decode cX6_takeRent 28 = .ok (.ifCond .eq 15, 3) := by decide +kernel
theorem dX6_takeRent_31 : decode cX6_takeRent 31 = .ok (.aload_n 0, 1) := by decide +kernel
theorem dX6_takeRent_32 : decode cX6_takeRent 32 = .ok (.getfield 46, 3) := by decide +kernel
theorem dX6_takeRent_35 : decode cX6_takeRent 35 = .ok (.aload_n 0, 1) := by decide +kernel
theorem dX6_takeRent_36 : decode cX6_takeRent 36 = .ok (.getfield 27, 3) := by decide +kernel
theorem dX6_takeRent_39 : decode cX6_takeRent 39 = .ok (.arraylength, 1) := by decide +kernel
theorem dX6_takeRent_40 : decode cX6_takeRent 40 = .ok (.if_icmp .lt 5, 3) := by decide +kernel
theorem dX6_takeRent_43 : decode cX6_takeRent 43 = .ok (.iconst 0, 1) := by decide +kernel
theorem dX6_takeRent_44 : decode cX6_takeRent 44 = .ok (.ireturn, 1) := by decide +kernel
theorem dX6_takeRent_45 : decode cX6_takeRent 45 = .ok (.aload_n 0, 1) := by decide +kernel
theorem dX6_takeRent_46 : decode cX6_takeRent 46 = .ok (.getfield 24, 3) := by decide +kernel
theorem dX6_takeRent_49 : decode cX6_takeRent 49 = .ok (.aload_n 0, 1) := by decide +kernel
theorem dX6_takeRent_50 : decode cX6_takeRent 50 = .ok (.getfield 46, 3) := by decide +kernel
theorem dX6_takeRent_53 : decode cX6_takeRent 53 = .ok (.iload_n 1, 1) := by decide +kernel
theorem dX6_takeRent_54 : decode cX6_takeRent 54 = .ok (.iastore, 1) := by decide +kernel
theorem dX6_takeRent_55 : decode cX6_takeRent 55 = .ok (.aload_n 0, 1) := by decide +kernel
theorem dX6_takeRent_56 : decode cX6_takeRent 56 = .ok (.getfield 27, 3) := by decide +kernel
theorem dX6_takeRent_59 : decode cX6_takeRent 59 = .ok (.aload_n 0, 1) := by decide +kernel
theorem dX6_takeRent_60 : decode cX6_takeRent 60 = .ok (.getfield 46, 3) := by decide +kernel
theorem dX6_takeRent_63 : decode cX6_takeRent 63 = .ok (.iload_n 2, 1) := by decide +kernel
theorem dX6_takeRent_64 : decode cX6_takeRent 64 = .ok (.iastore, 1) := by decide +kernel
theorem dX6_takeRent_65 : decode cX6_takeRent 65 = .ok (.aload_n 0, 1) := by decide +kernel
theorem dX6_takeRent_66 : decode cX6_takeRent 66 = .ok (.dup, 1) := by decide +kernel
theorem dX6_takeRent_67 : decode cX6_takeRent 67 = .ok (.getfield 46, 3) := by decide +kernel
theorem dX6_takeRent_70 : decode cX6_takeRent 70 = .ok (.iconst 1, 1) := by decide +kernel
theorem dX6_takeRent_71 : decode cX6_takeRent 71 = .ok (.iadd, 1) := by decide +kernel
theorem dX6_takeRent_72 : decode cX6_takeRent 72 = .ok (.putfield 46, 3) := by decide +kernel
theorem dX6_takeRent_75 : decode cX6_takeRent 75 = .ok (.iconst 1, 1) := by decide +kernel
theorem dX6_takeRent_76 : decode cX6_takeRent 76 = .ok (.ireturn, 1) := by decide +kernel
theorem dX6_takeHeir_0 : decode cX6_takeHeir 0 = .ok (.iload_n 1, 1) := by decide +kernel
theorem dX6_takeHeir_1 : decode cX6_takeHeir 1 = .ok (.ifCond .lt 20, 3) := by decide +kernel
theorem dX6_takeHeir_4 : decode cX6_takeHeir 4 = .ok (.iload_n 1, 1) := by decide +kernel
theorem dX6_takeHeir_5 : decode cX6_takeHeir 5 = .ok (.iconst 4, 1) := by decide +kernel
theorem dX6_takeHeir_6 : decode cX6_takeHeir 6 = .ok (.if_icmp .gt 15, 3) := by decide +kernel
theorem dX6_takeHeir_9 : decode cX6_takeHeir 9 = .ok (.aload_n 0, 1) := by decide +kernel
theorem dX6_takeHeir_10 : decode cX6_takeHeir 10 = .ok (.getfield 49, 3) := by decide +kernel
theorem dX6_takeHeir_13 : decode cX6_takeHeir 13 = .ok (.aload_n 0, 1) := by decide +kernel
theorem dX6_takeHeir_14 : decode cX6_takeHeir 14 = .ok (.getfield 30, 3) := by decide +kernel
theorem dX6_takeHeir_17 : decode cX6_takeHeir 17 = .ok (.arraylength, 1) := by decide +kernel
theorem dX6_takeHeir_18 : decode cX6_takeHeir 18 = .ok (.if_icmp .lt 5, 3) := by decide +kernel
theorem dX6_takeHeir_21 : decode cX6_takeHeir 21 = .ok (.iconst 0, 1) := by decide +kernel
theorem dX6_takeHeir_22 : decode cX6_takeHeir 22 = .ok (.ireturn, 1) := by decide +kernel
theorem dX6_takeHeir_23 : decode cX6_takeHeir 23 = .ok (.aload_n 0, 1) := by decide +kernel
theorem dX6_takeHeir_24 : decode cX6_takeHeir 24 = .ok (.getfield 30, 3) := by decide +kernel
theorem dX6_takeHeir_27 : decode cX6_takeHeir 27 = .ok (.aload_n 0, 1) := by decide +kernel
theorem dX6_takeHeir_28 : decode cX6_takeHeir 28 = .ok (.getfield 49, 3) := by decide +kernel
theorem dX6_takeHeir_31 : decode cX6_takeHeir 31 = .ok (.iload_n 1, 1) := by decide +kernel
theorem dX6_takeHeir_32 : decode cX6_takeHeir 32 = .ok (.iastore, 1) := by decide +kernel
theorem dX6_takeHeir_33 : decode cX6_takeHeir 33 = .ok (.aload_n 0, 1) := by decide +kernel
theorem dX6_takeHeir_34 : decode cX6_takeHeir 34 = .ok (.dup, 1) := by decide +kernel
theorem dX6_takeHeir_35 : decode cX6_takeHeir 35 = .ok (.getfield 49, 3) := by decide +kernel
theorem dX6_takeHeir_38 : decode cX6_takeHeir 38 = .ok (.iconst 1, 1) := by decide +kernel
theorem dX6_takeHeir_39 : decode cX6_takeHeir 39 = .ok (.iadd, 1) := by decide +kernel
theorem dX6_takeHeir_40 : decode cX6_takeHeir 40 = .ok (.putfield 49, 3) := by decide +kernel
theorem dX6_takeHeir_43 : decode cX6_takeHeir 43 = .ok (.iconst 1, 1) := by decide +kernel
theorem dX6_takeHeir_44 : decode cX6_takeHeir 44 = .ok (.ireturn, 1) := by decide +kernel
set_option maxRecDepth 20000 in
theorem ggX6_letOff_X6_has : GoodIn wsX6_letOff wsX6_has := goodIn_r _ [7, 8, 2, 9, 10, 11, 12, 13, 14, 15, 16, 17, 18, 19, 20, 21] (by decide +kernel) (by decide +kernel)
set_option maxRecDepth 20000 in
theorem gX6_letOff_X6_has : GoodIn wsX6_letOff (wsV RX6 62 RX6 yX6_has wsX6_has) := goodIn_app (goodIn_of _ (by decide +kernel)) ggX6_letOff_X6_has
theorem dX6_letOff_0 : decode cX6_letOff 0 = .ok (.aload_n 0, 1) := by decide +kernel
theorem dX6_letOff_1 : decode cX6_letOff 1 = .ok (.aload_n 0, 1) := by decide +kernel
theorem dX6_letOff_2 : decode cX6_letOff 2 = .ok (.getfield 40, 3) := by decide +kernel
theorem dX6_letOff_5 : decode cX6_letOff 5 = .ok (.invokevirtual 62, 3) := by decide +kernel
theorem dX6_letOff_8 : decode cX6_letOff 8 = .ok (.ifCond .eq 13, 3) := by decide +kernel
theorem dX6_letOff_11 : decode cX6_letOff 11 = .ok (.aload_n 0, 1) := by decide +kernel
theorem dX6_letOff_12 : decode cX6_letOff 12 = .ok (.getfield 9, 3) := by decide +kernel
theorem dX6_letOff_15 : decode cX6_letOff 15 = .ok (.aload_n 0, 1) := by decide +kernel
theorem dX6_letOff_16 : decode cX6_letOff 16 = .ok (.getfield 40, 3) := by decide +kernel
theorem dX6_letOff_19 : decode cX6_letOff 19 = .ok (.iconst 0, 1) := by decide +kernel
theorem dX6_letOff_20 : decode cX6_letOff 20 = .ok (.iastore, 1) := by decide +kernel
theorem dX6_letOff_21 : decode cX6_letOff 21 = .ok (.return_, 1) := by decide +kernel
theorem dX6_has_0 : decode cX6_has 0 = .ok (.iload_n 1, 1) := by decide +kernel
theorem dX6_has_1 : decode cX6_has 1 = .ok (.ifCond .lt 24, 3) := by decide +kernel
theorem dX6_has_4 : decode cX6_has 4 = .ok (.iload_n 1, 1) := by decide +kernel
theorem dX6_has_5 : decode cX6_has 5 = .ok (.aload_n 0, 1) := by decide +kernel
theorem dX6_has_6 : decode cX6_has 6 = .ok (.getfield 37, 3) := by decide +kernel
theorem dX6_has_9 : decode cX6_has 9 = .ok (.if_icmp .ge 16, 3) := by decide +kernel
theorem dX6_has_12 : decode cX6_has 12 = .ok (.iload_n 1, 1) := by decide +kernel
theorem dX6_has_13 : decode cX6_has 13 = .ok (.aload_n 0, 1) := by decide +kernel
theorem dX6_has_14 : decode cX6_has 14 = .ok (.getfield 9, 3) := by decide +kernel
theorem dX6_has_17 : decode cX6_has 17 = .ok (.arraylength, 1) := by decide +kernel
theorem dX6_has_18 : decode cX6_has 18 = .ok (.if_icmp .ge 7, 3) := by decide +kernel
theorem dX6_has_21 : decode cX6_has 21 = .ok (.iconst 1, 1) := by decide +kernel
theorem dX6_has_22 : decode cX6_has 22 = .ok (.goto 4, 3) := by decide +kernel
theorem dX6_has_25 : decode cX6_has 25 = .ok (.iconst 0, 1) := by decide +kernel
theorem dX6_has_26 : decode cX6_has 26 = .ok (.ireturn, 1) := by decide +kernel
theorem dX6_isOfLine_0 : decode cX6_isOfLine 0 = .ok (.iload_n 1, 1) := by decide +kernel
theorem dX6_isOfLine_1 : decode cX6_isOfLine 1 = .ok (.aload_n 0, 1) := by decide +kernel
theorem dX6_isOfLine_2 : decode cX6_isOfLine 2 = .ok (.getfield 37, 3) := by decide +kernel
theorem dX6_isOfLine_5 : decode cX6_isOfLine 5 = .ok (.aload_n 0, 1) := by decide +kernel
theorem dX6_isOfLine_6 : decode cX6_isOfLine 6 = .ok (.getfield 33, 3) := by decide +kernel
theorem dX6_isOfLine_9 : decode cX6_isOfLine 9 = .ok (.isub, 1) := by decide +kernel
theorem dX6_isOfLine_10 : decode cX6_isOfLine 10 = .ok (.if_icmp .lt 15, 3) := by decide +kernel
theorem dX6_isOfLine_13 : decode cX6_isOfLine 13 = .ok (.iload_n 1, 1) := by decide +kernel
theorem dX6_isOfLine_14 : decode cX6_isOfLine 14 = .ok (.aload_n 0, 1) := by decide +kernel
theorem dX6_isOfLine_15 : decode cX6_isOfLine 15 = .ok (.getfield 37, 3) := by decide +kernel
theorem dX6_isOfLine_18 : decode cX6_isOfLine 18 = .ok (.if_icmp .ge 7, 3) := by decide +kernel
theorem dX6_isOfLine_21 : decode cX6_isOfLine 21 = .ok (.iconst 1, 1) := by decide +kernel
theorem dX6_isOfLine_22 : decode cX6_isOfLine 22 = .ok (.goto 4, 3) := by decide +kernel
theorem dX6_isOfLine_25 : decode cX6_isOfLine 25 = .ok (.iconst 0, 1) := by decide +kernel
theorem dX6_isOfLine_26 : decode cX6_isOfLine 26 = .ok (.ireturn, 1) := by decide +kernel
set_option maxRecDepth 20000 in
theorem ggX6_kindAt_X6_has : GoodIn wsX6_kindAt wsX6_has := goodIn_r _ [6, 7, 1, 8, 9, 10, 11, 12, 13, 14, 15, 16, 17, 18, 19, 20] (by decide +kernel) (by decide +kernel)
set_option maxRecDepth 20000 in
theorem gX6_kindAt_X6_has : GoodIn wsX6_kindAt (wsV RX6 62 RX6 yX6_has wsX6_has) := goodIn_app (goodIn_of _ (by decide +kernel)) ggX6_kindAt_X6_has
theorem dX6_kindAt_0 : decode cX6_kindAt 0 = .ok (.aload_n 0, 1) := by decide +kernel
theorem dX6_kindAt_1 : decode cX6_kindAt 1 = .ok (.iload_n 1, 1) := by decide +kernel
theorem dX6_kindAt_2 : decode cX6_kindAt 2 = .ok (.invokevirtual 62, 3) := by decide +kernel
theorem dX6_kindAt_5 : decode cX6_kindAt 5 = .ok (.ifCond .eq 12, 3) := by decide +kernel
theorem dX6_kindAt_8 : decode cX6_kindAt 8 = .ok (.aload_n 0, 1) := by decide +kernel
theorem dX6_kindAt_9 : decode cX6_kindAt 9 = .ok (.getfield 9, 3) := by decide +kernel
theorem dX6_kindAt_12 : decode cX6_kindAt 12 = .ok (.iload_n 1, 1) := by decide +kernel
theorem dX6_kindAt_13 : decode cX6_kindAt 13 = .ok (.iaload, 1) := by decide +kernel
theorem dX6_kindAt_14 : decode cX6_kindAt 14 = .ok (.goto 4, 3) := by decide +kernel
theorem dX6_kindAt_17 : decode cX6_kindAt 17 = .ok (.iconst 2, 1) := by decide +kernel
theorem dX6_kindAt_18 : decode cX6_kindAt 18 = .ok (.ireturn, 1) := by decide +kernel
set_option maxRecDepth 20000 in
theorem ggX6_columnOf_X6_has : GoodIn wsX6_columnOf wsX6_has := goodIn_r _ [6, 7, 8, 9, 10, 11, 12, 13, 14, 15, 16, 17, 18, 19, 20, 21] (by decide +kernel) (by decide +kernel)
set_option maxRecDepth 20000 in
theorem gX6_columnOf_X6_has : GoodIn wsX6_columnOf (wsV RX6 62 RX6 yX6_has wsX6_has) := goodIn_app (goodIn_of _ (by decide +kernel)) ggX6_columnOf_X6_has
theorem dX6_columnOf_0 : decode cX6_columnOf 0 = .ok (.aload_n 0, 1) := by decide +kernel
theorem dX6_columnOf_1 : decode cX6_columnOf 1 = .ok (.iload_n 1, 1) := by decide +kernel
theorem dX6_columnOf_2 : decode cX6_columnOf 2 = .ok (.invokevirtual 62, 3) := by decide +kernel
theorem dX6_columnOf_5 : decode cX6_columnOf 5 = .ok (.ifCond .eq 12, 3) := by decide +kernel
theorem dX6_columnOf_8 : decode cX6_columnOf 8 = .ok (.aload_n 0, 1) := by decide +kernel
theorem dX6_columnOf_9 : decode cX6_columnOf 9 = .ok (.getfield 15, 3) := by decide +kernel
theorem dX6_columnOf_12 : decode cX6_columnOf 12 = .ok (.iload_n 1, 1) := by decide +kernel
theorem dX6_columnOf_13 : decode cX6_columnOf 13 = .ok (.iaload, 1) := by decide +kernel
theorem dX6_columnOf_14 : decode cX6_columnOf 14 = .ok (.goto 4, 3) := by decide +kernel
theorem dX6_columnOf_17 : decode cX6_columnOf 17 = .ok (.iconst 0, 1) := by decide +kernel
theorem dX6_columnOf_18 : decode cX6_columnOf 18 = .ok (.ireturn, 1) := by decide +kernel
theorem dX6_besideAt_0 : decode cX6_besideAt 0 = .ok (.iload_n 1, 1) := by decide +kernel
theorem dX6_besideAt_1 : decode cX6_besideAt 1 = .ok (.ifCond .lt 22, 3) := by decide +kernel
theorem dX6_besideAt_4 : decode cX6_besideAt 4 = .ok (.iload_n 1, 1) := by decide +kernel
theorem dX6_besideAt_5 : decode cX6_besideAt 5 = .ok (.bipush 25, 2) := by decide +kernel
theorem dX6_besideAt_7 : decode cX6_besideAt 7 = .ok (.if_icmp .ge 16, 3) := by decide +kernel
theorem dX6_besideAt_10 : decode cX6_besideAt 10 = .ok (.iload_n 2, 1) := by decide +kernel
theorem dX6_besideAt_11 : decode cX6_besideAt 11 = .ok (.ifCond .lt 12, 3) := by decide +kernel
theorem dX6_besideAt_14 : decode cX6_besideAt 14 = .ok (.iload_n 2, 1) := by decide +kernel
theorem dX6_besideAt_15 : decode cX6_besideAt 15 = .ok (.iconst 4, 1) := by decide +kernel
theorem dX6_besideAt_16 : decode cX6_besideAt 16 = .ok (.if_icmp .ge 7, 3) := by decide +kernel
theorem dX6_besideAt_19 : decode cX6_besideAt 19 = .ok (.iconst 1, 1) := by decide +kernel
theorem dX6_besideAt_20 : decode cX6_besideAt 20 = .ok (.goto 4, 3) := by decide +kernel
theorem dX6_besideAt_23 : decode cX6_besideAt 23 = .ok (.iconst 0, 1) := by decide +kernel
theorem dX6_besideAt_24 : decode cX6_besideAt 24 = .ok (.istore_n 3, 1) := by decide +kernel
theorem dX6_besideAt_25 : decode cX6_besideAt 25 = .ok (.iload_n 3, 1) := by decide +kernel
theorem dX6_besideAt_26 : decode cX6_besideAt 26 = .ok (.ifCond .eq 16, 3) := by decide +kernel
theorem dX6_besideAt_29 : decode cX6_besideAt 29 = .ok (.aload_n 0, 1) := by decide +kernel
theorem dX6_besideAt_30 : decode cX6_besideAt 30 = .ok (.getfield 18, 3) := by decide +kernel
theorem dX6_besideAt_33 : decode cX6_besideAt 33 = .ok (.iload_n 1, 1) := by decide +kernel
theorem dX6_besideAt_34 : decode cX6_besideAt 34 = .ok (.iconst 4, 1) := by decide +kernel
theorem dX6_besideAt_35 : decode cX6_besideAt 35 = .ok (.imul, 1) := by decide +kernel
theorem dX6_besideAt_36 : decode cX6_besideAt 36 = .ok (.iload_n 2, 1) := by decide +kernel
theorem dX6_besideAt_37 : decode cX6_besideAt 37 = .ok (.iadd, 1) := by decide +kernel
theorem dX6_besideAt_38 : decode cX6_besideAt 38 = .ok (.iaload, 1) := by decide +kernel
theorem dX6_besideAt_39 : decode cX6_besideAt 39 = .ok (.goto 5, 3) := by decide +kernel
theorem dX6_besideAt_42 : decode cX6_besideAt 42 = .ok (.bipush (-4), 2) := by decide +kernel
theorem dX6_besideAt_44 : decode cX6_besideAt 44 = .ok (.ireturn, 1) := by decide +kernel
theorem dX6_dampOn_0 : decode cX6_dampOn 0 = .ok (.aload_n 0, 1) := by decide +kernel
theorem dX6_dampOn_1 : decode cX6_dampOn 1 = .ok (.getfield 43, 3) := by decide +kernel
theorem dX6_dampOn_4 : decode cX6_dampOn 4 = .ok (.ifCond .le 7, 3) := by decide +kernel
theorem dX6_dampOn_7 : decode cX6_dampOn 7 = .ok (.iload_n 1, 1) := by decide +kernel
theorem dX6_dampOn_8 : decode cX6_dampOn 8 = .ok (.ifCond .ge 5, 3) := by decide +kernel
theorem dX6_dampOn_11 : decode cX6_dampOn 11 = .ok (.iconst 3, 1) := by decide +kernel
theorem dX6_dampOn_12 : decode cX6_dampOn 12 = .ok (.ireturn, 1) := by decide +kernel
theorem dX6_dampOn_13 : decode cX6_dampOn 13 = .ok (.aload_n 0, 1) := by decide +kernel
theorem dX6_dampOn_14 : decode cX6_dampOn 14 = .ok (.getfield 21, 3) := by decide +kernel
theorem dX6_dampOn_17 : decode cX6_dampOn 17 = .ok (.iload_n 1, 1) := by decide +kernel
theorem dX6_dampOn_18 : decode cX6_dampOn 18 = .ok (.aload_n 0, 1) := by decide +kernel
theorem dX6_dampOn_19 : decode cX6_dampOn 19 = .ok (.getfield 43, 3) := by decide +kernel
theorem dX6_dampOn_22 : decode cX6_dampOn 22 = .ok (.irem, 1) := by decide +kernel
theorem dX6_dampOn_23 : decode cX6_dampOn 23 = .ok (.iaload, 1) := by decide +kernel
theorem dX6_dampOn_24 : decode cX6_dampOn 24 = .ok (.ireturn, 1) := by decide +kernel
theorem dX6_rentsTill_0 : decode cX6_rentsTill 0 = .ok (.iconst 0, 1) := by decide +kernel
theorem dX6_rentsTill_1 : decode cX6_rentsTill 1 = .ok (.istore_n 2, 1) := by decide +kernel
theorem dX6_rentsTill_2 : decode cX6_rentsTill 2 = .ok (.iconst 0, 1) := by decide +kernel
theorem dX6_rentsTill_3 : decode cX6_rentsTill 3 = .ok (.istore_n 3, 1) := by decide +kernel
theorem dX6_rentsTill_4 : decode cX6_rentsTill 4 = .ok (.iload_n 3, 1) := by decide +kernel
theorem dX6_rentsTill_5 : decode cX6_rentsTill 5 = .ok (.aload_n 0, 1) := by decide +kernel
theorem dX6_rentsTill_6 : decode cX6_rentsTill 6 = .ok (.getfield 46, 3) := by decide +kernel
theorem dX6_rentsTill_9 : decode cX6_rentsTill 9 = .ok (.if_icmp .ge 28, 3) := by decide +kernel
theorem dX6_rentsTill_12 : decode cX6_rentsTill 12 = .ok (.aload_n 0, 1) := by decide +kernel
theorem dX6_rentsTill_13 : decode cX6_rentsTill 13 = .ok (.getfield 24, 3) := by decide +kernel
theorem dX6_rentsTill_16 : decode cX6_rentsTill 16 = .ok (.iload_n 3, 1) := by decide +kernel
theorem dX6_rentsTill_17 : decode cX6_rentsTill 17 = .ok (.iaload, 1) := by decide +kernel
theorem dX6_rentsTill_18 : decode cX6_rentsTill 18 = .ok (.iload_n 1, 1) := by decide +kernel
theorem dX6_rentsTill_19 : decode cX6_rentsTill 19 = .ok (.if_icmp .gt 12, 3) := by decide +kernel
theorem dX6_rentsTill_22 : decode cX6_rentsTill 22 = .ok (.iload_n 2, 1) := by decide +kernel
theorem dX6_rentsTill_23 : decode cX6_rentsTill 23 = .ok (.aload_n 0, 1) := by decide +kernel
theorem dX6_rentsTill_24 : decode cX6_rentsTill 24 = .ok (.getfield 27, 3) := by decide +kernel
theorem dX6_rentsTill_27 : decode cX6_rentsTill 27 = .ok (.iload_n 3, 1) := by decide +kernel
theorem dX6_rentsTill_28 : decode cX6_rentsTill 28 = .ok (.iaload, 1) := by decide +kernel
theorem dX6_rentsTill_29 : decode cX6_rentsTill 29 = .ok (.iadd, 1) := by decide +kernel
theorem dX6_rentsTill_30 : decode cX6_rentsTill 30 = .ok (.istore_n 2, 1) := by decide +kernel
theorem dX6_rentsTill_31 : decode cX6_rentsTill 31 = .ok (.iinc 3 1, 3) := by decide +kernel
theorem dX6_rentsTill_34 : decode cX6_rentsTill 34 = .ok (.goto (-30), 3) := by decide +kernel
theorem dX6_rentsTill_37 : decode cX6_rentsTill 37 = .ok (.iload_n 2, 1) := by decide +kernel
theorem dX6_rentsTill_38 : decode cX6_rentsTill 38 = .ok (.ireturn, 1) := by decide +kernel
theorem dX6_heirNearest_0 : decode cX6_heirNearest 0 = .ok (.bipush (-4), 2) := by decide +kernel
theorem dX6_heirNearest_2 : decode cX6_heirNearest 2 = .ok (.istore_n 2, 1) := by decide +kernel
theorem dX6_heirNearest_3 : decode cX6_heirNearest 3 = .ok (.sipush 1000, 3) := by decide +kernel
theorem dX6_heirNearest_6 : decode cX6_heirNearest 6 = .ok (.istore_n 3, 1) := by decide +kernel
theorem dX6_heirNearest_7 : decode cX6_heirNearest 7 = .ok (.iconst 0, 1) := by decide +kernel
theorem dX6_heirNearest_8 : decode cX6_heirNearest 8 = .ok (.istore 4, 2) := by decide +kernel
theorem dX6_heirNearest_10 : decode cX6_heirNearest 10 = .ok (.iload 4, 2) := by decide +kernel
theorem dX6_heirNearest_12 : decode cX6_heirNearest 12 = .ok (.aload_n 0, 1) := by decide +kernel
theorem dX6_heirNearest_13 : decode cX6_heirNearest 13 = .ok (.getfield 49, 3) := by decide +kernel
theorem dX6_heirNearest_16 : decode cX6_heirNearest 16 = .ok (.if_icmp .ge 35, 3) := by decide +kernel
theorem dX6_heirNearest_19 : decode cX6_heirNearest 19 = .ok (.aload_n 0, 1) := by decide +kernel
theorem dX6_heirNearest_20 : decode cX6_heirNearest 20 = .ok (.getfield 30, 3) := by decide +kernel
theorem dX6_heirNearest_23 : decode cX6_heirNearest 23 = .ok (.iload 4, 2) := by decide +kernel
theorem dX6_heirNearest_25 : decode cX6_heirNearest 25 = .ok (.iaload, 1) := by decide +kernel
theorem dX6_heirNearest_26 : decode cX6_heirNearest 26 = .ok (.iload_n 1, 1) := by decide +kernel
theorem dX6_heirNearest_27 : decode cX6_heirNearest 27 = .ok (.isub, 1) := by decide +kernel
theorem dX6_heirNearest_28 : decode cX6_heirNearest 28 = .ok (.invokestatic 66, 3) := by decide +kernel
theorem dX6_heirNearest_31 : decode cX6_heirNearest 31 = .ok (.istore 5, 2) := by decide +kernel
theorem dX6_heirNearest_33 : decode cX6_heirNearest 33 = .ok (.iload 5, 2) := by decide +kernel
theorem dX6_heirNearest_35 : decode cX6_heirNearest 35 = .ok (.iload_n 3, 1) := by decide +kernel
theorem dX6_heirNearest_36 : decode cX6_heirNearest 36 = .ok (.if_icmp .ge 9, 3) := by decide +kernel
theorem dX6_heirNearest_39 : decode cX6_heirNearest 39 = .ok (.iload 5, 2) := by decide +kernel
theorem dX6_heirNearest_41 : decode cX6_heirNearest 41 = .ok (.istore_n 3, 1) := by decide +kernel
theorem dX6_heirNearest_42 : decode cX6_heirNearest 42 = .ok (.iload 4, 2) := by decide +kernel
theorem dX6_heirNearest_44 : decode cX6_heirNearest 44 = .ok (.istore_n 2, 1) := by decide +kernel
theorem dX6_heirNearest_45 : decode cX6_heirNearest 45 = .ok (.iinc 4 1, 3) := by decide +kernel
theorem dX6_heirNearest_48 : decode cX6_heirNearest 48 = .ok (.goto (-38), 3) := by decide +kernel
theorem dX6_heirNearest_51 : decode cX6_heirNearest 51 = .ok (.iload_n 2, 1) := by decide +kernel
theorem dX6_heirNearest_52 : decode cX6_heirNearest 52 = .ok (.ireturn, 1) := by decide +kernel
set_option maxRecDepth 20000 in
theorem ggX7_init_X0_init : GoodIn wsX7_init wsX0_init := goodIn_r _ [38, 39, 2, 3, 30, 40, 41, 237, 238] (by decide +kernel) (by decide +kernel)
set_option maxRecDepth 20000 in
theorem gX7_init_X0_init_n9 : GoodIn wsX7_init (wsX0_init) := ggX7_init_X0_init
set_option maxRecDepth 20000 in
theorem ggX7_init_X2_init : GoodIn wsX7_init wsX2_init := goodIn_r _ [44, 45, 2, 3, 46, 47, 48, 49, 50, 250, 251, 252, 253, 254] (by decide +kernel) (by decide +kernel)
set_option maxRecDepth 20000 in
theorem gX7_init_X2_init : GoodIn wsX7_init (wsX2_init) := ggX7_init_X2_init
set_option maxRecDepth 20000 in
theorem ggX7_init_X5_init : GoodIn wsX7_init wsX5_init := goodIn_r _ [52, 53, 2, 3, 30, 54, 55, 255, 256] (by decide +kernel) (by decide +kernel)
set_option maxRecDepth 20000 in
theorem gX7_init_X5_init_n27 : GoodIn wsX7_init (wsX5_init) := ggX7_init_X5_init
set_option maxRecDepth 20000 in
theorem ggX7_init_X3_init : GoodIn wsX7_init wsX3_init := goodIn_r _ [57, 58, 2, 3, 30, 59, 60, 61, 62, 257, 258, 259, 260] (by decide +kernel) (by decide +kernel)
set_option maxRecDepth 20000 in
theorem gX7_init_X3_init_n34 : GoodIn wsX7_init (wsX3_init) := ggX7_init_X3_init
set_option maxRecDepth 20000 in
theorem ggX7_init_X1_init : GoodIn wsX7_init wsX1_init := goodIn_r _ [65, 66, 2, 3, 67, 68, 69, 70, 71, 72, 30, 73, 261, 262, 263] (by decide +kernel) (by decide +kernel)
set_option maxRecDepth 20000 in
theorem gX7_init_X1_init : GoodIn wsX7_init (wsX1_init) := ggX7_init_X1_init
set_option maxRecDepth 20000 in
theorem ggX7_init_X4_init : GoodIn wsX7_init wsX4_init := goodIn_r _ [75, 76, 2, 3, 30, 77, 78, 79, 264, 265, 266] (by decide +kernel) (by decide +kernel)
set_option maxRecDepth 20000 in
theorem gX7_init_X4_init_n56 : GoodIn wsX7_init (wsX4_init) := ggX7_init_X4_init
set_option maxRecDepth 20000 in
theorem ggX7_init_X6_init : GoodIn wsX7_init wsX6_init := goodIn_r _ [81, 82, 2, 3, 30, 83, 84, 85, 86, 87, 88, 89, 90, 91, 92, 93, 94, 95, 267, 268, 269, 270, 271, 272, 273, 274, 275, 276, 277, 278, 279] (by decide +kernel) (by decide +kernel)
set_option maxRecDepth 20000 in
theorem gX7_init_X6_init_n67 : GoodIn wsX7_init (wsX6_init) := ggX7_init_X6_init
set_option maxRecDepth 20000 in
theorem ggX7_init_J0_length_8abf5 : GoodIn wsX7_init wsJ0_length_8abf5 := goodIn_r _ [100, 101, 102, 103, 104, 99, 105, 106, 107] (by decide +kernel) (by decide +kernel)
set_option maxRecDepth 20000 in
theorem gX7_init_J0_length_8abf5 : GoodIn wsX7_init (wsV RX7 77 RJ0 yJ0_length_8abf5 wsJ0_length_8abf5) := goodIn_app (goodIn_of _ (by decide +kernel)) ggX7_init_J0_length_8abf5
set_option maxRecDepth 20000 in
theorem ggX7_init_J0_charAt_5068e : GoodIn wsX7_init wsJ0_charAt_5068e := goodIn_r _ [111, 101, 112, 113, 114, 99, 115, 106, 107, 116, 117, 118, 119, 120, 121, 122, 123, 124, 125, 126, 127, 128, 129, 130, 131, 132, 133, 134, 135, 136, 137, 138, 139, 140, 141, 142, 143, 144] (by decide +kernel) (by decide +kernel)
set_option maxRecDepth 20000 in
theorem gX7_init_J0_charAt_5068e : GoodIn wsX7_init (wsV RX7 83 RJ0 yJ0_charAt_5068e wsJ0_charAt_5068e) := goodIn_app (goodIn_of _ (by decide +kernel)) ggX7_init_J0_charAt_5068e
set_option maxRecDepth 20000 in
theorem ggX7_init_X0_add : GoodIn wsX7_init wsX0_add := goodIn_r _ [148, 41, 40, 237, 238] (by decide +kernel) (by decide +kernel)
set_option maxRecDepth 20000 in
theorem gX7_init_X0_add : GoodIn wsX7_init (wsV RX7 87 RX0 yX0_add wsX0_add) := goodIn_app (goodIn_of _ (by decide +kernel)) ggX7_init_X0_add
set_option maxRecDepth 20000 in
theorem ggX7_init_X2_readInto : GoodIn wsX7_init wsX2_readInto := goodIn_r _ [152, 46, 49, 50, 153, 154, 155, 34, 156, 83, 92, 93, 94, 95, 157, 158, 159, 160, 161, 162, 163, 164, 90, 91, 84, 85, 165, 166, 167, 10, 168, 169, 170, 171, 6, 172, 41, 40, 173, 174, 175, 176, 47, 48, 177, 178, 179, 180, 181, 182, 183, 184, 185, 186, 187, 188, 189, 190, 191, 192, 193, 194, 195, 196, 197, 198, 199, 200, 201, 202, 203, 204, 88, 87, 205, 206, 207, 208, 209, 210, 211, 212, 213, 214, 215, 216, 217, 218, 219, 220, 86, 221, 222, 223, 224, 89, 225, 226, 227, 228, 250, 251, 252, 253, 254, 237, 238, 267, 268, 269, 270, 271, 272, 273, 274, 275, 276, 277, 278, 279] (by decide +kernel) (by decide +kernel)
set_option maxRecDepth 20000 in
theorem gX7_init_X2_readInto : GoodIn wsX7_init (wsV RX7 91 RX2 yX2_readInto wsX2_readInto) := goodIn_app (goodIn_of _ (by decide +kernel)) ggX7_init_X2_readInto
set_option maxRecDepth 20000 in
theorem ggX7_init_X3_setOut : GoodIn wsX7_init wsX3_setOut := goodIn_r _ [232, 59, 233, 234, 235, 236, 60, 61, 62, 267, 268, 269, 270, 271, 272, 273, 274, 275, 276, 277, 278, 279, 257, 258, 259, 260] (by decide +kernel) (by decide +kernel)
set_option maxRecDepth 20000 in
theorem gX7_init_X3_setOut : GoodIn wsX7_init (wsV RX7 98 RX3 yX3_setOut wsX3_setOut) := goodIn_app (goodIn_of _ (by decide +kernel)) ggX7_init_X3_setOut
theorem dX7_init_0 : decode cX7_init 0 = .ok (.aload_n 0, 1) := by decide +kernel
theorem dX7_init_1 : decode cX7_init 1 = .ok (.invokespecial 1, 3) := by decide +kernel
theorem dX7_init_4 : decode cX7_init 4 = .ok (.aload_n 0, 1) := by decide +kernel
theorem dX7_init_5 : decode cX7_init 5 = .ok (.new 7, 3) := by decide +kernel
theorem dX7_init_8 : decode cX7_init 8 = .ok (.dup, 1) := by decide +kernel
theorem dX7_init_9 : decode cX7_init 9 = .ok (.invokespecial 9, 3) := by decide +kernel
theorem dX7_init_12 : decode cX7_init 12 = .ok (.putfield 10, 3) := by decide +kernel
theorem dX7_init_15 : decode cX7_init 15 = .ok (.aload_n 0, 1) := by decide +kernel
theorem dX7_init_16 : decode cX7_init 16 = .ok (.new 16, 3) := by decide +kernel
theorem dX7_init_19 : decode cX7_init 19 = .ok (.dup, 1) := by decide +kernel
theorem dX7_init_20 : decode cX7_init 20 = .ok (.aload_n 0, 1) := by decide +kernel
theorem dX7_init_21 : decode cX7_init 21 = .ok (.getfield 10, 3) := by decide +kernel
theorem dX7_init_24 : decode cX7_init 24 = .ok (.invokespecial 18, 3) := by decide +kernel
theorem dX7_init_27 : decode cX7_init 27 = .ok (.putfield 21, 3) := by decide +kernel
theorem dX7_init_30 : decode cX7_init 30 = .ok (.aload_n 0, 1) := by decide +kernel
theorem dX7_init_31 : decode cX7_init 31 = .ok (.new 25, 3) := by decide +kernel
theorem dX7_init_34 : decode cX7_init 34 = .ok (.dup, 1) := by decide +kernel
theorem dX7_init_35 : decode cX7_init 35 = .ok (.invokespecial 27, 3) := by decide +kernel
theorem dX7_init_38 : decode cX7_init 38 = .ok (.putfield 28, 3) := by decide +kernel
theorem dX7_init_41 : decode cX7_init 41 = .ok (.aload_n 0, 1) := by decide +kernel
theorem dX7_init_42 : decode cX7_init 42 = .ok (.new 32, 3) := by decide +kernel
theorem dX7_init_45 : decode cX7_init 45 = .ok (.dup, 1) := by decide +kernel
theorem dX7_init_46 : decode cX7_init 46 = .ok (.invokespecial 34, 3) := by decide +kernel
theorem dX7_init_49 : decode cX7_init 49 = .ok (.putfield 35, 3) := by decide +kernel
theorem dX7_init_52 : decode cX7_init 52 = .ok (.aload_n 0, 1) := by decide +kernel
theorem dX7_init_53 : decode cX7_init 53 = .ok (.new 32, 3) := by decide +kernel
theorem dX7_init_56 : decode cX7_init 56 = .ok (.dup, 1) := by decide +kernel
theorem dX7_init_57 : decode cX7_init 57 = .ok (.invokespecial 34, 3) := by decide +kernel
theorem dX7_init_60 : decode cX7_init 60 = .ok (.putfield 39, 3) := by decide +kernel
theorem dX7_init_63 : decode cX7_init 63 = .ok (.aload_n 0, 1) := by decide +kernel
theorem dX7_init_64 : decode cX7_init 64 = .ok (.new 42, 3) := by decide +kernel
theorem dX7_init_67 : decode cX7_init 67 = .ok (.dup, 1) := by decide +kernel
theorem dX7_init_68 : decode cX7_init 68 = .ok (.bipush 8, 2) := by decide +kernel
theorem dX7_init_70 : decode cX7_init 70 = .ok (.invokespecial 44, 3) := by decide +kernel
theorem dX7_init_73 : decode cX7_init 73 = .ok (.putfield 47, 3) := by decide +kernel
theorem dX7_init_76 : decode cX7_init 76 = .ok (.aload_n 0, 1) := by decide +kernel
theorem dX7_init_77 : decode cX7_init 77 = .ok (.new 42, 3) := by decide +kernel
theorem dX7_init_80 : decode cX7_init 80 = .ok (.dup, 1) := by decide +kernel
theorem dX7_init_81 : decode cX7_init 81 = .ok (.iconst 2, 1) := by decide +kernel
theorem dX7_init_82 : decode cX7_init 82 = .ok (.invokespecial 44, 3) := by decide +kernel
theorem dX7_init_85 : decode cX7_init 85 = .ok (.putfield 51, 3) := by decide +kernel
theorem dX7_init_88 : decode cX7_init 88 = .ok (.aload_n 0, 1) := by decide +kernel
theorem dX7_init_89 : decode cX7_init 89 = .ok (.new 54, 3) := by decide +kernel
theorem dX7_init_92 : decode cX7_init 92 = .ok (.dup, 1) := by decide +kernel
theorem dX7_init_93 : decode cX7_init 93 = .ok (.invokespecial 56, 3) := by decide +kernel
theorem dX7_init_96 : decode cX7_init 96 = .ok (.putfield 57, 3) := by decide +kernel
theorem dX7_init_99 : decode cX7_init 99 = .ok (.aload_n 0, 1) := by decide +kernel
theorem dX7_init_100 : decode cX7_init 100 = .ok (.iconst 2, 1) := by decide +kernel
theorem dX7_init_101 : decode cX7_init 101 = .ok (.newarray .int, 2) := by decide +kernel
theorem dX7_init_103 : decode cX7_init 103 = .ok (.putfield 61, 3) := by decide +kernel
theorem dX7_init_106 : decode cX7_init 106 = .ok (.aload_n 0, 1) := by decide +kernel
theorem dX7_init_107 : decode cX7_init 107 = .ok (.new 65, 3) := by decide +kernel
theorem dX7_init_110 : decode cX7_init 110 = .ok (.dup, 1) := by decide +kernel
theorem dX7_init_111 : decode cX7_init 111 = .ok (.invokespecial 67, 3) := by decide +kernel
theorem dX7_init_114 : decode cX7_init 114 = .ok (.putfield 68, 3) := by decide +kernel
theorem dX7_init_117 : decode cX7_init 117 = .ok (.aload_n 0, 1) := by decide +kernel
theorem dX7_init_118 : decode cX7_init 118 = .ok (.new 65, 3) := by decide +kernel
theorem dX7_init_121 : decode cX7_init 121 = .ok (.dup, 1) := by decide +kernel
theorem dX7_init_122 : decode cX7_init 122 = .ok (.invokespecial 67, 3) := by decide +kernel
theorem dX7_init_125 : decode cX7_init 125 = .ok (.putfield 72, 3) := by decide +kernel
theorem dX7_init_128 : decode cX7_init 128 = .ok (.iconst 0, 1) := by decide +kernel
theorem dX7_init_129 : decode cX7_init 129 = .ok (.istore_n 1, 1) := by decide +kernel
theorem dX7_init_130 : decode cX7_init 130 = .ok (.iload_n 1, 1) := by decide +kernel
theorem dX7_init_131 : decode cX7_init 131 = .ok (.ldc 75, 2) := by decide +kernel
theorem dX7_init_133 : decode cX7_init 133 = .ok (.invokevirtual 77, 3) := by decide +kernel
theorem dX7_init_136 : decode cX7_init 136 = .ok (.if_icmp .ge 23, 3) := by decide +kernel
theorem dX7_init_139 : decode cX7_init 139 = .ok (.aload_n 0, 1) := by decide +kernel
theorem dX7_init_140 : decode cX7_init 140 = .ok (.getfield 10, 3) := by decide +kernel
theorem dX7_init_143 : decode cX7_init 143 = .ok (.ldc 75, 2) := by decide +kernel
theorem dX7_init_145 : decode cX7_init 145 = .ok (.iload_n 1, 1) := by decide +kernel
theorem dX7_init_146 : decode cX7_init 146 = .ok (.invokevirtual 83, 3) := by decide +kernel
theorem dX7_init_149 : decode cX7_init 149 = .ok (.invokevirtual 87, 3) := by decide +kernel
theorem dX7_init_152 : decode cX7_init 152 = .ok (.pop, 1) := by decide +kernel
theorem dX7_init_153 : decode cX7_init 153 = .ok (.iinc 1 1, 3) := by decide +kernel
theorem dX7_init_156 : decode cX7_init 156 = .ok (.goto (-26), 3) := by decide +kernel
theorem dX7_init_159 : decode cX7_init 159 = .ok (.aload_n 0, 1) := by decide +kernel
theorem dX7_init_160 : decode cX7_init 160 = .ok (.getfield 21, 3) := by decide +kernel
theorem dX7_init_163 : decode cX7_init 163 = .ok (.aload_n 0, 1) := by decide +kernel
theorem dX7_init_164 : decode cX7_init 164 = .ok (.getfield 68, 3) := by decide +kernel
theorem dX7_init_167 : decode cX7_init 167 = .ok (.invokevirtual 91, 3) := by decide +kernel
theorem dX7_init_170 : decode cX7_init 170 = .ok (.pop, 1) := by decide +kernel
theorem dX7_init_171 : decode cX7_init 171 = .ok (.aload_n 0, 1) := by decide +kernel
theorem dX7_init_172 : decode cX7_init 172 = .ok (.getfield 10, 3) := by decide +kernel
theorem dX7_init_175 : decode cX7_init 175 = .ok (.iconst 0, 1) := by decide +kernel
theorem dX7_init_176 : decode cX7_init 176 = .ok (.putfield 95, 3) := by decide +kernel
theorem dX7_init_179 : decode cX7_init 179 = .ok (.aload_n 0, 1) := by decide +kernel
theorem dX7_init_180 : decode cX7_init 180 = .ok (.getfield 35, 3) := by decide +kernel
theorem dX7_init_183 : decode cX7_init 183 = .ok (.aload_n 0, 1) := by decide +kernel
theorem dX7_init_184 : decode cX7_init 184 = .ok (.getfield 68, 3) := by decide +kernel
theorem dX7_init_187 : decode cX7_init 187 = .ok (.invokevirtual 98, 3) := by decide +kernel
theorem dX7_init_190 : decode cX7_init 190 = .ok (.return_, 1) := by decide +kernel
set_option maxRecDepth 20000 in
theorem ggX7_write_X0_add : GoodIn wsX7_write wsX0_add := goodIn_r _ [6, 7, 8, 20, 21] (by decide +kernel) (by decide +kernel)
set_option maxRecDepth 20000 in
theorem gX7_write_X0_add : GoodIn wsX7_write (wsV RX7 87 RX0 yX0_add wsX0_add) := goodIn_app (goodIn_of _ (by decide +kernel)) ggX7_write_X0_add
theorem dX7_write_0 : decode cX7_write 0 = .ok (.iload_n 1, 1) := by decide +kernel
theorem dX7_write_1 : decode cX7_write 1 = .ok (.bipush 32, 2) := by decide +kernel
theorem dX7_write_3 : decode cX7_write 3 = .ok (.if_icmp .lt 9, 3) := by decide +kernel
theorem dX7_write_6 : decode cX7_write 6 = .ok (.iload_n 1, 1) := by decide +kernel
theorem dX7_write_7 : decode cX7_write 7 = .ok (.bipush 126, 2) := by decide +kernel
theorem dX7_write_9 : decode cX7_write 9 = .ok (.if_icmp .le 5, 3) := by decide +kernel
theorem dX7_write_12 : decode cX7_write 12 = .ok (.iconst (-1), 1) := by decide +kernel
theorem dX7_write_13 : decode cX7_write 13 = .ok (.ireturn, 1) := by decide +kernel
theorem dX7_write_14 : decode cX7_write 14 = .ok (.aload_n 0, 1) := by decide +kernel
theorem dX7_write_15 : decode cX7_write 15 = .ok (.getfield 10, 3) := by decide +kernel
theorem dX7_write_18 : decode cX7_write 18 = .ok (.iload_n 1, 1) := by decide +kernel
theorem dX7_write_19 : decode cX7_write 19 = .ok (.invokevirtual 87, 3) := by decide +kernel
theorem dX7_write_22 : decode cX7_write 22 = .ok (.ifCond .eq 13, 3) := by decide +kernel
theorem dX7_write_25 : decode cX7_write 25 = .ok (.aload_n 0, 1) := by decide +kernel
theorem dX7_write_26 : decode cX7_write 26 = .ok (.getfield 10, 3) := by decide +kernel
theorem dX7_write_29 : decode cX7_write 29 = .ok (.getfield 95, 3) := by decide +kernel
theorem dX7_write_32 : decode cX7_write 32 = .ok (.goto 5, 3) := by decide +kernel
theorem dX7_write_35 : decode cX7_write 35 = .ok (.bipush (-3), 2) := by decide +kernel
theorem dX7_write_37 : decode cX7_write 37 = .ok (.ireturn, 1) := by decide +kernel
theorem dX7_wipe_0 : decode cX7_wipe 0 = .ok (.aload_n 0, 1) := by decide +kernel
theorem dX7_wipe_1 : decode cX7_wipe 1 = .ok (.getfield 10, 3) := by decide +kernel
theorem dX7_wipe_4 : decode cX7_wipe 4 = .ok (.getfield 95, 3) := by decide +kernel
theorem dX7_wipe_7 : decode cX7_wipe 7 = .ok (.istore_n 1, 1) := by decide +kernel
theorem dX7_wipe_8 : decode cX7_wipe 8 = .ok (.aload_n 0, 1) := by decide +kernel
theorem dX7_wipe_9 : decode cX7_wipe 9 = .ok (.getfield 10, 3) := by decide +kernel
theorem dX7_wipe_12 : decode cX7_wipe 12 = .ok (.iconst 0, 1) := by decide +kernel
theorem dX7_wipe_13 : decode cX7_wipe 13 = .ok (.putfield 95, 3) := by decide +kernel
theorem dX7_wipe_16 : decode cX7_wipe 16 = .ok (.iload_n 1, 1) := by decide +kernel
theorem dX7_wipe_17 : decode cX7_wipe 17 = .ok (.ireturn, 1) := by decide +kernel
set_option maxRecDepth 20000 in
theorem ggX7_fault_X2_readInto : GoodIn wsX7_fault wsX2_readInto := goodIn_r _ [7, 8, 9, 10, 11, 12, 13, 14, 15, 16, 17, 18, 19, 20, 21, 22, 23, 24, 25, 26, 27, 28, 29, 30, 31, 32, 33, 34, 35, 6, 36, 37, 38, 39, 40, 41, 42, 43, 44, 45, 46, 47, 48, 49, 50, 51, 52, 53, 54, 55, 56, 57, 58, 59, 60, 61, 62, 63, 64, 65, 66, 67, 68, 69, 70, 71, 72, 73, 74, 75, 76, 77, 78, 79, 80, 81, 82, 83, 84, 85, 86, 87, 88, 89, 90, 91, 92, 93, 94, 95, 96, 97, 98, 99, 100, 101, 102, 103, 104, 105, 117, 118, 119, 120, 121, 122, 123, 124, 125, 126, 127, 128, 129, 130, 131, 132, 133, 134, 135, 136] (by decide +kernel) (by decide +kernel)
set_option maxRecDepth 20000 in
theorem gX7_fault_X2_readInto : GoodIn wsX7_fault (wsV RX7 91 RX2 yX2_readInto wsX2_readInto) := goodIn_app (goodIn_of _ (by decide +kernel)) ggX7_fault_X2_readInto
theorem dX7_fault_0 : decode cX7_fault 0 = .ok (.aload_n 0, 1) := by decide +kernel
theorem dX7_fault_1 : decode cX7_fault 1 = .ok (.getfield 21, 3) := by decide +kernel
theorem dX7_fault_4 : decode cX7_fault 4 = .ok (.aload_n 0, 1) := by decide +kernel
theorem dX7_fault_5 : decode cX7_fault 5 = .ok (.getfield 72, 3) := by decide +kernel
theorem dX7_fault_8 : decode cX7_fault 8 = .ok (.invokevirtual 91, 3) := by decide +kernel
theorem dX7_fault_11 : decode cX7_fault 11 = .ok (.ireturn, 1) := by decide +kernel
set_option maxRecDepth 20000 in
theorem ggX7_lay_X2_readInto : GoodIn wsX7_lay wsX2_readInto := goodIn_r _ [13, 14, 15, 16, 17, 18, 19, 20, 21, 22, 23, 24, 25, 26, 27, 28, 29, 30, 31, 32, 33, 34, 35, 36, 37, 38, 39, 40, 41, 12, 42, 43, 44, 45, 46, 47, 48, 49, 50, 51, 52, 53, 54, 55, 56, 57, 58, 59, 60, 61, 62, 63, 64, 65, 66, 67, 68, 69, 70, 71, 72, 73, 74, 75, 76, 77, 78, 79, 80, 81, 82, 83, 84, 85, 86, 87, 88, 89, 90, 91, 92, 93, 94, 95, 96, 97, 98, 99, 100, 101, 102, 103, 104, 105, 106, 107, 108, 109, 110, 111, 157, 158, 159, 160, 161, 136, 137, 144, 145, 146, 147, 148, 149, 150, 151, 152, 153, 154, 155, 156] (by decide +kernel) (by decide +kernel)
set_option maxRecDepth 20000 in
theorem gX7_lay_X2_readInto : GoodIn wsX7_lay (wsV RX7 91 RX2 yX2_readInto wsX2_readInto) := goodIn_app (goodIn_of _ (by decide +kernel)) ggX7_lay_X2_readInto
set_option maxRecDepth 20000 in
theorem ggX7_lay_X3_setOut : GoodIn wsX7_lay wsX3_setOut := goodIn_r _ [116, 117, 118, 119, 120, 121, 122, 123, 124, 144, 145, 146, 147, 148, 149, 150, 151, 152, 153, 154, 155, 156, 162, 163, 164, 165] (by decide +kernel) (by decide +kernel)
set_option maxRecDepth 20000 in
theorem gX7_lay_X3_setOut : GoodIn wsX7_lay (wsV RX7 98 RX3 yX3_setOut wsX3_setOut) := goodIn_app (goodIn_of _ (by decide +kernel)) ggX7_lay_X3_setOut
theorem dX7_lay_0 : decode cX7_lay 0 = .ok (.aload_n 0, 1) := by decide +kernel
theorem dX7_lay_1 : decode cX7_lay 1 = .ok (.getfield 10, 3) := by decide +kernel
theorem dX7_lay_4 : decode cX7_lay 4 = .ok (.getfield 95, 3) := by decide +kernel
theorem dX7_lay_7 : decode cX7_lay 7 = .ok (.ifCond .eq 19, 3) := by decide +kernel
theorem dX7_lay_10 : decode cX7_lay 10 = .ok (.aload_n 0, 1) := by decide +kernel
theorem dX7_lay_11 : decode cX7_lay 11 = .ok (.getfield 21, 3) := by decide +kernel
theorem dX7_lay_14 : decode cX7_lay 14 = .ok (.aload_n 0, 1) := by decide +kernel
theorem dX7_lay_15 : decode cX7_lay 15 = .ok (.getfield 72, 3) := by decide +kernel
theorem dX7_lay_18 : decode cX7_lay 18 = .ok (.invokevirtual 91, 3) := by decide +kernel
theorem dX7_lay_21 : decode cX7_lay 21 = .ok (.bipush (-4), 2) := by decide +kernel
theorem dX7_lay_23 : decode cX7_lay 23 = .ok (.if_icmp .eq 6, 3) := by decide +kernel
theorem dX7_lay_26 : decode cX7_lay 26 = .ok (.bipush (-2), 2) := by decide +kernel
theorem dX7_lay_28 : decode cX7_lay 28 = .ok (.ireturn, 1) := by decide +kernel
theorem dX7_lay_29 : decode cX7_lay 29 = .ok (.aload_n 0, 1) := by decide +kernel
theorem dX7_lay_30 : decode cX7_lay 30 = .ok (.getfield 68, 3) := by decide +kernel
theorem dX7_lay_33 : decode cX7_lay 33 = .ok (.astore_n 1, 1) := by decide +kernel
theorem dX7_lay_34 : decode cX7_lay 34 = .ok (.aload_n 0, 1) := by decide +kernel
theorem dX7_lay_35 : decode cX7_lay 35 = .ok (.aload_n 0, 1) := by decide +kernel
theorem dX7_lay_36 : decode cX7_lay 36 = .ok (.getfield 72, 3) := by decide +kernel
theorem dX7_lay_39 : decode cX7_lay 39 = .ok (.putfield 68, 3) := by decide +kernel
theorem dX7_lay_42 : decode cX7_lay 42 = .ok (.aload_n 0, 1) := by decide +kernel
theorem dX7_lay_43 : decode cX7_lay 43 = .ok (.aload_n 1, 1) := by decide +kernel
theorem dX7_lay_44 : decode cX7_lay 44 = .ok (.putfield 72, 3) := by decide +kernel
theorem dX7_lay_47 : decode cX7_lay 47 = .ok (.aload_n 0, 1) := by decide +kernel
theorem dX7_lay_48 : decode cX7_lay 48 = .ok (.getfield 35, 3) := by decide +kernel
theorem dX7_lay_51 : decode cX7_lay 51 = .ok (.aload_n 0, 1) := by decide +kernel
theorem dX7_lay_52 : decode cX7_lay 52 = .ok (.getfield 68, 3) := by decide +kernel
theorem dX7_lay_55 : decode cX7_lay 55 = .ok (.invokevirtual 98, 3) := by decide +kernel
theorem dX7_lay_58 : decode cX7_lay 58 = .ok (.aload_n 0, 1) := by decide +kernel
theorem dX7_lay_59 : decode cX7_lay 59 = .ok (.getfield 57, 3) := by decide +kernel
theorem dX7_lay_62 : decode cX7_lay 62 = .ok (.iconst 0, 1) := by decide +kernel
theorem dX7_lay_63 : decode cX7_lay 63 = .ok (.putfield 102, 3) := by decide +kernel
theorem dX7_lay_66 : decode cX7_lay 66 = .ok (.aload_n 0, 1) := by decide +kernel
theorem dX7_lay_67 : decode cX7_lay 67 = .ok (.getfield 47, 3) := by decide +kernel
theorem dX7_lay_70 : decode cX7_lay 70 = .ok (.iconst 0, 1) := by decide +kernel
theorem dX7_lay_71 : decode cX7_lay 71 = .ok (.putfield 105, 3) := by decide +kernel
theorem dX7_lay_74 : decode cX7_lay 74 = .ok (.aload_n 0, 1) := by decide +kernel
theorem dX7_lay_75 : decode cX7_lay 75 = .ok (.getfield 51, 3) := by decide +kernel
theorem dX7_lay_78 : decode cX7_lay 78 = .ok (.iconst 0, 1) := by decide +kernel
theorem dX7_lay_79 : decode cX7_lay 79 = .ok (.putfield 105, 3) := by decide +kernel
theorem dX7_lay_82 : decode cX7_lay 82 = .ok (.aload_n 0, 1) := by decide +kernel
theorem dX7_lay_83 : decode cX7_lay 83 = .ok (.getfield 68, 3) := by decide +kernel
theorem dX7_lay_86 : decode cX7_lay 86 = .ok (.getfield 106, 3) := by decide +kernel
theorem dX7_lay_89 : decode cX7_lay 89 = .ok (.ireturn, 1) := by decide +kernel
set_option maxRecDepth 20000 in
theorem ggX7_cell_X6_has : GoodIn wsX7_cell wsX6_has := goodIn_r _ [7, 8, 9, 41, 42, 43, 44, 45, 46, 47, 48, 49, 50, 51, 52, 53] (by decide +kernel) (by decide +kernel)
set_option maxRecDepth 20000 in
theorem gX7_cell_X6_has : GoodIn wsX7_cell (wsV RX7 109 RX6 yX6_has wsX6_has) := goodIn_app (goodIn_of _ (by decide +kernel)) ggX7_cell_X6_has
set_option maxRecDepth 20000 in
theorem ggX7_cell_X3_kindAt : GoodIn wsX7_cell wsX3_kindAt := goodIn_r _ [14, 15, 37, 38, 39, 40] (by decide +kernel) (by decide +kernel)
set_option maxRecDepth 20000 in
theorem gX7_cell_X3_kindAt : GoodIn wsX7_cell (wsV RX7 112 RX3 yX3_kindAt wsX3_kindAt) := goodIn_app (goodIn_of _ (by decide +kernel)) ggX7_cell_X3_kindAt
set_option maxRecDepth 20000 in
theorem ggX7_cell_X6_dampOn : GoodIn wsX7_cell wsX6_dampOn := goodIn_r _ [19, 20, 21, 41, 42, 43, 44, 45, 46, 47, 48, 49, 50, 51, 52, 53] (by decide +kernel) (by decide +kernel)
set_option maxRecDepth 20000 in
theorem gX7_cell_X6_dampOn : GoodIn wsX7_cell (wsV RX7 119 RX6 yX6_dampOn wsX6_dampOn) := goodIn_app (goodIn_of _ (by decide +kernel)) ggX7_cell_X6_dampOn
set_option maxRecDepth 20000 in
theorem ggX7_cell_X7_stepsInto : GoodIn wsX7_cell wsX7_stepsInto := goodIn_r _ [25] (by decide +kernel) (by decide +kernel)
set_option maxRecDepth 20000 in
theorem gX7_cell_X7_stepsInto : GoodIn wsX7_cell (va_wsS RX7 122 yX7_stepsInto wsX7_stepsInto) := goodIn_app (goodIn_of _ (by decide +kernel)) ggX7_cell_X7_stepsInto
theorem dX7_cell_0 : decode cX7_cell 0 = .ok (.aload_n 0, 1) := by decide +kernel
theorem dX7_cell_1 : decode cX7_cell 1 = .ok (.getfield 68, 3) := by decide +kernel
theorem dX7_cell_4 : decode cX7_cell 4 = .ok (.iload_n 1, 1) := by decide +kernel
theorem dX7_cell_5 : decode cX7_cell 5 = .ok (.invokevirtual 109, 3) := by decide +kernel
theorem dX7_cell_8 : decode cX7_cell 8 = .ok (.ifCond .eq 12, 3) := by decide +kernel
theorem dX7_cell_11 : decode cX7_cell 11 = .ok (.iload_n 2, 1) := by decide +kernel
theorem dX7_cell_12 : decode cX7_cell 12 = .ok (.ifCond .lt 8, 3) := by decide +kernel
theorem dX7_cell_15 : decode cX7_cell 15 = .ok (.iload_n 2, 1) := by decide +kernel
theorem dX7_cell_16 : decode cX7_cell 16 = .ok (.iconst 1, 1) := by decide +kernel
theorem dX7_cell_17 : decode cX7_cell 17 = .ok (.if_icmp .le 5, 3) := by decide +kernel
theorem dX7_cell_20 : decode cX7_cell 20 = .ok (.iconst (-1), 1) := by decide +kernel
theorem dX7_cell_21 : decode cX7_cell 21 = .ok (.ireturn, 1) := by decide +kernel
theorem dX7_cell_22 : decode cX7_cell 22 = .ok (.aload_n 0, 1) := by decide +kernel
theorem dX7_cell_23 : decode cX7_cell 23 = .ok (.getfield 35, 3) := by decide +kernel
theorem dX7_cell_26 : decode cX7_cell 26 = .ok (.iload_n 1, 1) := by decide +kernel
theorem dX7_cell_27 : decode cX7_cell 27 = .ok (.invokevirtual 112, 3) := by decide +kernel
theorem dX7_cell_30 : decode cX7_cell 30 = .ok (.istore_n 3, 1) := by decide +kernel
theorem dX7_cell_31 : decode cX7_cell 31 = .ok (.iload_n 2, 1) := by decide +kernel
theorem dX7_cell_32 : decode cX7_cell 32 = .ok (.ifCond .ne 5, 3) := by decide +kernel
theorem dX7_cell_35 : decode cX7_cell 35 = .ok (.iload_n 3, 1) := by decide +kernel
theorem dX7_cell_36 : decode cX7_cell 36 = .ok (.ireturn, 1) := by decide +kernel
theorem dX7_cell_37 : decode cX7_cell 37 = .ok (.iload_n 3, 1) := by decide +kernel
theorem dX7_cell_38 : decode cX7_cell 38 = .ok (.iconst 2, 1) := by decide +kernel
theorem dX7_cell_39 : decode cX7_cell 39 = .ok (.if_icmp .ne 8, 3) := by decide +kernel
theorem dX7_cell_42 : decode cX7_cell 42 = .ok (.bipush (-4), 2) := by decide +kernel
theorem dX7_cell_44 : decode cX7_cell 44 = .ok (.goto 21, 3) := by decide +kernel
theorem dX7_cell_47 : decode cX7_cell 47 = .ok (.iload_n 3, 1) := by decide +kernel
theorem dX7_cell_48 : decode cX7_cell 48 = .ok (.aload_n 0, 1) := by decide +kernel
theorem dX7_cell_49 : decode cX7_cell 49 = .ok (.getfield 68, 3) := by decide +kernel
theorem dX7_cell_52 : decode cX7_cell 52 = .ok (.aload_n 0, 1) := by decide +kernel
theorem dX7_cell_53 : decode cX7_cell 53 = .ok (.getfield 35, 3) := by decide +kernel
theorem dX7_cell_56 : decode cX7_cell 56 = .ok (.getfield 116, 3) := by decide +kernel
theorem dX7_cell_59 : decode cX7_cell 59 = .ok (.invokevirtual 119, 3) := by decide +kernel
theorem dX7_cell_62 : decode cX7_cell 62 = .ok (.invokestatic 122, 3) := by decide +kernel
theorem dX7_cell_65 : decode cX7_cell 65 = .ok (.ireturn, 1) := by decide +kernel
set_option maxRecDepth 20000 in
theorem ggX7_damp_X6_dampOn : GoodIn wsX7_damp wsX6_dampOn := goodIn_r _ [6, 7, 8, 20, 21, 22, 23, 24, 25, 26, 27, 28, 29, 30, 31, 32] (by decide +kernel) (by decide +kernel)
set_option maxRecDepth 20000 in
theorem gX7_damp_X6_dampOn : GoodIn wsX7_damp (wsV RX7 119 RX6 yX6_dampOn wsX6_dampOn) := goodIn_app (goodIn_of _ (by decide +kernel)) ggX7_damp_X6_dampOn
theorem dX7_damp_0 : decode cX7_damp 0 = .ok (.iload_n 1, 1) := by decide +kernel
theorem dX7_damp_1 : decode cX7_damp 1 = .ok (.ifCond .lt 10, 3) := by decide +kernel
theorem dX7_damp_4 : decode cX7_damp 4 = .ok (.iload_n 1, 1) := by decide +kernel
theorem dX7_damp_5 : decode cX7_damp 5 = .ok (.sipush 999, 3) := by decide +kernel
theorem dX7_damp_8 : decode cX7_damp 8 = .ok (.if_icmp .le 7, 3) := by decide +kernel
theorem dX7_damp_11 : decode cX7_damp 11 = .ok (.iconst (-1), 1) := by decide +kernel
theorem dX7_damp_12 : decode cX7_damp 12 = .ok (.goto 11, 3) := by decide +kernel
theorem dX7_damp_15 : decode cX7_damp 15 = .ok (.aload_n 0, 1) := by decide +kernel
theorem dX7_damp_16 : decode cX7_damp 16 = .ok (.getfield 68, 3) := by decide +kernel
theorem dX7_damp_19 : decode cX7_damp 19 = .ok (.iload_n 1, 1) := by decide +kernel
theorem dX7_damp_20 : decode cX7_damp 20 = .ok (.invokevirtual 119, 3) := by decide +kernel
theorem dX7_damp_23 : decode cX7_damp 23 = .ok (.ireturn, 1) := by decide +kernel
set_option maxRecDepth 20000 in
theorem ggX7_pass_X1_add : GoodIn wsX7_pass wsX1_add := goodIn_r _ [7, 8, 9, 10, 11, 12, 13, 14, 15, 16, 17, 18, 19, 20, 21, 22, 23, 24, 108, 109, 110, 104, 105, 106, 107] (by decide +kernel) (by decide +kernel)
set_option maxRecDepth 20000 in
theorem gX7_pass_X1_add : GoodIn wsX7_pass (wsV RX7 126 RX1 yX1_add wsX1_add) := goodIn_app (goodIn_of _ (by decide +kernel)) ggX7_pass_X1_add
set_option maxRecDepth 20000 in
theorem ggX7_pass_X7_goNights : GoodIn wsX7_pass wsX7_goNights := goodIn_r _ [29, 30, 31, 32, 33, 34, 35, 36, 37, 38, 39, 40, 41, 42, 43, 44, 45, 46, 18, 47, 24, 48, 49, 50, 51, 52, 53, 54, 55, 56, 57, 58, 59, 60, 61, 62, 63, 64, 65, 66, 67, 68, 69, 20, 70, 28, 71, 72, 73, 74, 75, 76, 77, 78, 79, 80, 81, 82, 83, 84, 85, 86, 87, 88, 89, 90, 91, 92, 93, 94, 95, 96, 97, 98, 99, 100, 101, 102, 103, 104, 105, 106, 107, 111, 112, 113, 114, 115, 116, 117, 118, 119, 120, 121, 122, 123, 124, 125] (by decide +kernel) (by decide +kernel)
set_option maxRecDepth 20000 in
theorem gX7_pass_X7_goNights : GoodIn wsX7_pass (wsV RX7 129 RX7 yX7_goNights wsX7_goNights) := goodIn_app (goodIn_of _ (by decide +kernel)) ggX7_pass_X7_goNights
theorem dX7_pass_0 : decode cX7_pass 0 = .ok (.iload_n 1, 1) := by decide +kernel
theorem dX7_pass_1 : decode cX7_pass 1 = .ok (.iconst 1, 1) := by decide +kernel
theorem dX7_pass_2 : decode cX7_pass 2 = .ok (.if_icmp .lt 9, 3) := by decide +kernel
theorem dX7_pass_5 : decode cX7_pass 5 = .ok (.iload_n 1, 1) := by decide +kernel
theorem dX7_pass_6 : decode cX7_pass 6 = .ok (.bipush 30, 2) := by decide +kernel
theorem dX7_pass_8 : decode cX7_pass 8 = .ok (.if_icmp .le 5, 3) := by decide +kernel
theorem dX7_pass_11 : decode cX7_pass 11 = .ok (.iconst (-1), 1) := by decide +kernel
theorem dX7_pass_12 : decode cX7_pass 12 = .ok (.ireturn, 1) := by decide +kernel
theorem dX7_pass_13 : decode cX7_pass 13 = .ok (.aload_n 0, 1) := by decide +kernel
theorem dX7_pass_14 : decode cX7_pass 14 = .ok (.getfield 35, 3) := by decide +kernel
theorem dX7_pass_17 : decode cX7_pass 17 = .ok (.getfield 116, 3) := by decide +kernel
theorem dX7_pass_20 : decode cX7_pass 20 = .ok (.iload_n 1, 1) := by decide +kernel
theorem dX7_pass_21 : decode cX7_pass 21 = .ok (.iadd, 1) := by decide +kernel
theorem dX7_pass_22 : decode cX7_pass 22 = .ok (.sipush 999, 3) := by decide +kernel
theorem dX7_pass_25 : decode cX7_pass 25 = .ok (.if_icmp .le 6, 3) := by decide +kernel
theorem dX7_pass_28 : decode cX7_pass 28 = .ok (.bipush (-2), 2) := by decide +kernel
theorem dX7_pass_30 : decode cX7_pass 30 = .ok (.ireturn, 1) := by decide +kernel
theorem dX7_pass_31 : decode cX7_pass 31 = .ok (.aload_n 0, 1) := by decide +kernel
theorem dX7_pass_32 : decode cX7_pass 32 = .ok (.getfield 47, 3) := by decide +kernel
theorem dX7_pass_35 : decode cX7_pass 35 = .ok (.aload_n 0, 1) := by decide +kernel
theorem dX7_pass_36 : decode cX7_pass 36 = .ok (.getfield 35, 3) := by decide +kernel
theorem dX7_pass_39 : decode cX7_pass 39 = .ok (.invokevirtual 126, 3) := by decide +kernel
theorem dX7_pass_42 : decode cX7_pass 42 = .ok (.aload_n 0, 1) := by decide +kernel
theorem dX7_pass_43 : decode cX7_pass 43 = .ok (.aload_n 0, 1) := by decide +kernel
theorem dX7_pass_44 : decode cX7_pass 44 = .ok (.getfield 35, 3) := by decide +kernel
theorem dX7_pass_47 : decode cX7_pass 47 = .ok (.iload_n 1, 1) := by decide +kernel
theorem dX7_pass_48 : decode cX7_pass 48 = .ok (.invokevirtual 129, 3) := by decide +kernel
theorem dX7_pass_51 : decode cX7_pass 51 = .ok (.aload_n 0, 1) := by decide +kernel
theorem dX7_pass_52 : decode cX7_pass 52 = .ok (.getfield 35, 3) := by decide +kernel
theorem dX7_pass_55 : decode cX7_pass 55 = .ok (.getfield 116, 3) := by decide +kernel
theorem dX7_pass_58 : decode cX7_pass 58 = .ok (.ireturn, 1) := by decide +kernel
set_option maxRecDepth 20000 in
theorem ggX7_lettuce_X6_has : GoodIn wsX7_lettuce wsX6_has := goodIn_r _ [8, 9, 10, 62, 63, 64, 65, 66, 67, 68, 69, 70, 71, 72, 73, 74] (by decide +kernel) (by decide +kernel)
set_option maxRecDepth 20000 in
theorem gX7_lettuce_X6_has : GoodIn wsX7_lettuce (wsV RX7 109 RX6 yX6_has wsX6_has) := goodIn_app (goodIn_of _ (by decide +kernel)) ggX7_lettuce_X6_has
set_option maxRecDepth 20000 in
theorem ggX7_lettuce_X7_isFreeGrass : GoodIn wsX7_lettuce wsX7_isFreeGrass := goodIn_r _ [15, 3, 16, 17, 18, 19, 20, 21, 51, 52, 53, 54, 55, 56, 57, 58, 59, 60, 61, 75, 76, 77, 78] (by decide +kernel) (by decide +kernel)
set_option maxRecDepth 20000 in
theorem gX7_lettuce_X7_isFreeGrass : GoodIn wsX7_lettuce (wsV RX7 133 RX7 yX7_isFreeGrass wsX7_isFreeGrass) := goodIn_app (goodIn_of _ (by decide +kernel)) ggX7_lettuce_X7_isFreeGrass
set_option maxRecDepth 20000 in
theorem ggX7_lettuce_X1_add : GoodIn wsX7_lettuce wsX1_add := goodIn_r _ [26, 27, 28, 29, 30, 31, 32, 33, 34, 35, 36, 19, 37, 21, 38, 39, 40, 41, 79, 80, 81, 75, 76, 77, 78] (by decide +kernel) (by decide +kernel)
set_option maxRecDepth 20000 in
theorem gX7_lettuce_X1_add : GoodIn wsX7_lettuce (wsV RX7 126 RX1 yX1_add wsX1_add) := goodIn_app (goodIn_of _ (by decide +kernel)) ggX7_lettuce_X1_add
set_option maxRecDepth 20000 in
theorem ggX7_lettuce_X3_setKind : GoodIn wsX7_lettuce wsX3_setKind := goodIn_r _ [45, 21, 75, 76, 77, 78] (by decide +kernel) (by decide +kernel)
set_option maxRecDepth 20000 in
theorem gX7_lettuce_X3_setKind : GoodIn wsX7_lettuce (wsV RX7 136 RX3 yX3_setKind wsX3_setKind) := goodIn_app (goodIn_of _ (by decide +kernel)) ggX7_lettuce_X3_setKind
set_option maxRecDepth 20000 in
theorem ggX7_lettuce_X3_countOf : GoodIn wsX7_lettuce wsX3_countOf := goodIn_r _ [49, 50, 17, 18, 19, 20, 21, 75, 76, 77, 78] (by decide +kernel) (by decide +kernel)
set_option maxRecDepth 20000 in
theorem gX7_lettuce_X3_countOf : GoodIn wsX7_lettuce (wsV RX7 140 RX3 yX3_countOf wsX3_countOf) := goodIn_app (goodIn_of _ (by decide +kernel)) ggX7_lettuce_X3_countOf
theorem dX7_lettuce_0 : decode cX7_lettuce 0 = .ok (.aload_n 0, 1) := by decide +kernel
theorem dX7_lettuce_1 : decode cX7_lettuce 1 = .ok (.getfield 68, 3) := by decide +kernel
theorem dX7_lettuce_4 : decode cX7_lettuce 4 = .ok (.iload_n 1, 1) := by decide +kernel
theorem dX7_lettuce_5 : decode cX7_lettuce 5 = .ok (.invokevirtual 109, 3) := by decide +kernel
theorem dX7_lettuce_8 : decode cX7_lettuce 8 = .ok (.ifCond .ne 5, 3) := by decide +kernel
theorem dX7_lettuce_11 : decode cX7_lettuce 11 = .ok (.iconst (-1), 1) := by decide +kernel
theorem dX7_lettuce_12 : decode cX7_lettuce 12 = .ok (.ireturn, 1) := by decide +kernel
theorem dX7_lettuce_13 : decode cX7_lettuce 13 = .ok (.aload_n 0, 1) := by decide +kernel
theorem dX7_lettuce_14 : decode cX7_lettuce 14 = .ok (.iload_n 1, 1) := by decide +kernel
theorem dX7_lettuce_15 : decode cX7_lettuce 15 = .ok (.invokevirtual 133, 3) := by decide +kernel
theorem dX7_lettuce_18 : decode cX7_lettuce 18 = .ok (.ifCond .ne 6, 3) := by decide +kernel
theorem dX7_lettuce_21 : decode cX7_lettuce 21 = .ok (.bipush (-2), 2) := by decide +kernel
theorem dX7_lettuce_23 : decode cX7_lettuce 23 = .ok (.ireturn, 1) := by decide +kernel
theorem dX7_lettuce_24 : decode cX7_lettuce 24 = .ok (.aload_n 0, 1) := by decide +kernel
theorem dX7_lettuce_25 : decode cX7_lettuce 25 = .ok (.getfield 47, 3) := by decide +kernel
theorem dX7_lettuce_28 : decode cX7_lettuce 28 = .ok (.aload_n 0, 1) := by decide +kernel
theorem dX7_lettuce_29 : decode cX7_lettuce 29 = .ok (.getfield 35, 3) := by decide +kernel
theorem dX7_lettuce_32 : decode cX7_lettuce 32 = .ok (.invokevirtual 126, 3) := by decide +kernel
theorem dX7_lettuce_35 : decode cX7_lettuce 35 = .ok (.aload_n 0, 1) := by decide +kernel
theorem dX7_lettuce_36 : decode cX7_lettuce 36 = .ok (.getfield 35, 3) := by decide +kernel
theorem dX7_lettuce_39 : decode cX7_lettuce 39 = .ok (.iload_n 1, 1) := by decide +kernel
theorem dX7_lettuce_40 : decode cX7_lettuce 40 = .ok (.iconst 3, 1) := by decide +kernel
theorem dX7_lettuce_41 : decode cX7_lettuce 41 = .ok (.invokevirtual 136, 3) := by decide +kernel
theorem dX7_lettuce_44 : decode cX7_lettuce 44 = .ok (.aload_n 0, 1) := by decide +kernel
theorem dX7_lettuce_45 : decode cX7_lettuce 45 = .ok (.getfield 35, 3) := by decide +kernel
theorem dX7_lettuce_48 : decode cX7_lettuce 48 = .ok (.iconst 3, 1) := by decide +kernel
theorem dX7_lettuce_49 : decode cX7_lettuce 49 = .ok (.aload_n 0, 1) := by decide +kernel
theorem dX7_lettuce_50 : decode cX7_lettuce 50 = .ok (.getfield 68, 3) := by decide +kernel
theorem dX7_lettuce_53 : decode cX7_lettuce 53 = .ok (.getfield 106, 3) := by decide +kernel
theorem dX7_lettuce_56 : decode cX7_lettuce 56 = .ok (.invokevirtual 140, 3) := by decide +kernel
theorem dX7_lettuce_59 : decode cX7_lettuce 59 = .ok (.ireturn, 1) := by decide +kernel
set_option maxRecDepth 20000 in
theorem ggX7_salt_X6_has : GoodIn wsX7_salt wsX6_has := goodIn_r _ [8, 9, 10, 56, 57, 58, 59, 60, 61, 62, 63, 64, 65, 66, 67, 68] (by decide +kernel) (by decide +kernel)
set_option maxRecDepth 20000 in
theorem gX7_salt_X6_has : GoodIn wsX7_salt (wsV RX7 109 RX6 yX6_has wsX6_has) := goodIn_app (goodIn_of _ (by decide +kernel)) ggX7_salt_X6_has
set_option maxRecDepth 20000 in
theorem ggX7_salt_X3_kindAt : GoodIn wsX7_salt wsX3_kindAt := goodIn_r _ [15, 16, 52, 53, 54, 55] (by decide +kernel) (by decide +kernel)
set_option maxRecDepth 20000 in
theorem gX7_salt_X3_kindAt : GoodIn wsX7_salt (wsV RX7 112 RX3 yX3_kindAt wsX3_kindAt) := goodIn_app (goodIn_of _ (by decide +kernel)) ggX7_salt_X3_kindAt
set_option maxRecDepth 20000 in
theorem ggX7_salt_X1_add : GoodIn wsX7_salt wsX1_add := goodIn_r _ [21, 22, 23, 24, 25, 26, 27, 28, 29, 30, 31, 14, 32, 16, 33, 34, 35, 36, 69, 70, 71, 52, 53, 54, 55] (by decide +kernel) (by decide +kernel)
set_option maxRecDepth 20000 in
theorem gX7_salt_X1_add : GoodIn wsX7_salt (wsV RX7 126 RX1 yX1_add wsX1_add) := goodIn_app (goodIn_of _ (by decide +kernel)) ggX7_salt_X1_add
set_option maxRecDepth 20000 in
theorem ggX7_salt_X3_setKind : GoodIn wsX7_salt wsX3_setKind := goodIn_r _ [40, 16, 52, 53, 54, 55] (by decide +kernel) (by decide +kernel)
set_option maxRecDepth 20000 in
theorem gX7_salt_X3_setKind : GoodIn wsX7_salt (wsV RX7 136 RX3 yX3_setKind wsX3_setKind) := goodIn_app (goodIn_of _ (by decide +kernel)) ggX7_salt_X3_setKind
theorem dX7_salt_0 : decode cX7_salt 0 = .ok (.aload_n 0, 1) := by decide +kernel
theorem dX7_salt_1 : decode cX7_salt 1 = .ok (.getfield 68, 3) := by decide +kernel
theorem dX7_salt_4 : decode cX7_salt 4 = .ok (.iload_n 1, 1) := by decide +kernel
theorem dX7_salt_5 : decode cX7_salt 5 = .ok (.invokevirtual 109, 3) := by decide +kernel
theorem dX7_salt_8 : decode cX7_salt 8 = .ok (.ifCond .ne 5, 3) := by decide +kernel
theorem dX7_salt_11 : decode cX7_salt 11 = .ok (.iconst (-1), 1) := by decide +kernel
theorem dX7_salt_12 : decode cX7_salt 12 = .ok (.ireturn, 1) := by decide +kernel
theorem dX7_salt_13 : decode cX7_salt 13 = .ok (.aload_n 0, 1) := by decide +kernel
theorem dX7_salt_14 : decode cX7_salt 14 = .ok (.getfield 35, 3) := by decide +kernel
theorem dX7_salt_17 : decode cX7_salt 17 = .ok (.iload_n 1, 1) := by decide +kernel
theorem dX7_salt_18 : decode cX7_salt 18 = .ok (.invokevirtual 112, 3) := by decide +kernel
theorem dX7_salt_21 : decode cX7_salt 21 = .ok (.istore_n 2, 1) := by decide +kernel
theorem dX7_salt_22 : decode cX7_salt 22 = .ok (.iload_n 1, 1) := by decide +kernel
theorem dX7_salt_23 : decode cX7_salt 23 = .ok (.aload_n 0, 1) := by decide +kernel
theorem dX7_salt_24 : decode cX7_salt 24 = .ok (.getfield 35, 3) := by decide +kernel
theorem dX7_salt_27 : decode cX7_salt 27 = .ok (.getfield 143, 3) := by decide +kernel
theorem dX7_salt_30 : decode cX7_salt 30 = .ok (.if_icmp .eq 13, 3) := by decide +kernel
theorem dX7_salt_33 : decode cX7_salt 33 = .ok (.iload_n 2, 1) := by decide +kernel
theorem dX7_salt_34 : decode cX7_salt 34 = .ok (.iconst 1, 1) := by decide +kernel
theorem dX7_salt_35 : decode cX7_salt 35 = .ok (.if_icmp .eq 8, 3) := by decide +kernel
theorem dX7_salt_38 : decode cX7_salt 38 = .ok (.iload_n 2, 1) := by decide +kernel
theorem dX7_salt_39 : decode cX7_salt 39 = .ok (.iconst 2, 1) := by decide +kernel
theorem dX7_salt_40 : decode cX7_salt 40 = .ok (.if_icmp .ne 6, 3) := by decide +kernel
theorem dX7_salt_43 : decode cX7_salt 43 = .ok (.bipush (-2), 2) := by decide +kernel
theorem dX7_salt_45 : decode cX7_salt 45 = .ok (.ireturn, 1) := by decide +kernel
theorem dX7_salt_46 : decode cX7_salt 46 = .ok (.aload_n 0, 1) := by decide +kernel
theorem dX7_salt_47 : decode cX7_salt 47 = .ok (.getfield 47, 3) := by decide +kernel
theorem dX7_salt_50 : decode cX7_salt 50 = .ok (.aload_n 0, 1) := by decide +kernel
theorem dX7_salt_51 : decode cX7_salt 51 = .ok (.getfield 35, 3) := by decide +kernel
theorem dX7_salt_54 : decode cX7_salt 54 = .ok (.invokevirtual 126, 3) := by decide +kernel
theorem dX7_salt_57 : decode cX7_salt 57 = .ok (.aload_n 0, 1) := by decide +kernel
theorem dX7_salt_58 : decode cX7_salt 58 = .ok (.getfield 35, 3) := by decide +kernel
theorem dX7_salt_61 : decode cX7_salt 61 = .ok (.iload_n 1, 1) := by decide +kernel
theorem dX7_salt_62 : decode cX7_salt 62 = .ok (.iconst 2, 1) := by decide +kernel
theorem dX7_salt_63 : decode cX7_salt 63 = .ok (.invokevirtual 136, 3) := by decide +kernel
theorem dX7_salt_66 : decode cX7_salt 66 = .ok (.iload_n 2, 1) := by decide +kernel
theorem dX7_salt_67 : decode cX7_salt 67 = .ok (.ireturn, 1) := by decide +kernel
set_option maxRecDepth 20000 in
theorem ggX7_stone_X6_has : GoodIn wsX7_stone wsX6_has := goodIn_r _ [8, 9, 10, 62, 63, 64, 65, 66, 67, 68, 69, 70, 71, 72, 73, 74] (by decide +kernel) (by decide +kernel)
set_option maxRecDepth 20000 in
theorem gX7_stone_X6_has : GoodIn wsX7_stone (wsV RX7 109 RX6 yX6_has wsX6_has) := goodIn_app (goodIn_of _ (by decide +kernel)) ggX7_stone_X6_has
set_option maxRecDepth 20000 in
theorem ggX7_stone_X3_kindAt : GoodIn wsX7_stone wsX3_kindAt := goodIn_r _ [15, 16, 75, 76, 77, 78] (by decide +kernel) (by decide +kernel)
set_option maxRecDepth 20000 in
theorem gX7_stone_X3_kindAt : GoodIn wsX7_stone (wsV RX7 112 RX3 yX3_kindAt wsX3_kindAt) := goodIn_app (goodIn_of _ (by decide +kernel)) ggX7_stone_X3_kindAt
set_option maxRecDepth 20000 in
theorem ggX7_stone_X7_isFreeGrass : GoodIn wsX7_stone wsX7_isFreeGrass := goodIn_r _ [21, 2, 11, 12, 13, 14, 15, 16, 51, 52, 53, 54, 55, 56, 57, 58, 59, 60, 61, 75, 76, 77, 78] (by decide +kernel) (by decide +kernel)
set_option maxRecDepth 20000 in
theorem gX7_stone_X7_isFreeGrass : GoodIn wsX7_stone (wsV RX7 133 RX7 yX7_isFreeGrass wsX7_isFreeGrass) := goodIn_app (goodIn_of _ (by decide +kernel)) ggX7_stone_X7_isFreeGrass
set_option maxRecDepth 20000 in
theorem ggX7_stone_X1_add : GoodIn wsX7_stone wsX1_add := goodIn_r _ [26, 27, 28, 29, 30, 31, 32, 33, 34, 35, 36, 14, 37, 16, 38, 39, 40, 41, 79, 80, 81, 75, 76, 77, 78] (by decide +kernel) (by decide +kernel)
set_option maxRecDepth 20000 in
theorem gX7_stone_X1_add : GoodIn wsX7_stone (wsV RX7 126 RX1 yX1_add wsX1_add) := goodIn_app (goodIn_of _ (by decide +kernel)) ggX7_stone_X1_add
set_option maxRecDepth 20000 in
theorem ggX7_stone_X3_setKind : GoodIn wsX7_stone wsX3_setKind := goodIn_r _ [45, 16, 75, 76, 77, 78] (by decide +kernel) (by decide +kernel)
set_option maxRecDepth 20000 in
theorem gX7_stone_X3_setKind : GoodIn wsX7_stone (wsV RX7 136 RX3 yX3_setKind wsX3_setKind) := goodIn_app (goodIn_of _ (by decide +kernel)) ggX7_stone_X3_setKind
set_option maxRecDepth 20000 in
theorem ggX7_stone_X3_countOf : GoodIn wsX7_stone wsX3_countOf := goodIn_r _ [49, 50, 12, 13, 14, 15, 16, 75, 76, 77, 78] (by decide +kernel) (by decide +kernel)
set_option maxRecDepth 20000 in
theorem gX7_stone_X3_countOf : GoodIn wsX7_stone (wsV RX7 140 RX3 yX3_countOf wsX3_countOf) := goodIn_app (goodIn_of _ (by decide +kernel)) ggX7_stone_X3_countOf
theorem dX7_stone_0 : decode cX7_stone 0 = .ok (.aload_n 0, 1) := by decide +kernel
theorem dX7_stone_1 : decode cX7_stone 1 = .ok (.getfield 68, 3) := by decide +kernel
theorem dX7_stone_4 : decode cX7_stone 4 = .ok (.iload_n 1, 1) := by decide +kernel
theorem dX7_stone_5 : decode cX7_stone 5 = .ok (.invokevirtual 109, 3) := by decide +kernel
theorem dX7_stone_8 : decode cX7_stone 8 = .ok (.ifCond .eq 14, 3) := by decide +kernel
theorem dX7_stone_11 : decode cX7_stone 11 = .ok (.aload_n 0, 1) := by decide +kernel
theorem dX7_stone_12 : decode cX7_stone 12 = .ok (.getfield 68, 3) := by decide +kernel
theorem dX7_stone_15 : decode cX7_stone 15 = .ok (.iload_n 2, 1) := by decide +kernel
theorem dX7_stone_16 : decode cX7_stone 16 = .ok (.invokevirtual 109, 3) := by decide +kernel
theorem dX7_stone_19 : decode cX7_stone 19 = .ok (.ifCond .ne 5, 3) := by decide +kernel
theorem dX7_stone_22 : decode cX7_stone 22 = .ok (.iconst (-1), 1) := by decide +kernel
theorem dX7_stone_23 : decode cX7_stone 23 = .ok (.ireturn, 1) := by decide +kernel
theorem dX7_stone_24 : decode cX7_stone 24 = .ok (.aload_n 0, 1) := by decide +kernel
theorem dX7_stone_25 : decode cX7_stone 25 = .ok (.getfield 35, 3) := by decide +kernel
theorem dX7_stone_28 : decode cX7_stone 28 = .ok (.iload_n 1, 1) := by decide +kernel
theorem dX7_stone_29 : decode cX7_stone 29 = .ok (.invokevirtual 112, 3) := by decide +kernel
theorem dX7_stone_32 : decode cX7_stone 32 = .ok (.iconst 1, 1) := by decide +kernel
theorem dX7_stone_33 : decode cX7_stone 33 = .ok (.if_icmp .ne 11, 3) := by decide +kernel
theorem dX7_stone_36 : decode cX7_stone 36 = .ok (.aload_n 0, 1) := by decide +kernel
theorem dX7_stone_37 : decode cX7_stone 37 = .ok (.iload_n 2, 1) := by decide +kernel
theorem dX7_stone_38 : decode cX7_stone 38 = .ok (.invokevirtual 133, 3) := by decide +kernel
theorem dX7_stone_41 : decode cX7_stone 41 = .ok (.ifCond .ne 6, 3) := by decide +kernel
theorem dX7_stone_44 : decode cX7_stone 44 = .ok (.bipush (-2), 2) := by decide +kernel
theorem dX7_stone_46 : decode cX7_stone 46 = .ok (.ireturn, 1) := by decide +kernel
theorem dX7_stone_47 : decode cX7_stone 47 = .ok (.aload_n 0, 1) := by decide +kernel
theorem dX7_stone_48 : decode cX7_stone 48 = .ok (.getfield 47, 3) := by decide +kernel
theorem dX7_stone_51 : decode cX7_stone 51 = .ok (.aload_n 0, 1) := by decide +kernel
theorem dX7_stone_52 : decode cX7_stone 52 = .ok (.getfield 35, 3) := by decide +kernel
theorem dX7_stone_55 : decode cX7_stone 55 = .ok (.invokevirtual 126, 3) := by decide +kernel
theorem dX7_stone_58 : decode cX7_stone 58 = .ok (.aload_n 0, 1) := by decide +kernel
theorem dX7_stone_59 : decode cX7_stone 59 = .ok (.getfield 35, 3) := by decide +kernel
theorem dX7_stone_62 : decode cX7_stone 62 = .ok (.iload_n 1, 1) := by decide +kernel
theorem dX7_stone_63 : decode cX7_stone 63 = .ok (.iconst 0, 1) := by decide +kernel
theorem dX7_stone_64 : decode cX7_stone 64 = .ok (.invokevirtual 136, 3) := by decide +kernel
theorem dX7_stone_67 : decode cX7_stone 67 = .ok (.aload_n 0, 1) := by decide +kernel
theorem dX7_stone_68 : decode cX7_stone 68 = .ok (.getfield 35, 3) := by decide +kernel
theorem dX7_stone_71 : decode cX7_stone 71 = .ok (.iload_n 2, 1) := by decide +kernel
theorem dX7_stone_72 : decode cX7_stone 72 = .ok (.iconst 1, 1) := by decide +kernel
theorem dX7_stone_73 : decode cX7_stone 73 = .ok (.invokevirtual 136, 3) := by decide +kernel
theorem dX7_stone_76 : decode cX7_stone 76 = .ok (.aload_n 0, 1) := by decide +kernel
theorem dX7_stone_77 : decode cX7_stone 77 = .ok (.getfield 35, 3) := by decide +kernel
theorem dX7_stone_80 : decode cX7_stone 80 = .ok (.iconst 1, 1) := by decide +kernel
theorem dX7_stone_81 : decode cX7_stone 81 = .ok (.aload_n 0, 1) := by decide +kernel
theorem dX7_stone_82 : decode cX7_stone 82 = .ok (.getfield 68, 3) := by decide +kernel
theorem dX7_stone_85 : decode cX7_stone 85 = .ok (.getfield 106, 3) := by decide +kernel
theorem dX7_stone_88 : decode cX7_stone 88 = .ok (.invokevirtual 140, 3) := by decide +kernel
theorem dX7_stone_91 : decode cX7_stone 91 = .ok (.ireturn, 1) := by decide +kernel
set_option maxRecDepth 20000 in
theorem ggX7_undo_X1_takeInto : GoodIn wsX7_undo wsX1_takeInto := goodIn_r _ [7, 8, 9, 10, 11, 12, 13, 14, 15, 16, 17, 18, 19, 20, 21, 22, 34, 35, 36, 37, 38, 39, 40] (by decide +kernel) (by decide +kernel)
set_option maxRecDepth 20000 in
theorem gX7_undo_X1_takeInto : GoodIn wsX7_undo (wsV RX7 146 RX1 yX1_takeInto wsX1_takeInto) := goodIn_app (goodIn_of _ (by decide +kernel)) ggX7_undo_X1_takeInto
theorem dX7_undo_0 : decode cX7_undo 0 = .ok (.aload_n 0, 1) := by decide +kernel
theorem dX7_undo_1 : decode cX7_undo 1 = .ok (.getfield 47, 3) := by decide +kernel
theorem dX7_undo_4 : decode cX7_undo 4 = .ok (.aload_n 0, 1) := by decide +kernel
theorem dX7_undo_5 : decode cX7_undo 5 = .ok (.getfield 35, 3) := by decide +kernel
theorem dX7_undo_8 : decode cX7_undo 8 = .ok (.invokevirtual 146, 3) := by decide +kernel
theorem dX7_undo_11 : decode cX7_undo 11 = .ok (.ifCond .eq 13, 3) := by decide +kernel
theorem dX7_undo_14 : decode cX7_undo 14 = .ok (.aload_n 0, 1) := by decide +kernel
theorem dX7_undo_15 : decode cX7_undo 15 = .ok (.getfield 47, 3) := by decide +kernel
theorem dX7_undo_18 : decode cX7_undo 18 = .ok (.getfield 105, 3) := by decide +kernel
theorem dX7_undo_21 : decode cX7_undo 21 = .ok (.goto 5, 3) := by decide +kernel
theorem dX7_undo_24 : decode cX7_undo 24 = .ok (.bipush (-2), 2) := by decide +kernel
theorem dX7_undo_26 : decode cX7_undo 26 = .ok (.ireturn, 1) := by decide +kernel
set_option maxRecDepth 20000 in
theorem ggX7_where_X3_become : GoodIn wsX7_where wsX3_become := goodIn_r _ [7, 8, 9, 10, 11, 12, 13, 14, 15, 95, 96, 97, 98] (by decide +kernel) (by decide +kernel)
set_option maxRecDepth 20000 in
theorem gX7_where_X3_become : GoodIn wsX7_where (wsV RX7 150 RX3 yX3_become wsX3_become) := goodIn_app (goodIn_of _ (by decide +kernel)) ggX7_where_X3_become
set_option maxRecDepth 20000 in
theorem ggX7_where_X7_goNights : GoodIn wsX7_where wsX7_goNights := goodIn_r _ [20, 21, 22, 23, 24, 25, 26, 27, 28, 29, 30, 31, 32, 33, 34, 35, 36, 37, 6, 38, 15, 39, 40, 41, 42, 43, 44, 45, 46, 47, 48, 49, 50, 51, 52, 53, 54, 55, 56, 57, 58, 59, 60, 8, 61, 19, 62, 63, 64, 65, 66, 67, 68, 69, 70, 71, 72, 73, 74, 75, 76, 77, 78, 79, 80, 81, 82, 83, 84, 85, 86, 87, 88, 89, 90, 91, 92, 93, 94, 95, 96, 97, 98, 99, 100, 101, 102, 103, 104, 105, 106, 107, 108, 109, 110, 111, 112, 113] (by decide +kernel) (by decide +kernel)
set_option maxRecDepth 20000 in
theorem gX7_where_X7_goNights : GoodIn wsX7_where (wsV RX7 129 RX7 yX7_goNights wsX7_goNights) := goodIn_app (goodIn_of _ (by decide +kernel)) ggX7_where_X7_goNights
theorem dX7_where_0 : decode cX7_where 0 = .ok (.iload_n 1, 1) := by decide +kernel
theorem dX7_where_1 : decode cX7_where 1 = .ok (.ifCond .lt 9, 3) := by decide +kernel
theorem dX7_where_4 : decode cX7_where 4 = .ok (.iload_n 1, 1) := by decide +kernel
theorem dX7_where_5 : decode cX7_where 5 = .ok (.bipush 30, 2) := by decide +kernel
theorem dX7_where_7 : decode cX7_where 7 = .ok (.if_icmp .le 5, 3) := by decide +kernel
theorem dX7_where_10 : decode cX7_where 10 = .ok (.iconst (-1), 1) := by decide +kernel
theorem dX7_where_11 : decode cX7_where 11 = .ok (.ireturn, 1) := by decide +kernel
theorem dX7_where_12 : decode cX7_where 12 = .ok (.aload_n 0, 1) := by decide +kernel
theorem dX7_where_13 : decode cX7_where 13 = .ok (.getfield 39, 3) := by decide +kernel
theorem dX7_where_16 : decode cX7_where 16 = .ok (.aload_n 0, 1) := by decide +kernel
theorem dX7_where_17 : decode cX7_where 17 = .ok (.getfield 35, 3) := by decide +kernel
theorem dX7_where_20 : decode cX7_where 20 = .ok (.invokevirtual 150, 3) := by decide +kernel
theorem dX7_where_23 : decode cX7_where 23 = .ok (.aload_n 0, 1) := by decide +kernel
theorem dX7_where_24 : decode cX7_where 24 = .ok (.aload_n 0, 1) := by decide +kernel
theorem dX7_where_25 : decode cX7_where 25 = .ok (.getfield 39, 3) := by decide +kernel
theorem dX7_where_28 : decode cX7_where 28 = .ok (.iload_n 1, 1) := by decide +kernel
theorem dX7_where_29 : decode cX7_where 29 = .ok (.invokevirtual 129, 3) := by decide +kernel
theorem dX7_where_32 : decode cX7_where 32 = .ok (.aload_n 0, 1) := by decide +kernel
theorem dX7_where_33 : decode cX7_where 33 = .ok (.getfield 39, 3) := by decide +kernel
theorem dX7_where_36 : decode cX7_where 36 = .ok (.getfield 143, 3) := by decide +kernel
theorem dX7_where_39 : decode cX7_where 39 = .ok (.ireturn, 1) := by decide +kernel
set_option maxRecDepth 20000 in
theorem ggX7_begins_X3_become : GoodIn wsX7_begins wsX3_become := goodIn_r _ [7, 8, 9, 10, 11, 12, 13, 14, 15, 96, 97, 98, 99] (by decide +kernel) (by decide +kernel)
set_option maxRecDepth 20000 in
theorem gX7_begins_X3_become : GoodIn wsX7_begins (wsV RX7 150 RX3 yX3_become wsX3_become) := goodIn_app (goodIn_of _ (by decide +kernel)) ggX7_begins_X3_become
set_option maxRecDepth 20000 in
theorem ggX7_begins_X7_nightsTillBegun : GoodIn wsX7_begins wsX7_nightsTillBegun := goodIn_r _ [20, 21, 22, 23, 24, 25, 6, 26, 15, 27, 28, 29, 30, 31, 32, 33, 34, 35, 36, 37, 38, 39, 40, 41, 42, 43, 44, 45, 46, 47, 48, 49, 50, 51, 52, 53, 54, 55, 56, 57, 58, 59, 60, 61, 8, 62, 19, 63, 64, 65, 66, 67, 68, 69, 70, 71, 72, 73, 74, 75, 76, 77, 78, 79, 80, 81, 82, 83, 84, 85, 86, 87, 88, 89, 90, 91, 92, 93, 94, 95, 96, 97, 98, 99, 100, 101, 102, 103, 104, 105, 106, 107, 108, 109, 110, 111, 112, 113, 114] (by decide +kernel) (by decide +kernel)
set_option maxRecDepth 20000 in
theorem gX7_begins_X7_nightsTillBegun : GoodIn wsX7_begins (wsV RX7 153 RX7 yX7_nightsTillBegun wsX7_nightsTillBegun) := goodIn_app (goodIn_of _ (by decide +kernel)) ggX7_begins_X7_nightsTillBegun
theorem dX7_begins_0 : decode cX7_begins 0 = .ok (.aload_n 0, 1) := by decide +kernel
theorem dX7_begins_1 : decode cX7_begins 1 = .ok (.getfield 39, 3) := by decide +kernel
theorem dX7_begins_4 : decode cX7_begins 4 = .ok (.aload_n 0, 1) := by decide +kernel
theorem dX7_begins_5 : decode cX7_begins 5 = .ok (.getfield 35, 3) := by decide +kernel
theorem dX7_begins_8 : decode cX7_begins 8 = .ok (.invokevirtual 150, 3) := by decide +kernel
theorem dX7_begins_11 : decode cX7_begins 11 = .ok (.aload_n 0, 1) := by decide +kernel
theorem dX7_begins_12 : decode cX7_begins 12 = .ok (.aload_n 0, 1) := by decide +kernel
theorem dX7_begins_13 : decode cX7_begins 13 = .ok (.getfield 39, 3) := by decide +kernel
theorem dX7_begins_16 : decode cX7_begins 16 = .ok (.invokevirtual 153, 3) := by decide +kernel
theorem dX7_begins_19 : decode cX7_begins 19 = .ok (.ireturn, 1) := by decide +kernel
set_option maxRecDepth 20000 in
theorem ggX7_due_X3_become : GoodIn wsX7_due wsX3_become := goodIn_r _ [8, 9, 10, 11, 12, 13, 14, 15, 16, 103, 104, 105, 106] (by decide +kernel) (by decide +kernel)
set_option maxRecDepth 20000 in
theorem gX7_due_X3_become : GoodIn wsX7_due (wsV RX7 150 RX3 yX3_become wsX3_become) := goodIn_app (goodIn_of _ (by decide +kernel)) ggX7_due_X3_become
set_option maxRecDepth 20000 in
theorem ggX7_due_X7_nightsTillBegun : GoodIn wsX7_due wsX7_nightsTillBegun := goodIn_r _ [21, 22, 3, 23, 24, 25, 7, 26, 16, 27, 28, 29, 30, 31, 32, 33, 34, 35, 36, 37, 38, 39, 40, 41, 42, 43, 44, 45, 46, 47, 48, 49, 50, 51, 52, 53, 54, 55, 56, 57, 58, 59, 60, 61, 9, 62, 20, 63, 64, 65, 66, 67, 68, 69, 70, 71, 72, 73, 74, 75, 76, 77, 78, 79, 80, 81, 82, 83, 84, 92, 93, 94, 95, 96, 97, 98, 99, 100, 101, 102, 103, 104, 105, 106, 107, 108, 109, 110, 111, 112, 113, 114, 115, 116, 117, 118, 119, 120, 121] (by decide +kernel) (by decide +kernel)
set_option maxRecDepth 20000 in
theorem gX7_due_X7_nightsTillBegun : GoodIn wsX7_due (wsV RX7 153 RX7 yX7_nightsTillBegun wsX7_nightsTillBegun) := goodIn_app (goodIn_of _ (by decide +kernel)) ggX7_due_X7_nightsTillBegun
set_option maxRecDepth 20000 in
theorem ggX7_due_X6_rentsTill : GoodIn wsX7_due wsX6_rentsTill := goodIn_r _ [88, 89, 90, 91, 107, 108, 109, 110, 111, 112, 113, 114, 115, 116, 117, 118, 119] (by decide +kernel) (by decide +kernel)
set_option maxRecDepth 20000 in
theorem gX7_due_X6_rentsTill : GoodIn wsX7_due (wsV RX7 160 RX6 yX6_rentsTill wsX6_rentsTill) := goodIn_app (goodIn_of _ (by decide +kernel)) ggX7_due_X6_rentsTill
theorem dX7_due_0 : decode cX7_due 0 = .ok (.aload_n 0, 1) := by decide +kernel
theorem dX7_due_1 : decode cX7_due 1 = .ok (.getfield 39, 3) := by decide +kernel
theorem dX7_due_4 : decode cX7_due 4 = .ok (.aload_n 0, 1) := by decide +kernel
theorem dX7_due_5 : decode cX7_due 5 = .ok (.getfield 35, 3) := by decide +kernel
theorem dX7_due_8 : decode cX7_due 8 = .ok (.invokevirtual 150, 3) := by decide +kernel
theorem dX7_due_11 : decode cX7_due 11 = .ok (.aload_n 0, 1) := by decide +kernel
theorem dX7_due_12 : decode cX7_due 12 = .ok (.aload_n 0, 1) := by decide +kernel
theorem dX7_due_13 : decode cX7_due 13 = .ok (.getfield 39, 3) := by decide +kernel
theorem dX7_due_16 : decode cX7_due 16 = .ok (.invokevirtual 153, 3) := by decide +kernel
theorem dX7_due_19 : decode cX7_due 19 = .ok (.bipush (-4), 2) := by decide +kernel
theorem dX7_due_21 : decode cX7_due 21 = .ok (.if_icmp .ne 7, 3) := by decide +kernel
theorem dX7_due_24 : decode cX7_due 24 = .ok (.iconst 1, 1) := by decide +kernel
theorem dX7_due_25 : decode cX7_due 25 = .ok (.goto 4, 3) := by decide +kernel
theorem dX7_due_28 : decode cX7_due 28 = .ok (.iconst 0, 1) := by decide +kernel
theorem dX7_due_29 : decode cX7_due 29 = .ok (.istore_n 1, 1) := by decide +kernel
theorem dX7_due_30 : decode cX7_due 30 = .ok (.aload_n 0, 1) := by decide +kernel
theorem dX7_due_31 : decode cX7_due 31 = .ok (.getfield 68, 3) := by decide +kernel
theorem dX7_due_34 : decode cX7_due 34 = .ok (.iload_n 1, 1) := by decide +kernel
theorem dX7_due_35 : decode cX7_due 35 = .ok (.ifCond .eq 9, 3) := by decide +kernel
theorem dX7_due_38 : decode cX7_due 38 = .ok (.sipush 999, 3) := by decide +kernel
theorem dX7_due_41 : decode cX7_due 41 = .ok (.goto 10, 3) := by decide +kernel
theorem dX7_due_44 : decode cX7_due 44 = .ok (.aload_n 0, 1) := by decide +kernel
theorem dX7_due_45 : decode cX7_due 45 = .ok (.getfield 39, 3) := by decide +kernel
theorem dX7_due_48 : decode cX7_due 48 = .ok (.getfield 157, 3) := by decide +kernel
theorem dX7_due_51 : decode cX7_due 51 = .ok (.invokevirtual 160, 3) := by decide +kernel
theorem dX7_due_54 : decode cX7_due 54 = .ok (.ireturn, 1) := by decide +kernel
set_option maxRecDepth 20000 in
theorem ggX7_heir_X3_become : GoodIn wsX7_heir wsX3_become := goodIn_r _ [8, 9, 10, 11, 12, 13, 14, 15, 16, 116, 117, 118, 119] (by decide +kernel) (by decide +kernel)
set_option maxRecDepth 20000 in
theorem gX7_heir_X3_become : GoodIn wsX7_heir (wsV RX7 150 RX3 yX3_become wsX3_become) := goodIn_app (goodIn_of _ (by decide +kernel)) ggX7_heir_X3_become
set_option maxRecDepth 20000 in
theorem ggX7_heir_X7_nightsTillBegun : GoodIn wsX7_heir wsX7_nightsTillBegun := goodIn_r _ [21, 22, 3, 23, 24, 25, 7, 26, 16, 27, 28, 29, 30, 31, 32, 33, 34, 35, 36, 37, 38, 39, 40, 41, 42, 43, 44, 45, 46, 47, 48, 49, 50, 51, 52, 53, 54, 55, 56, 57, 58, 59, 60, 61, 9, 62, 20, 63, 64, 65, 66, 67, 68, 69, 70, 71, 72, 73, 74, 75, 76, 77, 78, 79, 80, 81, 82, 83, 84, 105, 106, 107, 108, 109, 110, 111, 112, 113, 114, 115, 116, 117, 118, 119, 120, 121, 122, 123, 124, 125, 126, 127, 128, 129, 130, 131, 132, 133, 134] (by decide +kernel) (by decide +kernel)
set_option maxRecDepth 20000 in
theorem gX7_heir_X7_nightsTillBegun : GoodIn wsX7_heir (wsV RX7 153 RX7 yX7_nightsTillBegun wsX7_nightsTillBegun) := goodIn_app (goodIn_of _ (by decide +kernel)) ggX7_heir_X7_nightsTillBegun
set_option maxRecDepth 20000 in
theorem ggX7_heir_X6_columnOf : GoodIn wsX7_heir wsX6_columnOf := goodIn_r _ [88, 89, 90, 91, 92, 30, 93, 76, 94, 120, 121, 122, 123, 124, 125, 126, 127, 128, 129, 130, 131, 132] (by decide +kernel) (by decide +kernel)
set_option maxRecDepth 20000 in
theorem gX7_heir_X6_columnOf : GoodIn wsX7_heir (wsV RX7 163 RX6 yX6_columnOf wsX6_columnOf) := goodIn_app (goodIn_of _ (by decide +kernel)) ggX7_heir_X6_columnOf
set_option maxRecDepth 20000 in
theorem ggX7_heir_X6_heirNearest : GoodIn wsX7_heir wsX6_heirNearest := goodIn_r _ [98, 99, 100, 101, 102, 103, 104, 120, 121, 122, 123, 124, 125, 126, 127, 128, 129, 130, 131, 132] (by decide +kernel) (by decide +kernel)
set_option maxRecDepth 20000 in
theorem gX7_heir_X6_heirNearest : GoodIn wsX7_heir (wsV RX7 166 RX6 yX6_heirNearest wsX6_heirNearest) := goodIn_app (goodIn_of _ (by decide +kernel)) ggX7_heir_X6_heirNearest
theorem dX7_heir_0 : decode cX7_heir 0 = .ok (.aload_n 0, 1) := by decide +kernel
theorem dX7_heir_1 : decode cX7_heir 1 = .ok (.getfield 39, 3) := by decide +kernel
theorem dX7_heir_4 : decode cX7_heir 4 = .ok (.aload_n 0, 1) := by decide +kernel
theorem dX7_heir_5 : decode cX7_heir 5 = .ok (.getfield 35, 3) := by decide +kernel
theorem dX7_heir_8 : decode cX7_heir 8 = .ok (.invokevirtual 150, 3) := by decide +kernel
theorem dX7_heir_11 : decode cX7_heir 11 = .ok (.aload_n 0, 1) := by decide +kernel
theorem dX7_heir_12 : decode cX7_heir 12 = .ok (.aload_n 0, 1) := by decide +kernel
theorem dX7_heir_13 : decode cX7_heir 13 = .ok (.getfield 39, 3) := by decide +kernel
theorem dX7_heir_16 : decode cX7_heir 16 = .ok (.invokevirtual 153, 3) := by decide +kernel
theorem dX7_heir_19 : decode cX7_heir 19 = .ok (.bipush (-4), 2) := by decide +kernel
theorem dX7_heir_21 : decode cX7_heir 21 = .ok (.if_icmp .ne 6, 3) := by decide +kernel
theorem dX7_heir_24 : decode cX7_heir 24 = .ok (.bipush (-4), 2) := by decide +kernel
theorem dX7_heir_26 : decode cX7_heir 26 = .ok (.ireturn, 1) := by decide +kernel
theorem dX7_heir_27 : decode cX7_heir 27 = .ok (.aload_n 0, 1) := by decide +kernel
theorem dX7_heir_28 : decode cX7_heir 28 = .ok (.getfield 68, 3) := by decide +kernel
theorem dX7_heir_31 : decode cX7_heir 31 = .ok (.aload_n 0, 1) := by decide +kernel
theorem dX7_heir_32 : decode cX7_heir 32 = .ok (.getfield 68, 3) := by decide +kernel
theorem dX7_heir_35 : decode cX7_heir 35 = .ok (.aload_n 0, 1) := by decide +kernel
theorem dX7_heir_36 : decode cX7_heir 36 = .ok (.getfield 39, 3) := by decide +kernel
theorem dX7_heir_39 : decode cX7_heir 39 = .ok (.getfield 143, 3) := by decide +kernel
theorem dX7_heir_42 : decode cX7_heir 42 = .ok (.invokevirtual 163, 3) := by decide +kernel
theorem dX7_heir_45 : decode cX7_heir 45 = .ok (.invokevirtual 166, 3) := by decide +kernel
theorem dX7_heir_48 : decode cX7_heir 48 = .ok (.ireturn, 1) := by decide +kernel
set_option maxRecDepth 20000 in
theorem ggX7_far_X6_has : GoodIn wsX7_far wsX6_has := goodIn_r _ [8, 9, 10, 49, 50, 51, 52, 53, 54, 55, 56, 57, 58, 59, 60, 61] (by decide +kernel) (by decide +kernel)
set_option maxRecDepth 20000 in
theorem gX7_far_X6_has : GoodIn wsX7_far (wsV RX7 109 RX6 yX6_has wsX6_has) := goodIn_app (goodIn_of _ (by decide +kernel)) ggX7_far_X6_has
set_option maxRecDepth 20000 in
theorem ggX7_far_X5_stepsTo : GoodIn wsX7_far wsX5_stepsTo := goodIn_r _ [15, 16, 17, 18, 14, 19, 20, 21, 22, 23, 24, 25, 26, 7, 27, 28, 29, 30, 31, 32, 33, 34, 35, 36, 37, 62, 63, 64, 65, 66, 67, 49, 50, 51, 52, 53, 54, 55, 56, 57, 58, 59, 60, 61] (by decide +kernel) (by decide +kernel)
set_option maxRecDepth 20000 in
theorem gX7_far_X5_stepsTo : GoodIn wsX7_far (wsV RX7 169 RX5 yX5_stepsTo wsX5_stepsTo) := goodIn_app (goodIn_of _ (by decide +kernel)) ggX7_far_X5_stepsTo
theorem dX7_far_0 : decode cX7_far 0 = .ok (.aload_n 0, 1) := by decide +kernel
theorem dX7_far_1 : decode cX7_far 1 = .ok (.getfield 68, 3) := by decide +kernel
theorem dX7_far_4 : decode cX7_far 4 = .ok (.iload_n 1, 1) := by decide +kernel
theorem dX7_far_5 : decode cX7_far 5 = .ok (.invokevirtual 109, 3) := by decide +kernel
theorem dX7_far_8 : decode cX7_far 8 = .ok (.ifCond .ne 5, 3) := by decide +kernel
theorem dX7_far_11 : decode cX7_far 11 = .ok (.iconst (-1), 1) := by decide +kernel
theorem dX7_far_12 : decode cX7_far 12 = .ok (.ireturn, 1) := by decide +kernel
theorem dX7_far_13 : decode cX7_far 13 = .ok (.aload_n 0, 1) := by decide +kernel
theorem dX7_far_14 : decode cX7_far 14 = .ok (.getfield 28, 3) := by decide +kernel
theorem dX7_far_17 : decode cX7_far 17 = .ok (.iload_n 1, 1) := by decide +kernel
theorem dX7_far_18 : decode cX7_far 18 = .ok (.aload_n 0, 1) := by decide +kernel
theorem dX7_far_19 : decode cX7_far 19 = .ok (.getfield 68, 3) := by decide +kernel
theorem dX7_far_22 : decode cX7_far 22 = .ok (.aload_n 0, 1) := by decide +kernel
theorem dX7_far_23 : decode cX7_far 23 = .ok (.getfield 35, 3) := by decide +kernel
theorem dX7_far_26 : decode cX7_far 26 = .ok (.invokevirtual 169, 3) := by decide +kernel
theorem dX7_far_29 : decode cX7_far 29 = .ok (.istore_n 2, 1) := by decide +kernel
theorem dX7_far_30 : decode cX7_far 30 = .ok (.iload_n 2, 1) := by decide +kernel
theorem dX7_far_31 : decode cX7_far 31 = .ok (.sipush 1000, 3) := by decide +kernel
theorem dX7_far_34 : decode cX7_far 34 = .ok (.if_icmp .ge 7, 3) := by decide +kernel
theorem dX7_far_37 : decode cX7_far 37 = .ok (.iload_n 2, 1) := by decide +kernel
theorem dX7_far_38 : decode cX7_far 38 = .ok (.goto 5, 3) := by decide +kernel
theorem dX7_far_41 : decode cX7_far 41 = .ok (.bipush (-4), 2) := by decide +kernel
theorem dX7_far_43 : decode cX7_far 43 = .ok (.ireturn, 1) := by decide +kernel
set_option maxRecDepth 20000 in
theorem ggX7_layFor_X7_chooseLettuces : GoodIn wsX7_layFor wsX7_chooseLettuces := goodIn_r _ [6, 7, 8, 9, 10, 11, 12, 13, 14, 15, 16, 17, 18, 19, 20, 21, 22, 23, 24, 25, 5, 26, 27, 28, 29, 30, 31, 32, 33, 34, 35, 36, 37, 38, 39, 40, 41, 42, 43, 44, 45, 46, 47, 48, 49, 50, 51, 52, 53, 54, 55, 56, 57, 58, 59, 60, 61, 62, 63, 64, 65, 66, 67, 68, 69, 70, 71, 72, 73, 74, 75, 76, 77, 78, 79, 80, 81, 82, 83, 84, 85, 86, 87, 88, 89, 90, 91, 92, 93, 94, 95, 96, 97, 98, 99, 100, 101, 1, 102, 103, 104, 105, 106, 107, 108, 109, 110, 111, 112, 113, 114, 115, 116, 117, 118, 119, 120, 121, 122, 123, 124, 125, 126, 127, 128, 129, 130, 131, 132] (by decide +kernel) (by decide +kernel)
set_option maxRecDepth 20000 in
theorem gX7_layFor_X7_chooseLettuces : GoodIn wsX7_layFor (wsV RX7 173 RX7 yX7_chooseLettuces wsX7_chooseLettuces) := goodIn_app (goodIn_of _ (by decide +kernel)) ggX7_layFor_X7_chooseLettuces
theorem dX7_layFor_0 : decode cX7_layFor 0 = .ok (.iload_n 1, 1) := by decide +kernel
theorem dX7_layFor_1 : decode cX7_layFor 1 = .ok (.ifCond .lt 28, 3) := by decide +kernel
theorem dX7_layFor_4 : decode cX7_layFor 4 = .ok (.iload_n 1, 1) := by decide +kernel
theorem dX7_layFor_5 : decode cX7_layFor 5 = .ok (.bipush 30, 2) := by decide +kernel
theorem dX7_layFor_7 : decode cX7_layFor 7 = .ok (.if_icmp .gt 22, 3) := by decide +kernel
theorem dX7_layFor_10 : decode cX7_layFor 10 = .ok (.iload_n 2, 1) := by decide +kernel
theorem dX7_layFor_11 : decode cX7_layFor 11 = .ok (.ifCond .lt 18, 3) := by decide +kernel
theorem dX7_layFor_14 : decode cX7_layFor 14 = .ok (.iload_n 2, 1) := by decide +kernel
theorem dX7_layFor_15 : decode cX7_layFor 15 = .ok (.bipush 30, 2) := by decide +kernel
theorem dX7_layFor_17 : decode cX7_layFor 17 = .ok (.if_icmp .gt 12, 3) := by decide +kernel
theorem dX7_layFor_20 : decode cX7_layFor 20 = .ok (.iload_n 3, 1) := by decide +kernel
theorem dX7_layFor_21 : decode cX7_layFor 21 = .ok (.ifCond .lt 8, 3) := by decide +kernel
theorem dX7_layFor_24 : decode cX7_layFor 24 = .ok (.iload_n 3, 1) := by decide +kernel
theorem dX7_layFor_25 : decode cX7_layFor 25 = .ok (.iconst 2, 1) := by decide +kernel
theorem dX7_layFor_26 : decode cX7_layFor 26 = .ok (.if_icmp .le 5, 3) := by decide +kernel
theorem dX7_layFor_29 : decode cX7_layFor 29 = .ok (.iconst (-1), 1) := by decide +kernel
theorem dX7_layFor_30 : decode cX7_layFor 30 = .ok (.ireturn, 1) := by decide +kernel
theorem dX7_layFor_31 : decode cX7_layFor 31 = .ok (.aload_n 0, 1) := by decide +kernel
theorem dX7_layFor_32 : decode cX7_layFor 32 = .ok (.iload_n 1, 1) := by decide +kernel
theorem dX7_layFor_33 : decode cX7_layFor 33 = .ok (.iload_n 2, 1) := by decide +kernel
theorem dX7_layFor_34 : decode cX7_layFor 34 = .ok (.invokevirtual 173, 3) := by decide +kernel
theorem dX7_layFor_37 : decode cX7_layFor 37 = .ok (.istore 4, 2) := by decide +kernel
theorem dX7_layFor_39 : decode cX7_layFor 39 = .ok (.iload_n 3, 1) := by decide +kernel
theorem dX7_layFor_40 : decode cX7_layFor 40 = .ok (.ifCond .eq 10, 3) := by decide +kernel
theorem dX7_layFor_43 : decode cX7_layFor 43 = .ok (.iload 4, 2) := by decide +kernel
theorem dX7_layFor_45 : decode cX7_layFor 45 = .ok (.bipush (-4), 2) := by decide +kernel
theorem dX7_layFor_47 : decode cX7_layFor 47 = .ok (.if_icmp .ne 6, 3) := by decide +kernel
theorem dX7_layFor_50 : decode cX7_layFor 50 = .ok (.iload 4, 2) := by decide +kernel
theorem dX7_layFor_52 : decode cX7_layFor 52 = .ok (.ireturn, 1) := by decide +kernel
theorem dX7_layFor_53 : decode cX7_layFor 53 = .ok (.iload_n 3, 1) := by decide +kernel
theorem dX7_layFor_54 : decode cX7_layFor 54 = .ok (.iload 4, 2) := by decide +kernel
theorem dX7_layFor_56 : decode cX7_layFor 56 = .ok (.if_icmp .gt 14, 3) := by decide +kernel
theorem dX7_layFor_59 : decode cX7_layFor 59 = .ok (.aload_n 0, 1) := by decide +kernel
theorem dX7_layFor_60 : decode cX7_layFor 60 = .ok (.getfield 61, 3) := by decide +kernel
theorem dX7_layFor_63 : decode cX7_layFor 63 = .ok (.iload_n 3, 1) := by decide +kernel
theorem dX7_layFor_64 : decode cX7_layFor 64 = .ok (.iconst 1, 1) := by decide +kernel
theorem dX7_layFor_65 : decode cX7_layFor 65 = .ok (.isub, 1) := by decide +kernel
theorem dX7_layFor_66 : decode cX7_layFor 66 = .ok (.iaload, 1) := by decide +kernel
theorem dX7_layFor_67 : decode cX7_layFor 67 = .ok (.goto 5, 3) := by decide +kernel
theorem dX7_layFor_70 : decode cX7_layFor 70 = .ok (.bipush (-4), 2) := by decide +kernel
theorem dX7_layFor_72 : decode cX7_layFor 72 = .ok (.ireturn, 1) := by decide +kernel
set_option maxRecDepth 20000 in
theorem ggX7_decides_X3_become : GoodIn wsX7_decides wsX3_become := goodIn_r _ [8, 9, 10, 11, 12, 13, 14, 15, 16, 111, 112, 113, 114] (by decide +kernel) (by decide +kernel)
set_option maxRecDepth 20000 in
theorem gX7_decides_X3_become : GoodIn wsX7_decides (wsV RX7 150 RX3 yX3_become wsX3_become) := goodIn_app (goodIn_of _ (by decide +kernel)) ggX7_decides_X3_become
set_option maxRecDepth 20000 in
theorem ggX7_decides_X7_nightsTillBegun : GoodIn wsX7_decides wsX7_nightsTillBegun := goodIn_r _ [21, 22, 3, 23, 24, 25, 7, 26, 16, 27, 28, 29, 30, 31, 32, 33, 34, 35, 36, 37, 38, 39, 40, 41, 42, 43, 44, 45, 46, 47, 48, 49, 50, 51, 52, 53, 54, 55, 56, 57, 58, 59, 60, 61, 9, 62, 20, 63, 64, 65, 66, 67, 68, 69, 70, 71, 72, 73, 74, 75, 76, 77, 78, 79, 80, 81, 82, 83, 84, 87, 88, 89, 90, 91, 92, 93, 94, 95, 96, 97, 111, 112, 113, 114, 98, 99, 100, 101, 102, 103, 104, 105, 106, 107, 108, 109, 110, 115, 116] (by decide +kernel) (by decide +kernel)
set_option maxRecDepth 20000 in
theorem gX7_decides_X7_nightsTillBegun : GoodIn wsX7_decides (wsV RX7 153 RX7 yX7_nightsTillBegun wsX7_nightsTillBegun) := goodIn_app (goodIn_of _ (by decide +kernel)) ggX7_decides_X7_nightsTillBegun
set_option maxRecDepth 20000 in
theorem ggX7_decides_X3_kindAt : GoodIn wsX7_decides wsX3_kindAt := goodIn_r _ [61, 9, 111, 112, 113, 114] (by decide +kernel) (by decide +kernel)
set_option maxRecDepth 20000 in
theorem gX7_decides_X3_kindAt : GoodIn wsX7_decides (wsV RX7 112 RX3 yX3_kindAt wsX3_kindAt) := goodIn_app (goodIn_of _ (by decide +kernel)) ggX7_decides_X3_kindAt
set_option maxRecDepth 20000 in
theorem ggX7_decides_X3_setKind : GoodIn wsX7_decides wsX3_setKind := goodIn_r _ [84, 9, 111, 112, 113, 114] (by decide +kernel) (by decide +kernel)
set_option maxRecDepth 20000 in
theorem gX7_decides_X3_setKind : GoodIn wsX7_decides (wsV RX7 136 RX3 yX3_setKind wsX3_setKind) := goodIn_app (goodIn_of _ (by decide +kernel)) ggX7_decides_X3_setKind
theorem dX7_decides_0 : decode cX7_decides 0 = .ok (.aload_n 0, 1) := by decide +kernel
theorem dX7_decides_1 : decode cX7_decides 1 = .ok (.getfield 39, 3) := by decide +kernel
theorem dX7_decides_4 : decode cX7_decides 4 = .ok (.aload_n 0, 1) := by decide +kernel
theorem dX7_decides_5 : decode cX7_decides 5 = .ok (.getfield 35, 3) := by decide +kernel
theorem dX7_decides_8 : decode cX7_decides 8 = .ok (.invokevirtual 150, 3) := by decide +kernel
theorem dX7_decides_11 : decode cX7_decides 11 = .ok (.aload_n 0, 1) := by decide +kernel
theorem dX7_decides_12 : decode cX7_decides 12 = .ok (.aload_n 0, 1) := by decide +kernel
theorem dX7_decides_13 : decode cX7_decides 13 = .ok (.getfield 39, 3) := by decide +kernel
theorem dX7_decides_16 : decode cX7_decides 16 = .ok (.invokevirtual 153, 3) := by decide +kernel
theorem dX7_decides_19 : decode cX7_decides 19 = .ok (.istore_n 1, 1) := by decide +kernel
theorem dX7_decides_20 : decode cX7_decides 20 = .ok (.iconst 0, 1) := by decide +kernel
theorem dX7_decides_21 : decode cX7_decides 21 = .ok (.istore_n 2, 1) := by decide +kernel
theorem dX7_decides_22 : decode cX7_decides 22 = .ok (.iconst 0, 1) := by decide +kernel
theorem dX7_decides_23 : decode cX7_decides 23 = .ok (.istore_n 3, 1) := by decide +kernel
theorem dX7_decides_24 : decode cX7_decides 24 = .ok (.iload_n 3, 1) := by decide +kernel
theorem dX7_decides_25 : decode cX7_decides 25 = .ok (.aload_n 0, 1) := by decide +kernel
theorem dX7_decides_26 : decode cX7_decides 26 = .ok (.getfield 68, 3) := by decide +kernel
theorem dX7_decides_29 : decode cX7_decides 29 = .ok (.getfield 106, 3) := by decide +kernel
theorem dX7_decides_32 : decode cX7_decides 32 = .ok (.if_icmp .ge 59, 3) := by decide +kernel
theorem dX7_decides_35 : decode cX7_decides 35 = .ok (.aload_n 0, 1) := by decide +kernel
theorem dX7_decides_36 : decode cX7_decides 36 = .ok (.getfield 35, 3) := by decide +kernel
theorem dX7_decides_39 : decode cX7_decides 39 = .ok (.iload_n 3, 1) := by decide +kernel
theorem dX7_decides_40 : decode cX7_decides 40 = .ok (.invokevirtual 112, 3) := by decide +kernel
theorem dX7_decides_43 : decode cX7_decides 43 = .ok (.iconst 1, 1) := by decide +kernel
theorem dX7_decides_44 : decode cX7_decides 44 = .ok (.if_icmp .ne 41, 3) := by decide +kernel
theorem dX7_decides_47 : decode cX7_decides 47 = .ok (.aload_n 0, 1) := by decide +kernel
theorem dX7_decides_48 : decode cX7_decides 48 = .ok (.getfield 39, 3) := by decide +kernel
theorem dX7_decides_51 : decode cX7_decides 51 = .ok (.aload_n 0, 1) := by decide +kernel
theorem dX7_decides_52 : decode cX7_decides 52 = .ok (.getfield 35, 3) := by decide +kernel
theorem dX7_decides_55 : decode cX7_decides 55 = .ok (.invokevirtual 150, 3) := by decide +kernel
theorem dX7_decides_58 : decode cX7_decides 58 = .ok (.aload_n 0, 1) := by decide +kernel
theorem dX7_decides_59 : decode cX7_decides 59 = .ok (.getfield 39, 3) := by decide +kernel
theorem dX7_decides_62 : decode cX7_decides 62 = .ok (.iload_n 3, 1) := by decide +kernel
theorem dX7_decides_63 : decode cX7_decides 63 = .ok (.iconst 0, 1) := by decide +kernel
theorem dX7_decides_64 : decode cX7_decides 64 = .ok (.invokevirtual 136, 3) := by decide +kernel
theorem dX7_decides_67 : decode cX7_decides 67 = .ok (.aload_n 0, 1) := by decide +kernel
theorem dX7_decides_68 : decode cX7_decides 68 = .ok (.aload_n 0, 1) := by decide +kernel
theorem dX7_decides_69 : decode cX7_decides 69 = .ok (.getfield 39, 3) := by decide +kernel
theorem dX7_decides_72 : decode cX7_decides 72 = .ok (.invokevirtual 153, 3) := by decide +kernel
theorem dX7_decides_75 : decode cX7_decides 75 = .ok (.iload_n 1, 1) := by decide +kernel
theorem dX7_decides_76 : decode cX7_decides 76 = .ok (.if_icmp .eq 9, 3) := by decide +kernel
theorem dX7_decides_79 : decode cX7_decides 79 = .ok (.iload_n 2, 1) := by decide +kernel
theorem dX7_decides_80 : decode cX7_decides 80 = .ok (.iconst 1, 1) := by decide +kernel
theorem dX7_decides_81 : decode cX7_decides 81 = .ok (.iload_n 3, 1) := by decide +kernel
theorem dX7_decides_82 : decode cX7_decides 82 = .ok (.ishl, 1) := by decide +kernel
theorem dX7_decides_83 : decode cX7_decides 83 = .ok (.ior, 1) := by decide +kernel
theorem dX7_decides_84 : decode cX7_decides 84 = .ok (.istore_n 2, 1) := by decide +kernel
theorem dX7_decides_85 : decode cX7_decides 85 = .ok (.iinc 3 1, 3) := by decide +kernel
theorem dX7_decides_88 : decode cX7_decides 88 = .ok (.goto (-64), 3) := by decide +kernel
theorem dX7_decides_91 : decode cX7_decides 91 = .ok (.iload_n 2, 1) := by decide +kernel
theorem dX7_decides_92 : decode cX7_decides 92 = .ok (.ireturn, 1) := by decide +kernel
set_option maxRecDepth 20000 in
theorem ggX7_latest_X7_isFreeGrass : GoodIn wsX7_latest wsX7_isFreeGrass := goodIn_r _ [8, 3, 9, 10, 11, 12, 13, 14, 91, 92, 93, 94, 95, 96, 97, 98, 99, 100, 101, 115, 116, 117, 118] (by decide +kernel) (by decide +kernel)
set_option maxRecDepth 20000 in
theorem gX7_latest_X7_isFreeGrass : GoodIn wsX7_latest (wsV RX7 133 RX7 yX7_isFreeGrass wsX7_isFreeGrass) := goodIn_app (goodIn_of _ (by decide +kernel)) ggX7_latest_X7_isFreeGrass
set_option maxRecDepth 20000 in
theorem ggX7_latest_X3_become : GoodIn wsX7_latest wsX3_become := goodIn_r _ [18, 14, 19, 20, 21, 22, 23, 24, 25, 115, 116, 117, 118] (by decide +kernel) (by decide +kernel)
set_option maxRecDepth 20000 in
theorem gX7_latest_X3_become : GoodIn wsX7_latest (wsV RX7 150 RX3 yX3_become wsX3_become) := goodIn_app (goodIn_of _ (by decide +kernel)) ggX7_latest_X3_become
set_option maxRecDepth 20000 in
theorem ggX7_latest_X3_setKind : GoodIn wsX7_latest wsX3_setKind := goodIn_r _ [29, 14, 115, 116, 117, 118] (by decide +kernel) (by decide +kernel)
set_option maxRecDepth 20000 in
theorem gX7_latest_X3_setKind : GoodIn wsX7_latest (wsV RX7 136 RX3 yX3_setKind wsX3_setKind) := goodIn_app (goodIn_of _ (by decide +kernel)) ggX7_latest_X3_setKind
set_option maxRecDepth 20000 in
theorem ggX7_latest_X7_nightsTillBegun : GoodIn wsX7_latest wsX7_nightsTillBegun := goodIn_r _ [33, 34, 1, 35, 36, 37, 12, 38, 25, 39, 40, 41, 42, 43, 44, 45, 46, 47, 48, 49, 50, 51, 52, 53, 54, 55, 56, 57, 58, 59, 60, 61, 62, 63, 64, 65, 66, 67, 68, 69, 70, 10, 11, 13, 14, 71, 7, 72, 73, 74, 75, 76, 77, 78, 79, 80, 81, 82, 83, 84, 85, 86, 87, 88, 89, 90, 27, 28, 29, 91, 92, 93, 94, 95, 96, 97, 98, 99, 100, 101, 115, 116, 117, 118, 102, 103, 104, 105, 106, 107, 108, 109, 110, 111, 112, 113, 114, 119, 120] (by decide +kernel) (by decide +kernel)
set_option maxRecDepth 20000 in
theorem gX7_latest_X7_nightsTillBegun : GoodIn wsX7_latest (wsV RX7 153 RX7 yX7_nightsTillBegun wsX7_nightsTillBegun) := goodIn_app (goodIn_of _ (by decide +kernel)) ggX7_latest_X7_nightsTillBegun
theorem dX7_latest_0 : decode cX7_latest 0 = .ok (.iload_n 1, 1) := by decide +kernel
theorem dX7_latest_1 : decode cX7_latest 1 = .ok (.ifCond .lt 8, 3) := by decide +kernel
theorem dX7_latest_4 : decode cX7_latest 4 = .ok (.iload_n 1, 1) := by decide +kernel
theorem dX7_latest_5 : decode cX7_latest 5 = .ok (.iconst 1, 1) := by decide +kernel
theorem dX7_latest_6 : decode cX7_latest 6 = .ok (.if_icmp .le 5, 3) := by decide +kernel
theorem dX7_latest_9 : decode cX7_latest 9 = .ok (.iconst (-1), 1) := by decide +kernel
theorem dX7_latest_10 : decode cX7_latest 10 = .ok (.ireturn, 1) := by decide +kernel
theorem dX7_latest_11 : decode cX7_latest 11 = .ok (.bipush (-4), 2) := by decide +kernel
theorem dX7_latest_13 : decode cX7_latest 13 = .ok (.istore_n 2, 1) := by decide +kernel
theorem dX7_latest_14 : decode cX7_latest 14 = .ok (.bipush (-4), 2) := by decide +kernel
theorem dX7_latest_16 : decode cX7_latest 16 = .ok (.istore_n 3, 1) := by decide +kernel
theorem dX7_latest_17 : decode cX7_latest 17 = .ok (.iconst 0, 1) := by decide +kernel
theorem dX7_latest_18 : decode cX7_latest 18 = .ok (.istore 4, 2) := by decide +kernel
theorem dX7_latest_20 : decode cX7_latest 20 = .ok (.iload 4, 2) := by decide +kernel
theorem dX7_latest_22 : decode cX7_latest 22 = .ok (.aload_n 0, 1) := by decide +kernel
theorem dX7_latest_23 : decode cX7_latest 23 = .ok (.getfield 68, 3) := by decide +kernel
theorem dX7_latest_26 : decode cX7_latest 26 = .ok (.getfield 106, 3) := by decide +kernel
theorem dX7_latest_29 : decode cX7_latest 29 = .ok (.if_icmp .ge 61, 3) := by decide +kernel
theorem dX7_latest_32 : decode cX7_latest 32 = .ok (.aload_n 0, 1) := by decide +kernel
theorem dX7_latest_33 : decode cX7_latest 33 = .ok (.iload 4, 2) := by decide +kernel
theorem dX7_latest_35 : decode cX7_latest 35 = .ok (.invokevirtual 133, 3) := by decide +kernel
theorem dX7_latest_38 : decode cX7_latest 38 = .ok (.ifCond .eq 46, 3) := by decide +kernel
theorem dX7_latest_41 : decode cX7_latest 41 = .ok (.aload_n 0, 1) := by decide +kernel
theorem dX7_latest_42 : decode cX7_latest 42 = .ok (.getfield 39, 3) := by decide +kernel
theorem dX7_latest_45 : decode cX7_latest 45 = .ok (.aload_n 0, 1) := by decide +kernel
theorem dX7_latest_46 : decode cX7_latest 46 = .ok (.getfield 35, 3) := by decide +kernel
theorem dX7_latest_49 : decode cX7_latest 49 = .ok (.invokevirtual 150, 3) := by decide +kernel
theorem dX7_latest_52 : decode cX7_latest 52 = .ok (.aload_n 0, 1) := by decide +kernel
theorem dX7_latest_53 : decode cX7_latest 53 = .ok (.getfield 39, 3) := by decide +kernel
theorem dX7_latest_56 : decode cX7_latest 56 = .ok (.iload 4, 2) := by decide +kernel
theorem dX7_latest_58 : decode cX7_latest 58 = .ok (.iconst 2, 1) := by decide +kernel
theorem dX7_latest_59 : decode cX7_latest 59 = .ok (.invokevirtual 136, 3) := by decide +kernel
theorem dX7_latest_62 : decode cX7_latest 62 = .ok (.aload_n 0, 1) := by decide +kernel
theorem dX7_latest_63 : decode cX7_latest 63 = .ok (.aload_n 0, 1) := by decide +kernel
theorem dX7_latest_64 : decode cX7_latest 64 = .ok (.getfield 39, 3) := by decide +kernel
theorem dX7_latest_67 : decode cX7_latest 67 = .ok (.invokevirtual 153, 3) := by decide +kernel
theorem dX7_latest_70 : decode cX7_latest 70 = .ok (.istore 5, 2) := by decide +kernel
theorem dX7_latest_72 : decode cX7_latest 72 = .ok (.iload 5, 2) := by decide +kernel
theorem dX7_latest_74 : decode cX7_latest 74 = .ok (.iload_n 2, 1) := by decide +kernel
theorem dX7_latest_75 : decode cX7_latest 75 = .ok (.if_icmp .le 9, 3) := by decide +kernel
theorem dX7_latest_78 : decode cX7_latest 78 = .ok (.iload 5, 2) := by decide +kernel
theorem dX7_latest_80 : decode cX7_latest 80 = .ok (.istore_n 2, 1) := by decide +kernel
theorem dX7_latest_81 : decode cX7_latest 81 = .ok (.iload 4, 2) := by decide +kernel
theorem dX7_latest_83 : decode cX7_latest 83 = .ok (.istore_n 3, 1) := by decide +kernel
theorem dX7_latest_84 : decode cX7_latest 84 = .ok (.iinc 4 1, 3) := by decide +kernel
theorem dX7_latest_87 : decode cX7_latest 87 = .ok (.goto (-67), 3) := by decide +kernel
theorem dX7_latest_90 : decode cX7_latest 90 = .ok (.iload_n 1, 1) := by decide +kernel
theorem dX7_latest_91 : decode cX7_latest 91 = .ok (.ifCond .ne 7, 3) := by decide +kernel
theorem dX7_latest_94 : decode cX7_latest 94 = .ok (.iload_n 3, 1) := by decide +kernel
theorem dX7_latest_95 : decode cX7_latest 95 = .ok (.goto 4, 3) := by decide +kernel
theorem dX7_latest_98 : decode cX7_latest 98 = .ok (.iload_n 2, 1) := by decide +kernel
theorem dX7_latest_99 : decode cX7_latest 99 = .ok (.ireturn, 1) := by decide +kernel
set_option maxRecDepth 20000 in
theorem ggX7_seen_X6_has : GoodIn wsX7_seen wsX6_has := goodIn_r _ [7, 8, 9, 32, 33, 34, 35, 36, 37, 38, 39, 40, 41, 42, 43, 44] (by decide +kernel) (by decide +kernel)
set_option maxRecDepth 20000 in
theorem gX7_seen_X6_has : GoodIn wsX7_seen (wsV RX7 109 RX6 yX6_has wsX6_has) := goodIn_app (goodIn_of _ (by decide +kernel)) ggX7_seen_X6_has
set_option maxRecDepth 20000 in
theorem ggX7_seen_X4_add : GoodIn wsX7_seen wsX4_add := goodIn_r _ [14, 15, 16, 17, 29, 30, 31] (by decide +kernel) (by decide +kernel)
set_option maxRecDepth 20000 in
theorem gX7_seen_X4_add : GoodIn wsX7_seen (wsV RX7 176 RX4 yX4_add wsX4_add) := goodIn_app (goodIn_of _ (by decide +kernel)) ggX7_seen_X4_add
theorem dX7_seen_0 : decode cX7_seen 0 = .ok (.aload_n 0, 1) := by decide +kernel
theorem dX7_seen_1 : decode cX7_seen 1 = .ok (.getfield 68, 3) := by decide +kernel
theorem dX7_seen_4 : decode cX7_seen 4 = .ok (.iload_n 1, 1) := by decide +kernel
theorem dX7_seen_5 : decode cX7_seen 5 = .ok (.invokevirtual 109, 3) := by decide +kernel
theorem dX7_seen_8 : decode cX7_seen 8 = .ok (.ifCond .eq 13, 3) := by decide +kernel
theorem dX7_seen_11 : decode cX7_seen 11 = .ok (.iload_n 2, 1) := by decide +kernel
theorem dX7_seen_12 : decode cX7_seen 12 = .ok (.ifCond .lt 9, 3) := by decide +kernel
theorem dX7_seen_15 : decode cX7_seen 15 = .ok (.iload_n 2, 1) := by decide +kernel
theorem dX7_seen_16 : decode cX7_seen 16 = .ok (.bipush 30, 2) := by decide +kernel
theorem dX7_seen_18 : decode cX7_seen 18 = .ok (.if_icmp .le 5, 3) := by decide +kernel
theorem dX7_seen_21 : decode cX7_seen 21 = .ok (.iconst (-1), 1) := by decide +kernel
theorem dX7_seen_22 : decode cX7_seen 22 = .ok (.ireturn, 1) := by decide +kernel
theorem dX7_seen_23 : decode cX7_seen 23 = .ok (.aload_n 0, 1) := by decide +kernel
theorem dX7_seen_24 : decode cX7_seen 24 = .ok (.getfield 57, 3) := by decide +kernel
theorem dX7_seen_27 : decode cX7_seen 27 = .ok (.iload_n 1, 1) := by decide +kernel
theorem dX7_seen_28 : decode cX7_seen 28 = .ok (.iload_n 2, 1) := by decide +kernel
theorem dX7_seen_29 : decode cX7_seen 29 = .ok (.invokevirtual 176, 3) := by decide +kernel
theorem dX7_seen_32 : decode cX7_seen 32 = .ok (.ifCond .eq 13, 3) := by decide +kernel
theorem dX7_seen_35 : decode cX7_seen 35 = .ok (.aload_n 0, 1) := by decide +kernel
theorem dX7_seen_36 : decode cX7_seen 36 = .ok (.getfield 57, 3) := by decide +kernel
theorem dX7_seen_39 : decode cX7_seen 39 = .ok (.getfield 102, 3) := by decide +kernel
theorem dX7_seen_42 : decode cX7_seen 42 = .ok (.goto 5, 3) := by decide +kernel
theorem dX7_seen_45 : decode cX7_seen 45 = .ok (.bipush (-3), 2) := by decide +kernel
theorem dX7_seen_47 : decode cX7_seen 47 = .ok (.ireturn, 1) := by decide +kernel
theorem dX7_forget_0 : decode cX7_forget 0 = .ok (.aload_n 0, 1) := by decide +kernel
theorem dX7_forget_1 : decode cX7_forget 1 = .ok (.getfield 57, 3) := by decide +kernel
theorem dX7_forget_4 : decode cX7_forget 4 = .ok (.getfield 102, 3) := by decide +kernel
theorem dX7_forget_7 : decode cX7_forget 7 = .ok (.istore_n 1, 1) := by decide +kernel
theorem dX7_forget_8 : decode cX7_forget 8 = .ok (.aload_n 0, 1) := by decide +kernel
theorem dX7_forget_9 : decode cX7_forget 9 = .ok (.getfield 57, 3) := by decide +kernel
theorem dX7_forget_12 : decode cX7_forget 12 = .ok (.iconst 0, 1) := by decide +kernel
theorem dX7_forget_13 : decode cX7_forget 13 = .ok (.putfield 102, 3) := by decide +kernel
theorem dX7_forget_16 : decode cX7_forget 16 = .ok (.iload_n 1, 1) := by decide +kernel
theorem dX7_forget_17 : decode cX7_forget 17 = .ok (.ireturn, 1) := by decide +kernel
set_option maxRecDepth 20000 in
theorem ggX7_salter_X7_agreesIfSalted : GoodIn wsX7_salter wsX7_agreesIfSalted := goodIn_r _ [6, 7, 1, 8, 9, 10, 11, 12, 13, 14, 15, 16, 17, 18, 19, 20, 21, 22, 23, 24, 25, 26, 27, 28, 29, 30, 31, 32, 33, 34, 35, 36, 37, 38, 39, 40, 41, 42, 43, 44, 45, 46, 47, 48, 49, 50, 51, 52, 53, 54, 55, 56, 57, 58, 59, 60, 61, 62, 63, 64, 65, 66, 67, 68, 69, 70, 71, 72, 73, 5, 74, 75, 76, 77, 78, 79, 80, 81, 82, 83, 84, 85, 86, 87, 88, 89, 90, 91, 92, 102, 103, 104, 105, 106, 107, 108, 109, 110, 111, 112, 126, 127, 128, 129, 113, 114, 115, 116, 117, 118, 119, 120, 121, 122, 123, 124, 125, 130, 131, 132, 133, 134] (by decide +kernel) (by decide +kernel)
set_option maxRecDepth 20000 in
theorem gX7_salter_X7_agreesIfSalted : GoodIn wsX7_salter (wsV RX7 179 RX7 yX7_agreesIfSalted wsX7_agreesIfSalted) := goodIn_app (goodIn_of _ (by decide +kernel)) ggX7_salter_X7_agreesIfSalted
set_option maxRecDepth 20000 in
theorem ggX7_salter_X6_kindAt : GoodIn wsX7_salter wsX6_kindAt := goodIn_r _ [96, 97, 98, 99, 100, 38, 101, 87, 113, 114, 115, 116, 117, 118, 119, 120, 121, 122, 123, 124, 125] (by decide +kernel) (by decide +kernel)
set_option maxRecDepth 20000 in
theorem gX7_salter_X6_kindAt : GoodIn wsX7_salter (wsV RX7 182 RX6 yX6_kindAt wsX6_kindAt) := goodIn_app (goodIn_of _ (by decide +kernel)) ggX7_salter_X6_kindAt
theorem dX7_salter_0 : decode cX7_salter 0 = .ok (.iload_n 1, 1) := by decide +kernel
theorem dX7_salter_1 : decode cX7_salter 1 = .ok (.ifCond .lt 8, 3) := by decide +kernel
theorem dX7_salter_4 : decode cX7_salter 4 = .ok (.iload_n 1, 1) := by decide +kernel
theorem dX7_salter_5 : decode cX7_salter 5 = .ok (.iconst 1, 1) := by decide +kernel
theorem dX7_salter_6 : decode cX7_salter 6 = .ok (.if_icmp .le 5, 3) := by decide +kernel
theorem dX7_salter_9 : decode cX7_salter 9 = .ok (.iconst (-1), 1) := by decide +kernel
theorem dX7_salter_10 : decode cX7_salter 10 = .ok (.ireturn, 1) := by decide +kernel
theorem dX7_salter_11 : decode cX7_salter 11 = .ok (.iload_n 1, 1) := by decide +kernel
theorem dX7_salter_12 : decode cX7_salter 12 = .ok (.iconst 1, 1) := by decide +kernel
theorem dX7_salter_13 : decode cX7_salter 13 = .ok (.if_icmp .ne 18, 3) := by decide +kernel
theorem dX7_salter_16 : decode cX7_salter 16 = .ok (.aload_n 0, 1) := by decide +kernel
theorem dX7_salter_17 : decode cX7_salter 17 = .ok (.bipush (-4), 2) := by decide +kernel
theorem dX7_salter_19 : decode cX7_salter 19 = .ok (.invokevirtual 179, 3) := by decide +kernel
theorem dX7_salter_22 : decode cX7_salter 22 = .ok (.ifCond .eq 7, 3) := by decide +kernel
theorem dX7_salter_25 : decode cX7_salter 25 = .ok (.iconst 1, 1) := by decide +kernel
theorem dX7_salter_26 : decode cX7_salter 26 = .ok (.goto 4, 3) := by decide +kernel
theorem dX7_salter_29 : decode cX7_salter 29 = .ok (.iconst 0, 1) := by decide +kernel
theorem dX7_salter_30 : decode cX7_salter 30 = .ok (.ireturn, 1) := by decide +kernel
theorem dX7_salter_31 : decode cX7_salter 31 = .ok (.iconst 0, 1) := by decide +kernel
theorem dX7_salter_32 : decode cX7_salter 32 = .ok (.istore_n 2, 1) := by decide +kernel
theorem dX7_salter_33 : decode cX7_salter 33 = .ok (.iconst 0, 1) := by decide +kernel
theorem dX7_salter_34 : decode cX7_salter 34 = .ok (.istore_n 3, 1) := by decide +kernel
theorem dX7_salter_35 : decode cX7_salter 35 = .ok (.iload_n 3, 1) := by decide +kernel
theorem dX7_salter_36 : decode cX7_salter 36 = .ok (.aload_n 0, 1) := by decide +kernel
theorem dX7_salter_37 : decode cX7_salter 37 = .ok (.getfield 68, 3) := by decide +kernel
theorem dX7_salter_40 : decode cX7_salter 40 = .ok (.getfield 106, 3) := by decide +kernel
theorem dX7_salter_43 : decode cX7_salter 43 = .ok (.if_icmp .ge 45, 3) := by decide +kernel
theorem dX7_salter_46 : decode cX7_salter 46 = .ok (.aload_n 0, 1) := by decide +kernel
theorem dX7_salter_47 : decode cX7_salter 47 = .ok (.getfield 68, 3) := by decide +kernel
theorem dX7_salter_50 : decode cX7_salter 50 = .ok (.iload_n 3, 1) := by decide +kernel
theorem dX7_salter_51 : decode cX7_salter 51 = .ok (.invokevirtual 182, 3) := by decide +kernel
theorem dX7_salter_54 : decode cX7_salter 54 = .ok (.ifCond .ne 28, 3) := by decide +kernel
theorem dX7_salter_57 : decode cX7_salter 57 = .ok (.iload_n 3, 1) := by decide +kernel
theorem dX7_salter_58 : decode cX7_salter 58 = .ok (.aload_n 0, 1) := by decide +kernel
theorem dX7_salter_59 : decode cX7_salter 59 = .ok (.getfield 68, 3) := by decide +kernel
theorem dX7_salter_62 : decode cX7_salter 62 = .ok (.getfield 183, 3) := by decide +kernel
theorem dX7_salter_65 : decode cX7_salter 65 = .ok (.if_icmp .eq 17, 3) := by decide +kernel
theorem dX7_salter_68 : decode cX7_salter 68 = .ok (.aload_n 0, 1) := by decide +kernel
theorem dX7_salter_69 : decode cX7_salter 69 = .ok (.iload_n 3, 1) := by decide +kernel
theorem dX7_salter_70 : decode cX7_salter 70 = .ok (.invokevirtual 179, 3) := by decide +kernel
theorem dX7_salter_73 : decode cX7_salter 73 = .ok (.ifCond .eq 9, 3) := by decide +kernel
theorem dX7_salter_76 : decode cX7_salter 76 = .ok (.iload_n 2, 1) := by decide +kernel
theorem dX7_salter_77 : decode cX7_salter 77 = .ok (.iconst 1, 1) := by decide +kernel
theorem dX7_salter_78 : decode cX7_salter 78 = .ok (.iload_n 3, 1) := by decide +kernel
theorem dX7_salter_79 : decode cX7_salter 79 = .ok (.ishl, 1) := by decide +kernel
theorem dX7_salter_80 : decode cX7_salter 80 = .ok (.ior, 1) := by decide +kernel
theorem dX7_salter_81 : decode cX7_salter 81 = .ok (.istore_n 2, 1) := by decide +kernel
theorem dX7_salter_82 : decode cX7_salter 82 = .ok (.iinc 3 1, 3) := by decide +kernel
theorem dX7_salter_85 : decode cX7_salter 85 = .ok (.goto (-50), 3) := by decide +kernel
theorem dX7_salter_88 : decode cX7_salter 88 = .ok (.iload_n 2, 1) := by decide +kernel
theorem dX7_salter_89 : decode cX7_salter 89 = .ok (.ireturn, 1) := by decide +kernel
set_option maxRecDepth 20000 in
theorem ggX7_slept_X3_setOut : GoodIn wsX7_slept wsX3_setOut := goodIn_r _ [8, 9, 10, 11, 12, 13, 14, 15, 16, 90, 91, 92, 93, 94, 95, 96, 97, 98, 99, 100, 101, 102, 103, 104, 105, 106] (by decide +kernel) (by decide +kernel)
set_option maxRecDepth 20000 in
theorem gX7_slept_X3_setOut : GoodIn wsX7_slept (wsV RX7 98 RX3 yX3_setOut wsX3_setOut) := goodIn_app (goodIn_of _ (by decide +kernel)) ggX7_slept_X3_setOut
set_option maxRecDepth 20000 in
theorem ggX7_slept_X6_dampOn : GoodIn wsX7_slept wsX6_dampOn := goodIn_r _ [21, 22, 23, 90, 91, 92, 93, 94, 95, 96, 97, 98, 99, 100, 101, 102] (by decide +kernel) (by decide +kernel)
set_option maxRecDepth 20000 in
theorem gX7_slept_X6_dampOn : GoodIn wsX7_slept (wsV RX7 119 RX6 yX6_dampOn wsX6_dampOn) := goodIn_app (goodIn_of _ (by decide +kernel)) ggX7_slept_X6_dampOn
set_option maxRecDepth 20000 in
theorem ggX7_slept_X5_goNight : GoodIn wsX7_slept wsX5_goNight := goodIn_r _ [28, 29, 30, 31, 7, 32, 16, 33, 34, 35, 27, 36, 37, 38, 39, 40, 41, 42, 43, 44, 45, 46, 47, 48, 20, 49, 50, 51, 52, 53, 54, 9, 55, 56, 57, 58, 59, 60, 61, 62, 63, 64, 65, 66, 67, 68, 69, 70, 71, 72, 73, 74, 75, 76, 77, 78, 103, 104, 105, 106, 107, 108, 90, 91, 92, 93, 94, 95, 96, 97, 98, 99, 100, 101, 102] (by decide +kernel) (by decide +kernel)
set_option maxRecDepth 20000 in
theorem gX7_slept_X5_goNight : GoodIn wsX7_slept (wsV RX7 186 RX5 yX5_goNight wsX5_goNight) := goodIn_app (goodIn_of _ (by decide +kernel)) ggX7_slept_X5_goNight
theorem dX7_slept_0 : decode cX7_slept 0 = .ok (.aload_n 0, 1) := by decide +kernel
theorem dX7_slept_1 : decode cX7_slept 1 = .ok (.getfield 39, 3) := by decide +kernel
theorem dX7_slept_4 : decode cX7_slept 4 = .ok (.aload_n 0, 1) := by decide +kernel
theorem dX7_slept_5 : decode cX7_slept 5 = .ok (.getfield 68, 3) := by decide +kernel
theorem dX7_slept_8 : decode cX7_slept 8 = .ok (.invokevirtual 98, 3) := by decide +kernel
theorem dX7_slept_11 : decode cX7_slept 11 = .ok (.iconst 0, 1) := by decide +kernel
theorem dX7_slept_12 : decode cX7_slept 12 = .ok (.istore_n 1, 1) := by decide +kernel
theorem dX7_slept_13 : decode cX7_slept 13 = .ok (.iconst 0, 1) := by decide +kernel
theorem dX7_slept_14 : decode cX7_slept 14 = .ok (.istore_n 2, 1) := by decide +kernel
theorem dX7_slept_15 : decode cX7_slept 15 = .ok (.iload_n 2, 1) := by decide +kernel
theorem dX7_slept_16 : decode cX7_slept 16 = .ok (.bipush 30, 2) := by decide +kernel
theorem dX7_slept_18 : decode cX7_slept 18 = .ok (.if_icmp .ge 41, 3) := by decide +kernel
theorem dX7_slept_21 : decode cX7_slept 21 = .ok (.aload_n 0, 1) := by decide +kernel
theorem dX7_slept_22 : decode cX7_slept 22 = .ok (.getfield 28, 3) := by decide +kernel
theorem dX7_slept_25 : decode cX7_slept 25 = .ok (.aload_n 0, 1) := by decide +kernel
theorem dX7_slept_26 : decode cX7_slept 26 = .ok (.getfield 68, 3) := by decide +kernel
theorem dX7_slept_29 : decode cX7_slept 29 = .ok (.aload_n 0, 1) := by decide +kernel
theorem dX7_slept_30 : decode cX7_slept 30 = .ok (.getfield 39, 3) := by decide +kernel
theorem dX7_slept_33 : decode cX7_slept 33 = .ok (.aload_n 0, 1) := by decide +kernel
theorem dX7_slept_34 : decode cX7_slept 34 = .ok (.getfield 68, 3) := by decide +kernel
theorem dX7_slept_37 : decode cX7_slept 37 = .ok (.iload_n 2, 1) := by decide +kernel
theorem dX7_slept_38 : decode cX7_slept 38 = .ok (.invokevirtual 119, 3) := by decide +kernel
theorem dX7_slept_41 : decode cX7_slept 41 = .ok (.invokevirtual 186, 3) := by decide +kernel
theorem dX7_slept_44 : decode cX7_slept 44 = .ok (.ifCond .eq 9, 3) := by decide +kernel
theorem dX7_slept_47 : decode cX7_slept 47 = .ok (.iload_n 1, 1) := by decide +kernel
theorem dX7_slept_48 : decode cX7_slept 48 = .ok (.iconst 1, 1) := by decide +kernel
theorem dX7_slept_49 : decode cX7_slept 49 = .ok (.iload_n 2, 1) := by decide +kernel
theorem dX7_slept_50 : decode cX7_slept 50 = .ok (.ishl, 1) := by decide +kernel
theorem dX7_slept_51 : decode cX7_slept 51 = .ok (.ior, 1) := by decide +kernel
theorem dX7_slept_52 : decode cX7_slept 52 = .ok (.istore_n 1, 1) := by decide +kernel
theorem dX7_slept_53 : decode cX7_slept 53 = .ok (.iinc 2 1, 3) := by decide +kernel
theorem dX7_slept_56 : decode cX7_slept 56 = .ok (.goto (-41), 3) := by decide +kernel
theorem dX7_slept_59 : decode cX7_slept 59 = .ok (.iload_n 1, 1) := by decide +kernel
theorem dX7_slept_60 : decode cX7_slept 60 = .ok (.ireturn, 1) := by decide +kernel
set_option maxRecDepth 20000 in
theorem ggX7_likely_X7_isNoChance : GoodIn wsX7_likely wsX7_isNoChance := goodIn_r _ [8] (by decide +kernel) (by decide +kernel)
set_option maxRecDepth 20000 in
theorem gX7_likely_X7_isNoChance : GoodIn wsX7_likely (va_wsS RX7 190 yX7_isNoChance wsX7_isNoChance) := goodIn_app (goodIn_of _ (by decide +kernel)) ggX7_likely_X7_isNoChance
set_option maxRecDepth 20000 in
theorem ggX7_likely_X7_waysToBegin : GoodIn wsX7_likely wsX7_waysToBegin := goodIn_r _ [12, 13, 14, 15, 16, 17, 18, 19, 20, 21, 22, 23, 24, 25, 26, 27, 28, 29, 30, 31, 32, 33, 34, 35, 7, 36, 37, 38, 39, 40, 41, 42, 43, 44, 45, 46, 47, 48, 49, 50, 51, 52, 53, 54, 55, 56, 57, 58, 59, 60, 61, 62, 63, 64, 65, 66, 67, 68, 69, 70, 71, 72, 73, 74, 75, 76, 77, 78, 79, 80, 81, 82, 83, 84, 85, 86, 87, 88, 89, 90, 91, 95, 96, 97, 98, 99, 100, 101, 102, 103, 104, 105, 106, 107, 108, 109, 110, 111, 112, 113, 114, 115, 116, 117, 118, 119, 120, 121, 122, 123, 124] (by decide +kernel) (by decide +kernel)
set_option maxRecDepth 20000 in
theorem gX7_likely_X7_waysToBegin : GoodIn wsX7_likely (wsV RX7 193 RX7 yX7_waysToBegin wsX7_waysToBegin) := goodIn_app (goodIn_of _ (by decide +kernel)) ggX7_likely_X7_waysToBegin
set_option maxRecDepth 20000 in
theorem ggX7_likely_X7_power : GoodIn wsX7_likely wsX7_power := goodIn_r _ [39] (by decide +kernel) (by decide +kernel)
set_option maxRecDepth 20000 in
theorem gX7_likely_X7_power : GoodIn wsX7_likely (va_wsS RX7 196 yX7_power wsX7_power) := goodIn_app (goodIn_of _ (by decide +kernel)) ggX7_likely_X7_power
set_option maxRecDepth 20000 in
theorem ggX7_likely_X7_commonDivisor : GoodIn wsX7_likely wsX7_commonDivisor := goodIn_r _ [94] (by decide +kernel) (by decide +kernel)
set_option maxRecDepth 20000 in
theorem gX7_likely_X7_commonDivisor : GoodIn wsX7_likely (va_wsS RX7 199 yX7_commonDivisor wsX7_commonDivisor) := goodIn_app (goodIn_of _ (by decide +kernel)) ggX7_likely_X7_commonDivisor
theorem dX7_likely_0 : decode cX7_likely 0 = .ok (.iload_n 1, 1) := by decide +kernel
theorem dX7_likely_1 : decode cX7_likely 1 = .ok (.iload_n 2, 1) := by decide +kernel
theorem dX7_likely_2 : decode cX7_likely 2 = .ok (.invokestatic 190, 3) := by decide +kernel
theorem dX7_likely_5 : decode cX7_likely 5 = .ok (.ifCond .ne 12, 3) := by decide +kernel
theorem dX7_likely_8 : decode cX7_likely 8 = .ok (.iload_n 3, 1) := by decide +kernel
theorem dX7_likely_9 : decode cX7_likely 9 = .ok (.ifCond .lt 8, 3) := by decide +kernel
theorem dX7_likely_12 : decode cX7_likely 12 = .ok (.iload_n 3, 1) := by decide +kernel
theorem dX7_likely_13 : decode cX7_likely 13 = .ok (.iconst 1, 1) := by decide +kernel
theorem dX7_likely_14 : decode cX7_likely 14 = .ok (.if_icmp .le 5, 3) := by decide +kernel
theorem dX7_likely_17 : decode cX7_likely 17 = .ok (.iconst (-1), 1) := by decide +kernel
theorem dX7_likely_18 : decode cX7_likely 18 = .ok (.ireturn, 1) := by decide +kernel
theorem dX7_likely_19 : decode cX7_likely 19 = .ok (.aload_n 0, 1) := by decide +kernel
theorem dX7_likely_20 : decode cX7_likely 20 = .ok (.iload_n 1, 1) := by decide +kernel
theorem dX7_likely_21 : decode cX7_likely 21 = .ok (.iload_n 2, 1) := by decide +kernel
theorem dX7_likely_22 : decode cX7_likely 22 = .ok (.invokevirtual 193, 3) := by decide +kernel
theorem dX7_likely_25 : decode cX7_likely 25 = .ok (.istore 4, 2) := by decide +kernel
theorem dX7_likely_27 : decode cX7_likely 27 = .ok (.bipush 10, 2) := by decide +kernel
theorem dX7_likely_29 : decode cX7_likely 29 = .ok (.iload_n 1, 1) := by decide +kernel
theorem dX7_likely_30 : decode cX7_likely 30 = .ok (.invokestatic 196, 3) := by decide +kernel
theorem dX7_likely_33 : decode cX7_likely 33 = .ok (.istore 5, 2) := by decide +kernel
theorem dX7_likely_35 : decode cX7_likely 35 = .ok (.iconst 1, 1) := by decide +kernel
theorem dX7_likely_36 : decode cX7_likely 36 = .ok (.iload 4, 2) := by decide +kernel
theorem dX7_likely_38 : decode cX7_likely 38 = .ok (.iload 5, 2) := by decide +kernel
theorem dX7_likely_40 : decode cX7_likely 40 = .ok (.invokestatic 199, 3) := by decide +kernel
theorem dX7_likely_43 : decode cX7_likely 43 = .ok (.invokestatic 202, 3) := by decide +kernel
theorem dX7_likely_46 : decode cX7_likely 46 = .ok (.istore 6, 2) := by decide +kernel
theorem dX7_likely_48 : decode cX7_likely 48 = .ok (.iload_n 3, 1) := by decide +kernel
theorem dX7_likely_49 : decode cX7_likely 49 = .ok (.ifCond .ne 8, 3) := by decide +kernel
theorem dX7_likely_52 : decode cX7_likely 52 = .ok (.iload 4, 2) := by decide +kernel
theorem dX7_likely_54 : decode cX7_likely 54 = .ok (.goto 5, 3) := by decide +kernel
theorem dX7_likely_57 : decode cX7_likely 57 = .ok (.iload 5, 2) := by decide +kernel
theorem dX7_likely_59 : decode cX7_likely 59 = .ok (.iload 6, 2) := by decide +kernel
theorem dX7_likely_61 : decode cX7_likely 61 = .ok (.idiv, 1) := by decide +kernel
theorem dX7_likely_62 : decode cX7_likely 62 = .ok (.ireturn, 1) := by decide +kernel
set_option maxRecDepth 20000 in
theorem ggX7_bet_X7_isNoChance : GoodIn wsX7_bet wsX7_isNoChance := goodIn_r _ [4] (by decide +kernel) (by decide +kernel)
set_option maxRecDepth 20000 in
theorem gX7_bet_X7_isNoChance : GoodIn wsX7_bet (va_wsS RX7 190 yX7_isNoChance wsX7_isNoChance) := goodIn_app (goodIn_of _ (by decide +kernel)) ggX7_bet_X7_isNoChance
set_option maxRecDepth 20000 in
theorem ggX7_bet_X7_waysToBegin : GoodIn wsX7_bet wsX7_waysToBegin := goodIn_r _ [8, 9, 10, 11, 12, 13, 14, 15, 16, 17, 18, 19, 20, 21, 22, 23, 24, 25, 26, 27, 28, 29, 30, 31, 3, 32, 33, 34, 35, 36, 37, 38, 39, 40, 41, 42, 43, 44, 45, 46, 47, 48, 49, 50, 51, 52, 53, 54, 55, 56, 57, 58, 59, 60, 61, 62, 63, 64, 65, 66, 67, 68, 69, 70, 71, 72, 73, 74, 75, 76, 77, 78, 79, 80, 81, 82, 83, 84, 85, 86, 87, 88, 89, 90, 91, 92, 93, 94, 95, 96, 97, 98, 99, 100, 101, 102, 103, 104, 105, 106, 107, 108, 109, 110, 111, 112, 113, 114, 115, 116, 117] (by decide +kernel) (by decide +kernel)
set_option maxRecDepth 20000 in
theorem gX7_bet_X7_waysToBegin : GoodIn wsX7_bet (wsV RX7 193 RX7 yX7_waysToBegin wsX7_waysToBegin) := goodIn_app (goodIn_of _ (by decide +kernel)) ggX7_bet_X7_waysToBegin
set_option maxRecDepth 20000 in
theorem ggX7_bet_X7_power : GoodIn wsX7_bet wsX7_power := goodIn_r _ [35] (by decide +kernel) (by decide +kernel)
set_option maxRecDepth 20000 in
theorem gX7_bet_X7_power : GoodIn wsX7_bet (va_wsS RX7 196 yX7_power wsX7_power) := goodIn_app (goodIn_of _ (by decide +kernel)) ggX7_bet_X7_power
theorem dX7_bet_0 : decode cX7_bet 0 = .ok (.iload_n 1, 1) := by decide +kernel
theorem dX7_bet_1 : decode cX7_bet 1 = .ok (.iload_n 2, 1) := by decide +kernel
theorem dX7_bet_2 : decode cX7_bet 2 = .ok (.invokestatic 190, 3) := by decide +kernel
theorem dX7_bet_5 : decode cX7_bet 5 = .ok (.ifCond .eq 5, 3) := by decide +kernel
theorem dX7_bet_8 : decode cX7_bet 8 = .ok (.iconst (-1), 1) := by decide +kernel
theorem dX7_bet_9 : decode cX7_bet 9 = .ok (.ireturn, 1) := by decide +kernel
theorem dX7_bet_10 : decode cX7_bet 10 = .ok (.aload_n 0, 1) := by decide +kernel
theorem dX7_bet_11 : decode cX7_bet 11 = .ok (.iload_n 1, 1) := by decide +kernel
theorem dX7_bet_12 : decode cX7_bet 12 = .ok (.iload_n 2, 1) := by decide +kernel
theorem dX7_bet_13 : decode cX7_bet 13 = .ok (.invokevirtual 193, 3) := by decide +kernel
theorem dX7_bet_16 : decode cX7_bet 16 = .ok (.istore_n 3, 1) := by decide +kernel
theorem dX7_bet_17 : decode cX7_bet 17 = .ok (.bipush 10, 2) := by decide +kernel
theorem dX7_bet_19 : decode cX7_bet 19 = .ok (.iload_n 1, 1) := by decide +kernel
theorem dX7_bet_20 : decode cX7_bet 20 = .ok (.invokestatic 196, 3) := by decide +kernel
theorem dX7_bet_23 : decode cX7_bet 23 = .ok (.iload_n 3, 1) := by decide +kernel
theorem dX7_bet_24 : decode cX7_bet 24 = .ok (.isub, 1) := by decide +kernel
theorem dX7_bet_25 : decode cX7_bet 25 = .ok (.istore 4, 2) := by decide +kernel
theorem dX7_bet_27 : decode cX7_bet 27 = .ok (.iload_n 3, 1) := by decide +kernel
theorem dX7_bet_28 : decode cX7_bet 28 = .ok (.iload 4, 2) := by decide +kernel
theorem dX7_bet_30 : decode cX7_bet 30 = .ok (.if_icmp .ne 5, 3) := by decide +kernel
theorem dX7_bet_33 : decode cX7_bet 33 = .ok (.iconst 0, 1) := by decide +kernel
theorem dX7_bet_34 : decode cX7_bet 34 = .ok (.ireturn, 1) := by decide +kernel
theorem dX7_bet_35 : decode cX7_bet 35 = .ok (.iload_n 3, 1) := by decide +kernel
theorem dX7_bet_36 : decode cX7_bet 36 = .ok (.iload 4, 2) := by decide +kernel
theorem dX7_bet_38 : decode cX7_bet 38 = .ok (.if_icmp .le 7, 3) := by decide +kernel
theorem dX7_bet_41 : decode cX7_bet 41 = .ok (.iconst 1, 1) := by decide +kernel
theorem dX7_bet_42 : decode cX7_bet 42 = .ok (.goto 4, 3) := by decide +kernel
theorem dX7_bet_45 : decode cX7_bet 45 = .ok (.iconst 2, 1) := by decide +kernel
theorem dX7_bet_46 : decode cX7_bet 46 = .ok (.ireturn, 1) := by decide +kernel
set_option maxRecDepth 20000 in
theorem ggX7_year_X3_become : GoodIn wsX7_year wsX3_become := goodIn_r _ [9, 10, 11, 12, 13, 14, 15, 16, 17, 94, 95, 96, 97] (by decide +kernel) (by decide +kernel)
set_option maxRecDepth 20000 in
theorem gX7_year_X3_become : GoodIn wsX7_year (wsV RX7 150 RX3 yX3_become wsX3_become) := goodIn_app (goodIn_of _ (by decide +kernel)) ggX7_year_X3_become
set_option maxRecDepth 20000 in
theorem ggX7_year_X3_hasBegun : GoodIn wsX7_year wsX3_hasBegun := goodIn_r _ [21, 17, 94, 95, 96, 97] (by decide +kernel) (by decide +kernel)
set_option maxRecDepth 20000 in
theorem gX7_year_X3_hasBegun : GoodIn wsX7_year (wsV RX7 207 RX3 yX3_hasBegun wsX3_hasBegun) := goodIn_app (goodIn_of _ (by decide +kernel)) ggX7_year_X3_hasBegun
set_option maxRecDepth 20000 in
theorem ggX7_year_X7_drawnDamp : GoodIn wsX7_year wsX7_drawnDamp := goodIn_r _ [25, 26, 27, 28, 29, 30] (by decide +kernel) (by decide +kernel)
set_option maxRecDepth 20000 in
theorem gX7_year_X7_drawnDamp : GoodIn wsX7_year (va_wsS RX7 211 yX7_drawnDamp wsX7_drawnDamp) := goodIn_app (goodIn_of _ (by decide +kernel)) ggX7_year_X7_drawnDamp
set_option maxRecDepth 20000 in
theorem ggX7_year_X5_goNight : GoodIn wsX7_year wsX5_goNight := goodIn_r _ [35, 36, 19, 20, 8, 21, 17, 37, 38, 39, 34, 40, 41, 42, 43, 44, 45, 46, 47, 48, 49, 50, 51, 52, 53, 54, 55, 56, 57, 58, 59, 10, 60, 24, 61, 62, 63, 64, 65, 66, 67, 68, 69, 70, 71, 72, 73, 74, 75, 76, 77, 78, 79, 80, 81, 82, 94, 95, 96, 97, 98, 99, 100, 101, 102, 103, 104, 105, 106, 107, 108, 109, 110, 111, 112] (by decide +kernel) (by decide +kernel)
set_option maxRecDepth 20000 in
theorem gX7_year_X5_goNight : GoodIn wsX7_year (wsV RX7 186 RX5 yX5_goNight wsX5_goNight) := goodIn_app (goodIn_of _ (by decide +kernel)) ggX7_year_X5_goNight
theorem dX7_year_0 : decode cX7_year 0 = .ok (.iload_n 1, 1) := by decide +kernel
theorem dX7_year_1 : decode cX7_year 1 = .ok (.ifCond .lt 19, 3) := by decide +kernel
theorem dX7_year_4 : decode cX7_year 4 = .ok (.iload_n 1, 1) := by decide +kernel
theorem dX7_year_5 : decode cX7_year 5 = .ok (.sipush 9999, 3) := by decide +kernel
theorem dX7_year_8 : decode cX7_year 8 = .ok (.if_icmp .gt 12, 3) := by decide +kernel
theorem dX7_year_11 : decode cX7_year 11 = .ok (.iload_n 2, 1) := by decide +kernel
theorem dX7_year_12 : decode cX7_year 12 = .ok (.ifCond .lt 8, 3) := by decide +kernel
theorem dX7_year_15 : decode cX7_year 15 = .ok (.iload_n 2, 1) := by decide +kernel
theorem dX7_year_16 : decode cX7_year 16 = .ok (.iconst 1, 1) := by decide +kernel
theorem dX7_year_17 : decode cX7_year 17 = .ok (.if_icmp .le 5, 3) := by decide +kernel
theorem dX7_year_20 : decode cX7_year 20 = .ok (.iconst (-1), 1) := by decide +kernel
theorem dX7_year_21 : decode cX7_year 21 = .ok (.ireturn, 1) := by decide +kernel
theorem dX7_year_22 : decode cX7_year 22 = .ok (.aload_n 0, 1) := by decide +kernel
theorem dX7_year_23 : decode cX7_year 23 = .ok (.getfield 39, 3) := by decide +kernel
theorem dX7_year_26 : decode cX7_year 26 = .ok (.aload_n 0, 1) := by decide +kernel
theorem dX7_year_27 : decode cX7_year 27 = .ok (.getfield 35, 3) := by decide +kernel
theorem dX7_year_30 : decode cX7_year 30 = .ok (.invokevirtual 150, 3) := by decide +kernel
theorem dX7_year_33 : decode cX7_year 33 = .ok (.iconst 0, 1) := by decide +kernel
theorem dX7_year_34 : decode cX7_year 34 = .ok (.istore_n 3, 1) := by decide +kernel
theorem dX7_year_35 : decode cX7_year 35 = .ok (.iload_n 3, 1) := by decide +kernel
theorem dX7_year_36 : decode cX7_year 36 = .ok (.bipush 30, 2) := by decide +kernel
theorem dX7_year_38 : decode cX7_year 38 = .ok (.if_icmp .ge 40, 3) := by decide +kernel
theorem dX7_year_41 : decode cX7_year 41 = .ok (.aload_n 0, 1) := by decide +kernel
theorem dX7_year_42 : decode cX7_year 42 = .ok (.getfield 39, 3) := by decide +kernel
theorem dX7_year_45 : decode cX7_year 45 = .ok (.invokevirtual 207, 3) := by decide +kernel
theorem dX7_year_48 : decode cX7_year 48 = .ok (.ifCond .ne 30, 3) := by decide +kernel
theorem dX7_year_51 : decode cX7_year 51 = .ok (.aload_n 0, 1) := by decide +kernel
theorem dX7_year_52 : decode cX7_year 52 = .ok (.getfield 28, 3) := by decide +kernel
theorem dX7_year_55 : decode cX7_year 55 = .ok (.aload_n 0, 1) := by decide +kernel
theorem dX7_year_56 : decode cX7_year 56 = .ok (.getfield 68, 3) := by decide +kernel
theorem dX7_year_59 : decode cX7_year 59 = .ok (.aload_n 0, 1) := by decide +kernel
theorem dX7_year_60 : decode cX7_year 60 = .ok (.getfield 39, 3) := by decide +kernel
theorem dX7_year_63 : decode cX7_year 63 = .ok (.iload_n 1, 1) := by decide +kernel
theorem dX7_year_64 : decode cX7_year 64 = .ok (.iload_n 3, 1) := by decide +kernel
theorem dX7_year_65 : decode cX7_year 65 = .ok (.invokestatic 211, 3) := by decide +kernel
theorem dX7_year_68 : decode cX7_year 68 = .ok (.invokevirtual 186, 3) := by decide +kernel
theorem dX7_year_71 : decode cX7_year 71 = .ok (.pop, 1) := by decide +kernel
theorem dX7_year_72 : decode cX7_year 72 = .ok (.iinc 3 1, 3) := by decide +kernel
theorem dX7_year_75 : decode cX7_year 75 = .ok (.goto (-40), 3) := by decide +kernel
theorem dX7_year_78 : decode cX7_year 78 = .ok (.iload_n 2, 1) := by decide +kernel
theorem dX7_year_79 : decode cX7_year 79 = .ok (.iconst 1, 1) := by decide +kernel
theorem dX7_year_80 : decode cX7_year 80 = .ok (.if_icmp .ne 11, 3) := by decide +kernel
theorem dX7_year_83 : decode cX7_year 83 = .ok (.aload_n 0, 1) := by decide +kernel
theorem dX7_year_84 : decode cX7_year 84 = .ok (.getfield 39, 3) := by decide +kernel
theorem dX7_year_87 : decode cX7_year 87 = .ok (.getfield 143, 3) := by decide +kernel
theorem dX7_year_90 : decode cX7_year 90 = .ok (.ireturn, 1) := by decide +kernel
theorem dX7_year_91 : decode cX7_year 91 = .ok (.aload_n 0, 1) := by decide +kernel
theorem dX7_year_92 : decode cX7_year 92 = .ok (.getfield 39, 3) := by decide +kernel
theorem dX7_year_95 : decode cX7_year 95 = .ok (.invokevirtual 207, 3) := by decide +kernel
theorem dX7_year_98 : decode cX7_year 98 = .ok (.ifCond .eq 7, 3) := by decide +kernel
theorem dX7_year_101 : decode cX7_year 101 = .ok (.iload_n 3, 1) := by decide +kernel
theorem dX7_year_102 : decode cX7_year 102 = .ok (.goto 5, 3) := by decide +kernel
theorem dX7_year_105 : decode cX7_year 105 = .ok (.bipush (-4), 2) := by decide +kernel
theorem dX7_year_107 : decode cX7_year 107 = .ok (.ireturn, 1) := by decide +kernel
set_option maxRecDepth 20000 in
theorem ggX7_keep_X1_add : GoodIn wsX7_keep wsX1_add := goodIn_r _ [7, 8, 9, 10, 11, 12, 13, 14, 15, 16, 17, 18, 19, 20, 21, 22, 23, 24, 36, 37, 38, 39, 40, 41, 42] (by decide +kernel) (by decide +kernel)
set_option maxRecDepth 20000 in
theorem gX7_keep_X1_add : GoodIn wsX7_keep (wsV RX7 126 RX1 yX1_add wsX1_add) := goodIn_app (goodIn_of _ (by decide +kernel)) ggX7_keep_X1_add
theorem dX7_keep_0 : decode cX7_keep 0 = .ok (.aload_n 0, 1) := by decide +kernel
theorem dX7_keep_1 : decode cX7_keep 1 = .ok (.getfield 51, 3) := by decide +kernel
theorem dX7_keep_4 : decode cX7_keep 4 = .ok (.getfield 105, 3) := by decide +kernel
theorem dX7_keep_7 : decode cX7_keep 7 = .ok (.iconst 2, 1) := by decide +kernel
theorem dX7_keep_8 : decode cX7_keep 8 = .ok (.if_icmp .lt 6, 3) := by decide +kernel
theorem dX7_keep_11 : decode cX7_keep 11 = .ok (.bipush (-3), 2) := by decide +kernel
theorem dX7_keep_13 : decode cX7_keep 13 = .ok (.ireturn, 1) := by decide +kernel
theorem dX7_keep_14 : decode cX7_keep 14 = .ok (.aload_n 0, 1) := by decide +kernel
theorem dX7_keep_15 : decode cX7_keep 15 = .ok (.getfield 51, 3) := by decide +kernel
theorem dX7_keep_18 : decode cX7_keep 18 = .ok (.aload_n 0, 1) := by decide +kernel
theorem dX7_keep_19 : decode cX7_keep 19 = .ok (.getfield 35, 3) := by decide +kernel
theorem dX7_keep_22 : decode cX7_keep 22 = .ok (.invokevirtual 126, 3) := by decide +kernel
theorem dX7_keep_25 : decode cX7_keep 25 = .ok (.aload_n 0, 1) := by decide +kernel
theorem dX7_keep_26 : decode cX7_keep 26 = .ok (.getfield 51, 3) := by decide +kernel
theorem dX7_keep_29 : decode cX7_keep 29 = .ok (.getfield 105, 3) := by decide +kernel
theorem dX7_keep_32 : decode cX7_keep 32 = .ok (.ireturn, 1) := by decide +kernel
set_option maxRecDepth 20000 in
theorem ggX7_back_X1_takeInto : GoodIn wsX7_back wsX1_takeInto := goodIn_r _ [8, 9, 10, 11, 12, 13, 14, 15, 16, 17, 18, 19, 20, 21, 22, 23, 35, 36, 37, 38, 39, 40, 41] (by decide +kernel) (by decide +kernel)
set_option maxRecDepth 20000 in
theorem gX7_back_X1_takeInto : GoodIn wsX7_back (wsV RX7 146 RX1 yX1_takeInto wsX1_takeInto) := goodIn_app (goodIn_of _ (by decide +kernel)) ggX7_back_X1_takeInto
theorem dX7_back_0 : decode cX7_back 0 = .ok (.aload_n 0, 1) := by decide +kernel
theorem dX7_back_1 : decode cX7_back 1 = .ok (.getfield 51, 3) := by decide +kernel
theorem dX7_back_4 : decode cX7_back 4 = .ok (.aload_n 0, 1) := by decide +kernel
theorem dX7_back_5 : decode cX7_back 5 = .ok (.getfield 35, 3) := by decide +kernel
theorem dX7_back_8 : decode cX7_back 8 = .ok (.invokevirtual 146, 3) := by decide +kernel
theorem dX7_back_11 : decode cX7_back 11 = .ok (.ifCond .ne 6, 3) := by decide +kernel
theorem dX7_back_14 : decode cX7_back 14 = .ok (.bipush (-2), 2) := by decide +kernel
theorem dX7_back_16 : decode cX7_back 16 = .ok (.ireturn, 1) := by decide +kernel
theorem dX7_back_17 : decode cX7_back 17 = .ok (.aload_n 0, 1) := by decide +kernel
theorem dX7_back_18 : decode cX7_back 18 = .ok (.getfield 47, 3) := by decide +kernel
theorem dX7_back_21 : decode cX7_back 21 = .ok (.iconst 0, 1) := by decide +kernel
theorem dX7_back_22 : decode cX7_back 22 = .ok (.putfield 105, 3) := by decide +kernel
theorem dX7_back_25 : decode cX7_back 25 = .ok (.aload_n 0, 1) := by decide +kernel
theorem dX7_back_26 : decode cX7_back 26 = .ok (.getfield 51, 3) := by decide +kernel
theorem dX7_back_29 : decode cX7_back 29 = .ok (.getfield 105, 3) := by decide +kernel
theorem dX7_back_32 : decode cX7_back 32 = .ok (.ireturn, 1) := by decide +kernel
set_option maxRecDepth 20000 in
theorem ggX7_count_X3_countOf : GoodIn wsX7_count wsX3_countOf := goodIn_r _ [11, 12, 13, 14, 10, 15, 16, 41, 42, 43, 44] (by decide +kernel) (by decide +kernel)
set_option maxRecDepth 20000 in
theorem gX7_count_X3_countOf : GoodIn wsX7_count (wsV RX7 140 RX3 yX3_countOf wsX3_countOf) := goodIn_app (goodIn_of _ (by decide +kernel)) ggX7_count_X3_countOf
theorem dX7_count_0 : decode cX7_count 0 = .ok (.iload_n 1, 1) := by decide +kernel
theorem dX7_count_1 : decode cX7_count 1 = .ok (.tableswitch 195 0 12 #[67, 75, 83, 91, 99, 115, 131, 147, 155, 163, 171, 179, 187], 67) := by decide +kernel
theorem dX7_count_68 : decode cX7_count 68 = .ok (.aload_n 0, 1) := by decide +kernel
theorem dX7_count_69 : decode cX7_count 69 = .ok (.getfield 68, 3) := by decide +kernel
theorem dX7_count_72 : decode cX7_count 72 = .ok (.getfield 106, 3) := by decide +kernel
theorem dX7_count_75 : decode cX7_count 75 = .ok (.ireturn, 1) := by decide +kernel
theorem dX7_count_76 : decode cX7_count 76 = .ok (.aload_n 0, 1) := by decide +kernel
theorem dX7_count_77 : decode cX7_count 77 = .ok (.getfield 68, 3) := by decide +kernel
theorem dX7_count_80 : decode cX7_count 80 = .ok (.getfield 214, 3) := by decide +kernel
theorem dX7_count_83 : decode cX7_count 83 = .ok (.ireturn, 1) := by decide +kernel
theorem dX7_count_84 : decode cX7_count 84 = .ok (.aload_n 0, 1) := by decide +kernel
theorem dX7_count_85 : decode cX7_count 85 = .ok (.getfield 35, 3) := by decide +kernel
theorem dX7_count_88 : decode cX7_count 88 = .ok (.getfield 116, 3) := by decide +kernel
theorem dX7_count_91 : decode cX7_count 91 = .ok (.ireturn, 1) := by decide +kernel
theorem dX7_count_92 : decode cX7_count 92 = .ok (.aload_n 0, 1) := by decide +kernel
theorem dX7_count_93 : decode cX7_count 93 = .ok (.getfield 35, 3) := by decide +kernel
theorem dX7_count_96 : decode cX7_count 96 = .ok (.getfield 143, 3) := by decide +kernel
theorem dX7_count_99 : decode cX7_count 99 = .ok (.ireturn, 1) := by decide +kernel
theorem dX7_count_100 : decode cX7_count 100 = .ok (.aload_n 0, 1) := by decide +kernel
theorem dX7_count_101 : decode cX7_count 101 = .ok (.getfield 35, 3) := by decide +kernel
theorem dX7_count_104 : decode cX7_count 104 = .ok (.iconst 3, 1) := by decide +kernel
theorem dX7_count_105 : decode cX7_count 105 = .ok (.aload_n 0, 1) := by decide +kernel
theorem dX7_count_106 : decode cX7_count 106 = .ok (.getfield 68, 3) := by decide +kernel
theorem dX7_count_109 : decode cX7_count 109 = .ok (.getfield 106, 3) := by decide +kernel
theorem dX7_count_112 : decode cX7_count 112 = .ok (.invokevirtual 140, 3) := by decide +kernel
theorem dX7_count_115 : decode cX7_count 115 = .ok (.ireturn, 1) := by decide +kernel
theorem dX7_count_116 : decode cX7_count 116 = .ok (.aload_n 0, 1) := by decide +kernel
theorem dX7_count_117 : decode cX7_count 117 = .ok (.getfield 35, 3) := by decide +kernel
theorem dX7_count_120 : decode cX7_count 120 = .ok (.iconst 1, 1) := by decide +kernel
theorem dX7_count_121 : decode cX7_count 121 = .ok (.aload_n 0, 1) := by decide +kernel
theorem dX7_count_122 : decode cX7_count 122 = .ok (.getfield 68, 3) := by decide +kernel
theorem dX7_count_125 : decode cX7_count 125 = .ok (.getfield 106, 3) := by decide +kernel
theorem dX7_count_128 : decode cX7_count 128 = .ok (.invokevirtual 140, 3) := by decide +kernel
theorem dX7_count_131 : decode cX7_count 131 = .ok (.ireturn, 1) := by decide +kernel
theorem dX7_count_132 : decode cX7_count 132 = .ok (.aload_n 0, 1) := by decide +kernel
theorem dX7_count_133 : decode cX7_count 133 = .ok (.getfield 35, 3) := by decide +kernel
theorem dX7_count_136 : decode cX7_count 136 = .ok (.iconst 2, 1) := by decide +kernel
theorem dX7_count_137 : decode cX7_count 137 = .ok (.aload_n 0, 1) := by decide +kernel
theorem dX7_count_138 : decode cX7_count 138 = .ok (.getfield 68, 3) := by decide +kernel
theorem dX7_count_141 : decode cX7_count 141 = .ok (.getfield 106, 3) := by decide +kernel
theorem dX7_count_144 : decode cX7_count 144 = .ok (.invokevirtual 140, 3) := by decide +kernel
theorem dX7_count_147 : decode cX7_count 147 = .ok (.ireturn, 1) := by decide +kernel
theorem dX7_count_148 : decode cX7_count 148 = .ok (.aload_n 0, 1) := by decide +kernel
theorem dX7_count_149 : decode cX7_count 149 = .ok (.getfield 68, 3) := by decide +kernel
theorem dX7_count_152 : decode cX7_count 152 = .ok (.getfield 217, 3) := by decide +kernel
theorem dX7_count_155 : decode cX7_count 155 = .ok (.ireturn, 1) := by decide +kernel
theorem dX7_count_156 : decode cX7_count 156 = .ok (.aload_n 0, 1) := by decide +kernel
theorem dX7_count_157 : decode cX7_count 157 = .ok (.getfield 68, 3) := by decide +kernel
theorem dX7_count_160 : decode cX7_count 160 = .ok (.getfield 220, 3) := by decide +kernel
theorem dX7_count_163 : decode cX7_count 163 = .ok (.ireturn, 1) := by decide +kernel
theorem dX7_count_164 : decode cX7_count 164 = .ok (.aload_n 0, 1) := by decide +kernel
theorem dX7_count_165 : decode cX7_count 165 = .ok (.getfield 57, 3) := by decide +kernel
theorem dX7_count_168 : decode cX7_count 168 = .ok (.getfield 102, 3) := by decide +kernel
theorem dX7_count_171 : decode cX7_count 171 = .ok (.ireturn, 1) := by decide +kernel
theorem dX7_count_172 : decode cX7_count 172 = .ok (.aload_n 0, 1) := by decide +kernel
theorem dX7_count_173 : decode cX7_count 173 = .ok (.getfield 47, 3) := by decide +kernel
theorem dX7_count_176 : decode cX7_count 176 = .ok (.getfield 105, 3) := by decide +kernel
theorem dX7_count_179 : decode cX7_count 179 = .ok (.ireturn, 1) := by decide +kernel
theorem dX7_count_180 : decode cX7_count 180 = .ok (.aload_n 0, 1) := by decide +kernel
theorem dX7_count_181 : decode cX7_count 181 = .ok (.getfield 51, 3) := by decide +kernel
theorem dX7_count_184 : decode cX7_count 184 = .ok (.getfield 105, 3) := by decide +kernel
theorem dX7_count_187 : decode cX7_count 187 = .ok (.ireturn, 1) := by decide +kernel
theorem dX7_count_188 : decode cX7_count 188 = .ok (.aload_n 0, 1) := by decide +kernel
theorem dX7_count_189 : decode cX7_count 189 = .ok (.getfield 10, 3) := by decide +kernel
theorem dX7_count_192 : decode cX7_count 192 = .ok (.getfield 95, 3) := by decide +kernel
theorem dX7_count_195 : decode cX7_count 195 = .ok (.ireturn, 1) := by decide +kernel
theorem dX7_count_196 : decode cX7_count 196 = .ok (.iconst (-1), 1) := by decide +kernel
theorem dX7_count_197 : decode cX7_count 197 = .ok (.ireturn, 1) := by decide +kernel
set_option maxRecDepth 20000 in
theorem ggX7_isFreeGrass_X3_kindAt : GoodIn wsX7_isFreeGrass wsX3_kindAt := goodIn_r _ [6, 7, 19, 20, 21, 22] (by decide +kernel) (by decide +kernel)
set_option maxRecDepth 20000 in
theorem gX7_isFreeGrass_X3_kindAt : GoodIn wsX7_isFreeGrass (wsV RX7 112 RX3 yX3_kindAt wsX3_kindAt) := goodIn_app (goodIn_of _ (by decide +kernel)) ggX7_isFreeGrass_X3_kindAt
theorem dX7_isFreeGrass_0 : decode cX7_isFreeGrass 0 = .ok (.aload_n 0, 1) := by decide +kernel
theorem dX7_isFreeGrass_1 : decode cX7_isFreeGrass 1 = .ok (.getfield 35, 3) := by decide +kernel
theorem dX7_isFreeGrass_4 : decode cX7_isFreeGrass 4 = .ok (.iload_n 1, 1) := by decide +kernel
theorem dX7_isFreeGrass_5 : decode cX7_isFreeGrass 5 = .ok (.invokevirtual 112, 3) := by decide +kernel
theorem dX7_isFreeGrass_8 : decode cX7_isFreeGrass 8 = .ok (.ifCond .ne 18, 3) := by decide +kernel
theorem dX7_isFreeGrass_11 : decode cX7_isFreeGrass 11 = .ok (.iload_n 1, 1) := by decide +kernel
theorem dX7_isFreeGrass_12 : decode cX7_isFreeGrass 12 = .ok (.aload_n 0, 1) := by decide +kernel
theorem dX7_isFreeGrass_13 : decode cX7_isFreeGrass 13 = .ok (.getfield 35, 3) := by decide +kernel
theorem dX7_isFreeGrass_16 : decode cX7_isFreeGrass 16 = .ok (.getfield 143, 3) := by decide +kernel
theorem dX7_isFreeGrass_19 : decode cX7_isFreeGrass 19 = .ok (.if_icmp .eq 7, 3) := by decide +kernel
theorem dX7_isFreeGrass_22 : decode cX7_isFreeGrass 22 = .ok (.iconst 1, 1) := by decide +kernel
theorem dX7_isFreeGrass_23 : decode cX7_isFreeGrass 23 = .ok (.goto 4, 3) := by decide +kernel
theorem dX7_isFreeGrass_26 : decode cX7_isFreeGrass 26 = .ok (.iconst 0, 1) := by decide +kernel
theorem dX7_isFreeGrass_27 : decode cX7_isFreeGrass 27 = .ok (.ireturn, 1) := by decide +kernel
set_option maxRecDepth 20000 in
theorem ggX7_goNights_X6_dampOn : GoodIn wsX7_goNights wsX6_dampOn := goodIn_r _ [7, 8, 9, 83, 84, 85, 86, 87, 88, 89, 90, 91, 92, 93, 94, 95] (by decide +kernel) (by decide +kernel)
set_option maxRecDepth 20000 in
theorem gX7_goNights_X6_dampOn : GoodIn wsX7_goNights (wsV RX7 119 RX6 yX6_dampOn wsX6_dampOn) := goodIn_app (goodIn_of _ (by decide +kernel)) ggX7_goNights_X6_dampOn
set_option maxRecDepth 20000 in
theorem ggX7_goNights_X5_goNight : GoodIn wsX7_goNights wsX5_goNight := goodIn_r _ [14, 15, 16, 17, 18, 19, 20, 21, 22, 23, 13, 24, 25, 26, 27, 28, 29, 30, 31, 32, 33, 34, 35, 36, 6, 37, 38, 39, 40, 41, 42, 43, 44, 45, 46, 47, 48, 49, 50, 51, 52, 53, 54, 55, 56, 57, 58, 59, 60, 61, 62, 63, 64, 65, 66, 67, 79, 80, 81, 82, 96, 97, 83, 84, 85, 86, 87, 88, 89, 90, 91, 92, 93, 94, 95] (by decide +kernel) (by decide +kernel)
set_option maxRecDepth 20000 in
theorem gX7_goNights_X5_goNight : GoodIn wsX7_goNights (wsV RX7 186 RX5 yX5_goNight wsX5_goNight) := goodIn_app (goodIn_of _ (by decide +kernel)) ggX7_goNights_X5_goNight
theorem dX7_goNights_0 : decode cX7_goNights 0 = .ok (.iconst 0, 1) := by decide +kernel
theorem dX7_goNights_1 : decode cX7_goNights 1 = .ok (.istore_n 3, 1) := by decide +kernel
theorem dX7_goNights_2 : decode cX7_goNights 2 = .ok (.iload_n 3, 1) := by decide +kernel
theorem dX7_goNights_3 : decode cX7_goNights 3 = .ok (.iload_n 2, 1) := by decide +kernel
theorem dX7_goNights_4 : decode cX7_goNights 4 = .ok (.if_icmp .ge 33, 3) := by decide +kernel
theorem dX7_goNights_7 : decode cX7_goNights 7 = .ok (.aload_n 0, 1) := by decide +kernel
theorem dX7_goNights_8 : decode cX7_goNights 8 = .ok (.getfield 28, 3) := by decide +kernel
theorem dX7_goNights_11 : decode cX7_goNights 11 = .ok (.aload_n 0, 1) := by decide +kernel
theorem dX7_goNights_12 : decode cX7_goNights 12 = .ok (.getfield 68, 3) := by decide +kernel
theorem dX7_goNights_15 : decode cX7_goNights 15 = .ok (.aload_n 1, 1) := by decide +kernel
theorem dX7_goNights_16 : decode cX7_goNights 16 = .ok (.aload_n 0, 1) := by decide +kernel
theorem dX7_goNights_17 : decode cX7_goNights 17 = .ok (.getfield 68, 3) := by decide +kernel
theorem dX7_goNights_20 : decode cX7_goNights 20 = .ok (.aload_n 1, 1) := by decide +kernel
theorem dX7_goNights_21 : decode cX7_goNights 21 = .ok (.getfield 116, 3) := by decide +kernel
theorem dX7_goNights_24 : decode cX7_goNights 24 = .ok (.invokevirtual 119, 3) := by decide +kernel
theorem dX7_goNights_27 : decode cX7_goNights 27 = .ok (.invokevirtual 186, 3) := by decide +kernel
theorem dX7_goNights_30 : decode cX7_goNights 30 = .ok (.pop, 1) := by decide +kernel
theorem dX7_goNights_31 : decode cX7_goNights 31 = .ok (.iinc 3 1, 3) := by decide +kernel
theorem dX7_goNights_34 : decode cX7_goNights 34 = .ok (.goto (-32), 3) := by decide +kernel
theorem dX7_goNights_37 : decode cX7_goNights 37 = .ok (.return_, 1) := by decide +kernel
set_option maxRecDepth 20000 in
theorem ggX7_nightsTillBegun_X3_hasBegun : GoodIn wsX7_nightsTillBegun wsX3_hasBegun := goodIn_r _ [7, 8, 80, 81, 82, 83] (by decide +kernel) (by decide +kernel)
set_option maxRecDepth 20000 in
theorem gX7_nightsTillBegun_X3_hasBegun : GoodIn wsX7_nightsTillBegun (wsV RX7 207 RX3 yX3_hasBegun wsX3_hasBegun) := goodIn_app (goodIn_of _ (by decide +kernel)) ggX7_nightsTillBegun_X3_hasBegun
set_option maxRecDepth 20000 in
theorem ggX7_nightsTillBegun_X6_dampOn : GoodIn wsX7_nightsTillBegun wsX6_dampOn := goodIn_r _ [13, 14, 15, 84, 85, 86, 87, 88, 89, 90, 91, 92, 93, 94, 95, 96] (by decide +kernel) (by decide +kernel)
set_option maxRecDepth 20000 in
theorem gX7_nightsTillBegun_X6_dampOn : GoodIn wsX7_nightsTillBegun (wsV RX7 119 RX6 yX6_dampOn wsX6_dampOn) := goodIn_app (goodIn_of _ (by decide +kernel)) ggX7_nightsTillBegun_X6_dampOn
set_option maxRecDepth 20000 in
theorem ggX7_nightsTillBegun_X5_goNight : GoodIn wsX7_nightsTillBegun wsX5_goNight := goodIn_r _ [20, 21, 4, 5, 6, 7, 8, 22, 23, 24, 19, 25, 26, 27, 28, 29, 30, 31, 32, 33, 34, 35, 36, 37, 12, 38, 39, 40, 41, 42, 43, 44, 45, 46, 47, 48, 49, 50, 51, 52, 53, 54, 55, 56, 57, 58, 59, 60, 61, 62, 63, 64, 65, 66, 67, 68, 80, 81, 82, 83, 97, 98, 84, 85, 86, 87, 88, 89, 90, 91, 92, 93, 94, 95, 96] (by decide +kernel) (by decide +kernel)
set_option maxRecDepth 20000 in
theorem gX7_nightsTillBegun_X5_goNight : GoodIn wsX7_nightsTillBegun (wsV RX7 186 RX5 yX5_goNight wsX5_goNight) := goodIn_app (goodIn_of _ (by decide +kernel)) ggX7_nightsTillBegun_X5_goNight
theorem dX7_nightsTillBegun_0 : decode cX7_nightsTillBegun 0 = .ok (.iconst 0, 1) := by decide +kernel
theorem dX7_nightsTillBegun_1 : decode cX7_nightsTillBegun 1 = .ok (.istore_n 2, 1) := by decide +kernel
theorem dX7_nightsTillBegun_2 : decode cX7_nightsTillBegun 2 = .ok (.iload_n 2, 1) := by decide +kernel
theorem dX7_nightsTillBegun_3 : decode cX7_nightsTillBegun 3 = .ok (.bipush 30, 2) := by decide +kernel
theorem dX7_nightsTillBegun_5 : decode cX7_nightsTillBegun 5 = .ok (.if_icmp .ge 40, 3) := by decide +kernel
theorem dX7_nightsTillBegun_8 : decode cX7_nightsTillBegun 8 = .ok (.aload_n 1, 1) := by decide +kernel
theorem dX7_nightsTillBegun_9 : decode cX7_nightsTillBegun 9 = .ok (.invokevirtual 207, 3) := by decide +kernel
theorem dX7_nightsTillBegun_12 : decode cX7_nightsTillBegun 12 = .ok (.ifCond .ne 33, 3) := by decide +kernel
theorem dX7_nightsTillBegun_15 : decode cX7_nightsTillBegun 15 = .ok (.aload_n 0, 1) := by decide +kernel
theorem dX7_nightsTillBegun_16 : decode cX7_nightsTillBegun 16 = .ok (.getfield 28, 3) := by decide +kernel
theorem dX7_nightsTillBegun_19 : decode cX7_nightsTillBegun 19 = .ok (.aload_n 0, 1) := by decide +kernel
theorem dX7_nightsTillBegun_20 : decode cX7_nightsTillBegun 20 = .ok (.getfield 68, 3) := by decide +kernel
theorem dX7_nightsTillBegun_23 : decode cX7_nightsTillBegun 23 = .ok (.aload_n 1, 1) := by decide +kernel
theorem dX7_nightsTillBegun_24 : decode cX7_nightsTillBegun 24 = .ok (.aload_n 0, 1) := by decide +kernel
theorem dX7_nightsTillBegun_25 : decode cX7_nightsTillBegun 25 = .ok (.getfield 68, 3) := by decide +kernel
theorem dX7_nightsTillBegun_28 : decode cX7_nightsTillBegun 28 = .ok (.aload_n 1, 1) := by decide +kernel
theorem dX7_nightsTillBegun_29 : decode cX7_nightsTillBegun 29 = .ok (.getfield 116, 3) := by decide +kernel
theorem dX7_nightsTillBegun_32 : decode cX7_nightsTillBegun 32 = .ok (.invokevirtual 119, 3) := by decide +kernel
theorem dX7_nightsTillBegun_35 : decode cX7_nightsTillBegun 35 = .ok (.invokevirtual 186, 3) := by decide +kernel
theorem dX7_nightsTillBegun_38 : decode cX7_nightsTillBegun 38 = .ok (.pop, 1) := by decide +kernel
theorem dX7_nightsTillBegun_39 : decode cX7_nightsTillBegun 39 = .ok (.iinc 2 1, 3) := by decide +kernel
theorem dX7_nightsTillBegun_42 : decode cX7_nightsTillBegun 42 = .ok (.goto (-40), 3) := by decide +kernel
theorem dX7_nightsTillBegun_45 : decode cX7_nightsTillBegun 45 = .ok (.aload_n 1, 1) := by decide +kernel
theorem dX7_nightsTillBegun_46 : decode cX7_nightsTillBegun 46 = .ok (.invokevirtual 207, 3) := by decide +kernel
theorem dX7_nightsTillBegun_49 : decode cX7_nightsTillBegun 49 = .ok (.ifCond .eq 7, 3) := by decide +kernel
theorem dX7_nightsTillBegun_52 : decode cX7_nightsTillBegun 52 = .ok (.iload_n 2, 1) := by decide +kernel
theorem dX7_nightsTillBegun_53 : decode cX7_nightsTillBegun 53 = .ok (.goto 5, 3) := by decide +kernel
theorem dX7_nightsTillBegun_56 : decode cX7_nightsTillBegun 56 = .ok (.bipush (-4), 2) := by decide +kernel
theorem dX7_nightsTillBegun_58 : decode cX7_nightsTillBegun 58 = .ok (.ireturn, 1) := by decide +kernel
set_option maxRecDepth 20000 in
theorem ggX7_chooseLettuces_X3_become : GoodIn wsX7_chooseLettuces wsX3_become := goodIn_r _ [8, 9, 10, 11, 12, 13, 14, 15, 16, 123, 124, 125, 126] (by decide +kernel) (by decide +kernel)
set_option maxRecDepth 20000 in
theorem gX7_chooseLettuces_X3_become : GoodIn wsX7_chooseLettuces (wsV RX7 150 RX3 yX3_become wsX3_become) := goodIn_app (goodIn_of _ (by decide +kernel)) ggX7_chooseLettuces_X3_become
set_option maxRecDepth 20000 in
theorem ggX7_chooseLettuces_X7_nightsTillBegun : GoodIn wsX7_chooseLettuces wsX7_nightsTillBegun := goodIn_r _ [21, 22, 3, 23, 24, 25, 7, 26, 16, 27, 28, 29, 30, 31, 32, 33, 34, 35, 36, 37, 38, 39, 40, 41, 42, 43, 44, 45, 46, 47, 48, 49, 50, 51, 52, 53, 54, 55, 56, 57, 58, 59, 60, 61, 9, 62, 20, 63, 64, 65, 66, 67, 68, 69, 70, 71, 72, 73, 74, 75, 76, 77, 78, 79, 80, 81, 82, 83, 84, 99, 100, 101, 102, 103, 104, 105, 106, 107, 108, 109, 123, 124, 125, 126, 110, 111, 112, 113, 114, 115, 116, 117, 118, 119, 120, 121, 122, 127, 128] (by decide +kernel) (by decide +kernel)
set_option maxRecDepth 20000 in
theorem gX7_chooseLettuces_X7_nightsTillBegun : GoodIn wsX7_chooseLettuces (wsV RX7 153 RX7 yX7_nightsTillBegun wsX7_nightsTillBegun) := goodIn_app (goodIn_of _ (by decide +kernel)) ggX7_chooseLettuces_X7_nightsTillBegun
set_option maxRecDepth 20000 in
theorem ggX7_chooseLettuces_X7_isWithin : GoodIn wsX7_chooseLettuces wsX7_isWithin := goodIn_r _ [87] (by decide +kernel) (by decide +kernel)
set_option maxRecDepth 20000 in
theorem gX7_chooseLettuces_X7_isWithin : GoodIn wsX7_chooseLettuces (va_wsS RX7 223 yX7_isWithin wsX7_isWithin) := goodIn_app (goodIn_of _ (by decide +kernel)) ggX7_chooseLettuces_X7_isWithin
set_option maxRecDepth 20000 in
theorem ggX7_chooseLettuces_X7_isFreeGrass : GoodIn wsX7_chooseLettuces wsX7_isFreeGrass := goodIn_r _ [91, 2, 92, 59, 60, 7, 61, 9, 99, 100, 101, 102, 103, 104, 105, 106, 107, 108, 109, 123, 124, 125, 126] (by decide +kernel) (by decide +kernel)
set_option maxRecDepth 20000 in
theorem gX7_chooseLettuces_X7_isFreeGrass : GoodIn wsX7_chooseLettuces (wsV RX7 133 RX7 yX7_isFreeGrass wsX7_isFreeGrass) := goodIn_app (goodIn_of _ (by decide +kernel)) ggX7_chooseLettuces_X7_isFreeGrass
set_option maxRecDepth 20000 in
theorem ggX7_chooseLettuces_X7_tryLettuces : GoodIn wsX7_chooseLettuces wsX7_tryLettuces := goodIn_r _ [96, 97, 1, 2, 4, 5, 6, 7, 8, 9, 10, 11, 12, 13, 14, 15, 16, 98, 82, 83, 84, 99, 100, 101, 102, 103, 104, 105, 106, 107, 108, 109, 123, 124, 125, 126] (by decide +kernel) (by decide +kernel)
set_option maxRecDepth 20000 in
theorem gX7_chooseLettuces_X7_tryLettuces : GoodIn wsX7_chooseLettuces (wsV RX7 227 RX7 yX7_tryLettuces wsX7_tryLettuces) := goodIn_app (goodIn_of _ (by decide +kernel)) ggX7_chooseLettuces_X7_tryLettuces
theorem dX7_chooseLettuces_0 : decode cX7_chooseLettuces 0 = .ok (.aload_n 0, 1) := by decide +kernel
theorem dX7_chooseLettuces_1 : decode cX7_chooseLettuces 1 = .ok (.getfield 39, 3) := by decide +kernel
theorem dX7_chooseLettuces_4 : decode cX7_chooseLettuces 4 = .ok (.aload_n 0, 1) := by decide +kernel
theorem dX7_chooseLettuces_5 : decode cX7_chooseLettuces 5 = .ok (.getfield 35, 3) := by decide +kernel
theorem dX7_chooseLettuces_8 : decode cX7_chooseLettuces 8 = .ok (.invokevirtual 150, 3) := by decide +kernel
theorem dX7_chooseLettuces_11 : decode cX7_chooseLettuces 11 = .ok (.aload_n 0, 1) := by decide +kernel
theorem dX7_chooseLettuces_12 : decode cX7_chooseLettuces 12 = .ok (.aload_n 0, 1) := by decide +kernel
theorem dX7_chooseLettuces_13 : decode cX7_chooseLettuces 13 = .ok (.getfield 39, 3) := by decide +kernel
theorem dX7_chooseLettuces_16 : decode cX7_chooseLettuces 16 = .ok (.invokevirtual 153, 3) := by decide +kernel
theorem dX7_chooseLettuces_19 : decode cX7_chooseLettuces 19 = .ok (.iload_n 1, 1) := by decide +kernel
theorem dX7_chooseLettuces_20 : decode cX7_chooseLettuces 20 = .ok (.iload_n 2, 1) := by decide +kernel
theorem dX7_chooseLettuces_21 : decode cX7_chooseLettuces 21 = .ok (.invokestatic 223, 3) := by decide +kernel
theorem dX7_chooseLettuces_24 : decode cX7_chooseLettuces 24 = .ok (.ifCond .eq 5, 3) := by decide +kernel
theorem dX7_chooseLettuces_27 : decode cX7_chooseLettuces 27 = .ok (.iconst 0, 1) := by decide +kernel

theorem dX8_lettuce_23 : decode cX8_lettuce 23 = .ok (.iaload, 1) := by decide +kernel
theorem dX8_lettuce_24 : decode cX8_lettuce 24 = .ok (.iload_n 1, 1) := by decide +kernel
theorem dX8_lettuce_25 : decode cX8_lettuce 25 = .ok (.if_icmp .ne 6, 3) := by decide +kernel
theorem dX8_lettuce_28 : decode cX8_lettuce 28 = .ok (.bipush (-2), 2) := by decide +kernel
theorem dX8_lettuce_30 : decode cX8_lettuce 30 = .ok (.ireturn, 1) := by decide +kernel
theorem dX8_lettuce_31 : decode cX8_lettuce 31 = .ok (.aload_n 0, 1) := by decide +kernel
theorem dX8_lettuce_32 : decode cX8_lettuce 32 = .ok (.invokevirtual 153, 3) := by decide +kernel
theorem dX8_lettuce_35 : decode cX8_lettuce 35 = .ok (.aload_n 0, 1) := by decide +kernel
theorem dX8_lettuce_36 : decode cX8_lettuce 36 = .ok (.getfield 13, 3) := by decide +kernel
theorem dX8_lettuce_39 : decode cX8_lettuce 39 = .ok (.iconst 3, 1) := by decide +kernel
theorem dX8_lettuce_40 : decode cX8_lettuce 40 = .ok (.iload_n 1, 1) := by decide +kernel
theorem dX8_lettuce_41 : decode cX8_lettuce 41 = .ok (.iadd, 1) := by decide +kernel
theorem dX8_lettuce_42 : decode cX8_lettuce 42 = .ok (.iconst 3, 1) := by decide +kernel
theorem dX8_lettuce_43 : decode cX8_lettuce 43 = .ok (.iastore, 1) := by decide +kernel
theorem dX8_lettuce_44 : decode cX8_lettuce 44 = .ok (.aload_n 0, 1) := by decide +kernel
theorem dX8_lettuce_45 : decode cX8_lettuce 45 = .ok (.iconst 3, 1) := by decide +kernel
theorem dX8_lettuce_46 : decode cX8_lettuce 46 = .ok (.invokevirtual 159, 3) := by decide +kernel
theorem dX8_lettuce_49 : decode cX8_lettuce 49 = .ok (.ireturn, 1) := by decide +kernel
set_option maxRecDepth 20000 in
theorem ggX8_salt_X8_isCell : GoodIn wsX8_salt wsX8_isCell := goodIn_r _ [6, 7, 8, 9, 5, 10, 11, 12, 13, 14, 25, 26, 27, 28, 29, 30, 31, 32, 33, 34, 35, 36, 37, 38, 39, 40, 41, 42, 43, 44, 45, 46, 47, 48] (by decide +kernel) (by decide +kernel)
set_option maxRecDepth 20000 in
theorem gX8_salt_X8_isCell : GoodIn wsX8_salt (wsV RX8 146 RX8 yX8_isCell wsX8_isCell) := goodIn_app (goodIn_of _ (by decide +kernel)) ggX8_salt_X8_isCell
set_option maxRecDepth 20000 in
theorem ggX8_salt_X8_kind : GoodIn wsX8_salt wsX8_kind := goodIn_r _ [18, 1, 25, 26, 27, 28, 29, 30, 31, 32, 33, 34, 35, 36, 37, 38, 39, 40, 41, 42, 43, 44, 45, 46, 47, 48] (by decide +kernel) (by decide +kernel)
set_option maxRecDepth 20000 in
theorem gX8_salt_X8_kind : GoodIn wsX8_salt (wsV RX8 115 RX8 yX8_kind wsX8_kind) := goodIn_app (goodIn_of _ (by decide +kernel)) ggX8_salt_X8_kind
set_option maxRecDepth 20000 in
theorem ggX8_salt_X8_notes : GoodIn wsX8_salt wsX8_notes := goodIn_r _ [22, 23, 24, 1, 25, 26, 27, 28, 29, 30, 31, 32, 33, 34, 35, 36, 37, 38, 39, 40, 41, 42, 43, 44, 45, 46, 47, 48] (by decide +kernel) (by decide +kernel)
set_option maxRecDepth 20000 in
theorem gX8_salt_X8_notes : GoodIn wsX8_salt (wsV RX8 153 RX8 yX8_notes wsX8_notes) := goodIn_app (goodIn_of _ (by decide +kernel)) ggX8_salt_X8_notes
theorem dX8_salt_0 : decode cX8_salt 0 = .ok (.aload_n 0, 1) := by decide +kernel
theorem dX8_salt_1 : decode cX8_salt 1 = .ok (.iload_n 1, 1) := by decide +kernel
theorem dX8_salt_2 : decode cX8_salt 2 = .ok (.invokevirtual 146, 3) := by decide +kernel
theorem dX8_salt_5 : decode cX8_salt 5 = .ok (.ifCond .ne 5, 3) := by decide +kernel
theorem dX8_salt_8 : decode cX8_salt 8 = .ok (.iconst (-1), 1) := by decide +kernel
theorem dX8_salt_9 : decode cX8_salt 9 = .ok (.ireturn, 1) := by decide +kernel
theorem dX8_salt_10 : decode cX8_salt 10 = .ok (.aload_n 0, 1) := by decide +kernel
theorem dX8_salt_11 : decode cX8_salt 11 = .ok (.iload_n 1, 1) := by decide +kernel
theorem dX8_salt_12 : decode cX8_salt 12 = .ok (.invokevirtual 115, 3) := by decide +kernel
theorem dX8_salt_15 : decode cX8_salt 15 = .ok (.istore_n 2, 1) := by decide +kernel
theorem dX8_salt_16 : decode cX8_salt 16 = .ok (.iload_n 2, 1) := by decide +kernel
theorem dX8_salt_17 : decode cX8_salt 17 = .ok (.iconst 1, 1) := by decide +kernel
theorem dX8_salt_18 : decode cX8_salt 18 = .ok (.if_icmp .eq 18, 3) := by decide +kernel
theorem dX8_salt_21 : decode cX8_salt 21 = .ok (.iload_n 2, 1) := by decide +kernel
theorem dX8_salt_22 : decode cX8_salt 22 = .ok (.iconst 2, 1) := by decide +kernel
theorem dX8_salt_23 : decode cX8_salt 23 = .ok (.if_icmp .eq 13, 3) := by decide +kernel
theorem dX8_salt_26 : decode cX8_salt 26 = .ok (.aload_n 0, 1) := by decide +kernel
theorem dX8_salt_27 : decode cX8_salt 27 = .ok (.getfield 13, 3) := by decide +kernel
theorem dX8_salt_30 : decode cX8_salt 30 = .ok (.iconst 1, 1) := by decide +kernel
theorem dX8_salt_31 : decode cX8_salt 31 = .ok (.iaload, 1) := by decide +kernel
theorem dX8_salt_32 : decode cX8_salt 32 = .ok (.iload_n 1, 1) := by decide +kernel
theorem dX8_salt_33 : decode cX8_salt 33 = .ok (.if_icmp .ne 6, 3) := by decide +kernel
theorem dX8_salt_36 : decode cX8_salt 36 = .ok (.bipush (-2), 2) := by decide +kernel
theorem dX8_salt_38 : decode cX8_salt 38 = .ok (.ireturn, 1) := by decide +kernel
theorem dX8_salt_39 : decode cX8_salt 39 = .ok (.aload_n 0, 1) := by decide +kernel
theorem dX8_salt_40 : decode cX8_salt 40 = .ok (.invokevirtual 153, 3) := by decide +kernel
theorem dX8_salt_43 : decode cX8_salt 43 = .ok (.aload_n 0, 1) := by decide +kernel
theorem dX8_salt_44 : decode cX8_salt 44 = .ok (.getfield 13, 3) := by decide +kernel
theorem dX8_salt_47 : decode cX8_salt 47 = .ok (.iconst 3, 1) := by decide +kernel
theorem dX8_salt_48 : decode cX8_salt 48 = .ok (.iload_n 1, 1) := by decide +kernel
theorem dX8_salt_49 : decode cX8_salt 49 = .ok (.iadd, 1) := by decide +kernel
theorem dX8_salt_50 : decode cX8_salt 50 = .ok (.iconst 2, 1) := by decide +kernel
theorem dX8_salt_51 : decode cX8_salt 51 = .ok (.iastore, 1) := by decide +kernel
theorem dX8_salt_52 : decode cX8_salt 52 = .ok (.iload_n 2, 1) := by decide +kernel
theorem dX8_salt_53 : decode cX8_salt 53 = .ok (.ireturn, 1) := by decide +kernel
set_option maxRecDepth 20000 in
theorem ggX8_stone_X8_isCell : GoodIn wsX8_stone wsX8_isCell := goodIn_r _ [6, 7, 8, 9, 5, 10, 11, 12, 13, 14, 29, 30, 31, 32, 33, 34, 35, 36, 37, 38, 39, 40, 41, 42, 43, 44, 45, 46, 47, 48, 49, 50, 51, 52] (by decide +kernel) (by decide +kernel)
set_option maxRecDepth 20000 in
theorem gX8_stone_X8_isCell : GoodIn wsX8_stone (wsV RX8 146 RX8 yX8_isCell wsX8_isCell) := goodIn_app (goodIn_of _ (by decide +kernel)) ggX8_stone_X8_isCell
set_option maxRecDepth 20000 in
theorem ggX8_stone_X8_kind : GoodIn wsX8_stone wsX8_kind := goodIn_r _ [18, 1, 29, 30, 31, 32, 33, 34, 35, 36, 37, 38, 39, 40, 41, 42, 43, 44, 45, 46, 47, 48, 49, 50, 51, 52] (by decide +kernel) (by decide +kernel)
set_option maxRecDepth 20000 in
theorem gX8_stone_X8_kind : GoodIn wsX8_stone (wsV RX8 115 RX8 yX8_kind wsX8_kind) := goodIn_app (goodIn_of _ (by decide +kernel)) ggX8_stone_X8_kind
set_option maxRecDepth 20000 in
theorem ggX8_stone_X8_notes : GoodIn wsX8_stone wsX8_notes := goodIn_r _ [22, 23, 24, 1, 29, 30, 31, 32, 33, 34, 35, 36, 37, 38, 39, 40, 41, 42, 43, 44, 45, 46, 47, 48, 49, 50, 51, 52] (by decide +kernel) (by decide +kernel)
set_option maxRecDepth 20000 in
theorem gX8_stone_X8_notes : GoodIn wsX8_stone (wsV RX8 153 RX8 yX8_notes wsX8_notes) := goodIn_app (goodIn_of _ (by decide +kernel)) ggX8_stone_X8_notes
set_option maxRecDepth 20000 in
theorem ggX8_stone_X8_many : GoodIn wsX8_stone wsX8_many := goodIn_r _ [28, 7, 8, 9, 5, 10, 11, 15, 16, 17, 18, 1, 29, 30, 31, 32, 33, 34, 35, 36, 37, 38, 39, 40, 41, 42, 43, 44, 45, 46, 47, 48, 49, 50, 51, 52] (by decide +kernel) (by decide +kernel)
set_option maxRecDepth 20000 in
theorem gX8_stone_X8_many : GoodIn wsX8_stone (wsV RX8 159 RX8 yX8_many wsX8_many) := goodIn_app (goodIn_of _ (by decide +kernel)) ggX8_stone_X8_many
theorem dX8_stone_0 : decode cX8_stone 0 = .ok (.aload_n 0, 1) := by decide +kernel
theorem dX8_stone_1 : decode cX8_stone 1 = .ok (.iload_n 1, 1) := by decide +kernel
theorem dX8_stone_2 : decode cX8_stone 2 = .ok (.invokevirtual 146, 3) := by decide +kernel
theorem dX8_stone_5 : decode cX8_stone 5 = .ok (.ifCond .eq 11, 3) := by decide +kernel
theorem dX8_stone_8 : decode cX8_stone 8 = .ok (.aload_n 0, 1) := by decide +kernel
theorem dX8_stone_9 : decode cX8_stone 9 = .ok (.iload_n 2, 1) := by decide +kernel
theorem dX8_stone_10 : decode cX8_stone 10 = .ok (.invokevirtual 146, 3) := by decide +kernel
theorem dX8_stone_13 : decode cX8_stone 13 = .ok (.ifCond .ne 5, 3) := by decide +kernel
theorem dX8_stone_16 : decode cX8_stone 16 = .ok (.iconst (-1), 1) := by decide +kernel
theorem dX8_stone_17 : decode cX8_stone 17 = .ok (.ireturn, 1) := by decide +kernel
theorem dX8_stone_18 : decode cX8_stone 18 = .ok (.aload_n 0, 1) := by decide +kernel
theorem dX8_stone_19 : decode cX8_stone 19 = .ok (.iload_n 1, 1) := by decide +kernel
theorem dX8_stone_20 : decode cX8_stone 20 = .ok (.invokevirtual 115, 3) := by decide +kernel
theorem dX8_stone_23 : decode cX8_stone 23 = .ok (.iconst 1, 1) := by decide +kernel
theorem dX8_stone_24 : decode cX8_stone 24 = .ok (.if_icmp .ne 21, 3) := by decide +kernel
theorem dX8_stone_27 : decode cX8_stone 27 = .ok (.aload_n 0, 1) := by decide +kernel
theorem dX8_stone_28 : decode cX8_stone 28 = .ok (.iload_n 2, 1) := by decide +kernel
theorem dX8_stone_29 : decode cX8_stone 29 = .ok (.invokevirtual 115, 3) := by decide +kernel
theorem dX8_stone_32 : decode cX8_stone 32 = .ok (.ifCond .ne 13, 3) := by decide +kernel
theorem dX8_stone_35 : decode cX8_stone 35 = .ok (.aload_n 0, 1) := by decide +kernel
theorem dX8_stone_36 : decode cX8_stone 36 = .ok (.getfield 13, 3) := by decide +kernel
theorem dX8_stone_39 : decode cX8_stone 39 = .ok (.iconst 1, 1) := by decide +kernel
theorem dX8_stone_40 : decode cX8_stone 40 = .ok (.iaload, 1) := by decide +kernel
theorem dX8_stone_41 : decode cX8_stone 41 = .ok (.iload_n 2, 1) := by decide +kernel
theorem dX8_stone_42 : decode cX8_stone 42 = .ok (.if_icmp .ne 6, 3) := by decide +kernel
theorem dX8_stone_45 : decode cX8_stone 45 = .ok (.bipush (-2), 2) := by decide +kernel
theorem dX8_stone_47 : decode cX8_stone 47 = .ok (.ireturn, 1) := by decide +kernel
theorem dX8_stone_48 : decode cX8_stone 48 = .ok (.aload_n 0, 1) := by decide +kernel
theorem dX8_stone_49 : decode cX8_stone 49 = .ok (.invokevirtual 153, 3) := by decide +kernel
theorem dX8_stone_52 : decode cX8_stone 52 = .ok (.aload_n 0, 1) := by decide +kernel
theorem dX8_stone_53 : decode cX8_stone 53 = .ok (.getfield 13, 3) := by decide +kernel
theorem dX8_stone_56 : decode cX8_stone 56 = .ok (.iconst 3, 1) := by decide +kernel
theorem dX8_stone_57 : decode cX8_stone 57 = .ok (.iload_n 1, 1) := by decide +kernel
theorem dX8_stone_58 : decode cX8_stone 58 = .ok (.iadd, 1) := by decide +kernel
theorem dX8_stone_59 : decode cX8_stone 59 = .ok (.iconst 0, 1) := by decide +kernel
theorem dX8_stone_60 : decode cX8_stone 60 = .ok (.iastore, 1) := by decide +kernel
theorem dX8_stone_61 : decode cX8_stone 61 = .ok (.aload_n 0, 1) := by decide +kernel
theorem dX8_stone_62 : decode cX8_stone 62 = .ok (.getfield 13, 3) := by decide +kernel
theorem dX8_stone_65 : decode cX8_stone 65 = .ok (.iconst 3, 1) := by decide +kernel
theorem dX8_stone_66 : decode cX8_stone 66 = .ok (.iload_n 2, 1) := by decide +kernel
theorem dX8_stone_67 : decode cX8_stone 67 = .ok (.iadd, 1) := by decide +kernel
theorem dX8_stone_68 : decode cX8_stone 68 = .ok (.iconst 1, 1) := by decide +kernel
theorem dX8_stone_69 : decode cX8_stone 69 = .ok (.iastore, 1) := by decide +kernel
theorem dX8_stone_70 : decode cX8_stone 70 = .ok (.aload_n 0, 1) := by decide +kernel
theorem dX8_stone_71 : decode cX8_stone 71 = .ok (.iconst 1, 1) := by decide +kernel
theorem dX8_stone_72 : decode cX8_stone 72 = .ok (.invokevirtual 159, 3) := by decide +kernel
theorem dX8_stone_75 : decode cX8_stone 75 = .ok (.ireturn, 1) := by decide +kernel
theorem dX8_undo_0 : decode cX8_undo 0 = .ok (.aload_n 0, 1) := by decide +kernel
theorem dX8_undo_1 : decode cX8_undo 1 = .ok (.getfield 109, 3) := by decide +kernel
theorem dX8_undo_4 : decode cX8_undo 4 = .ok (.ifCond .ne 6, 3) := by decide +kernel
theorem dX8_undo_7 : decode cX8_undo 7 = .ok (.bipush (-2), 2) := by decide +kernel
theorem dX8_undo_9 : decode cX8_undo 9 = .ok (.ireturn, 1) := by decide +kernel
theorem dX8_undo_10 : decode cX8_undo 10 = .ok (.aload_n 0, 1) := by decide +kernel
theorem dX8_undo_11 : decode cX8_undo 11 = .ok (.dup, 1) := by decide +kernel
theorem dX8_undo_12 : decode cX8_undo 12 = .ok (.getfield 109, 3) := by decide +kernel
theorem dX8_undo_15 : decode cX8_undo 15 = .ok (.iconst 1, 1) := by decide +kernel
theorem dX8_undo_16 : decode cX8_undo 16 = .ok (.isub, 1) := by decide +kernel
theorem dX8_undo_17 : decode cX8_undo 17 = .ok (.putfield 109, 3) := by decide +kernel
theorem dX8_undo_20 : decode cX8_undo 20 = .ok (.iconst 0, 1) := by decide +kernel
theorem dX8_undo_21 : decode cX8_undo 21 = .ok (.istore_n 1, 1) := by decide +kernel
theorem dX8_undo_22 : decode cX8_undo 22 = .ok (.iload_n 1, 1) := by decide +kernel
theorem dX8_undo_23 : decode cX8_undo 23 = .ok (.bipush 28, 2) := by decide +kernel
theorem dX8_undo_25 : decode cX8_undo 25 = .ok (.if_icmp .ge 29, 3) := by decide +kernel
theorem dX8_undo_28 : decode cX8_undo 28 = .ok (.aload_n 0, 1) := by decide +kernel
theorem dX8_undo_29 : decode cX8_undo 29 = .ok (.getfield 13, 3) := by decide +kernel
theorem dX8_undo_32 : decode cX8_undo 32 = .ok (.iload_n 1, 1) := by decide +kernel
theorem dX8_undo_33 : decode cX8_undo 33 = .ok (.aload_n 0, 1) := by decide +kernel
theorem dX8_undo_34 : decode cX8_undo 34 = .ok (.getfield 28, 3) := by decide +kernel
theorem dX8_undo_37 : decode cX8_undo 37 = .ok (.bipush 28, 2) := by decide +kernel
theorem dX8_undo_39 : decode cX8_undo 39 = .ok (.aload_n 0, 1) := by decide +kernel
theorem dX8_undo_40 : decode cX8_undo 40 = .ok (.getfield 109, 3) := by decide +kernel
theorem dX8_undo_43 : decode cX8_undo 43 = .ok (.imul, 1) := by decide +kernel
theorem dX8_undo_44 : decode cX8_undo 44 = .ok (.iload_n 1, 1) := by decide +kernel
theorem dX8_undo_45 : decode cX8_undo 45 = .ok (.iadd, 1) := by decide +kernel
theorem dX8_undo_46 : decode cX8_undo 46 = .ok (.iaload, 1) := by decide +kernel
theorem dX8_undo_47 : decode cX8_undo 47 = .ok (.iastore, 1) := by decide +kernel
theorem dX8_undo_48 : decode cX8_undo 48 = .ok (.iinc 1 1, 3) := by decide +kernel
theorem dX8_undo_51 : decode cX8_undo 51 = .ok (.goto (-29), 3) := by decide +kernel
theorem dX8_undo_54 : decode cX8_undo 54 = .ok (.aload_n 0, 1) := by decide +kernel
theorem dX8_undo_55 : decode cX8_undo 55 = .ok (.getfield 109, 3) := by decide +kernel
theorem dX8_undo_58 : decode cX8_undo 58 = .ok (.ireturn, 1) := by decide +kernel
theorem dX8_asides_0 : decode cX8_asides 0 = .ok (.iconst 0, 1) := by decide +kernel
theorem dX8_asides_1 : decode cX8_asides 1 = .ok (.istore_n 1, 1) := by decide +kernel
theorem dX8_asides_2 : decode cX8_asides 2 = .ok (.iload_n 1, 1) := by decide +kernel
theorem dX8_asides_3 : decode cX8_asides 3 = .ok (.bipush 28, 2) := by decide +kernel
theorem dX8_asides_5 : decode cX8_asides 5 = .ok (.if_icmp .ge 21, 3) := by decide +kernel
theorem dX8_asides_8 : decode cX8_asides 8 = .ok (.aload_n 0, 1) := by decide +kernel
theorem dX8_asides_9 : decode cX8_asides 9 = .ok (.getfield 31, 3) := by decide +kernel
theorem dX8_asides_12 : decode cX8_asides 12 = .ok (.iload_n 1, 1) := by decide +kernel
theorem dX8_asides_13 : decode cX8_asides 13 = .ok (.aload_n 0, 1) := by decide +kernel
theorem dX8_asides_14 : decode cX8_asides 14 = .ok (.getfield 13, 3) := by decide +kernel
theorem dX8_asides_17 : decode cX8_asides 17 = .ok (.iload_n 1, 1) := by decide +kernel
theorem dX8_asides_18 : decode cX8_asides 18 = .ok (.iaload, 1) := by decide +kernel
theorem dX8_asides_19 : decode cX8_asides 19 = .ok (.iastore, 1) := by decide +kernel
theorem dX8_asides_20 : decode cX8_asides 20 = .ok (.iinc 1 1, 3) := by decide +kernel
theorem dX8_asides_23 : decode cX8_asides 23 = .ok (.goto (-21), 3) := by decide +kernel
theorem dX8_asides_26 : decode cX8_asides 26 = .ok (.return_, 1) := by decide +kernel
theorem dX8_backs_0 : decode cX8_backs 0 = .ok (.iconst 0, 1) := by decide +kernel
theorem dX8_backs_1 : decode cX8_backs 1 = .ok (.istore_n 1, 1) := by decide +kernel
theorem dX8_backs_2 : decode cX8_backs 2 = .ok (.iload_n 1, 1) := by decide +kernel
theorem dX8_backs_3 : decode cX8_backs 3 = .ok (.bipush 28, 2) := by decide +kernel
theorem dX8_backs_5 : decode cX8_backs 5 = .ok (.if_icmp .ge 21, 3) := by decide +kernel
theorem dX8_backs_8 : decode cX8_backs 8 = .ok (.aload_n 0, 1) := by decide +kernel
theorem dX8_backs_9 : decode cX8_backs 9 = .ok (.getfield 13, 3) := by decide +kernel
theorem dX8_backs_12 : decode cX8_backs 12 = .ok (.iload_n 1, 1) := by decide +kernel
theorem dX8_backs_13 : decode cX8_backs 13 = .ok (.aload_n 0, 1) := by decide +kernel
theorem dX8_backs_14 : decode cX8_backs 14 = .ok (.getfield 31, 3) := by decide +kernel
theorem dX8_backs_17 : decode cX8_backs 17 = .ok (.iload_n 1, 1) := by decide +kernel
theorem dX8_backs_18 : decode cX8_backs 18 = .ok (.iaload, 1) := by decide +kernel
theorem dX8_backs_19 : decode cX8_backs 19 = .ok (.iastore, 1) := by decide +kernel
theorem dX8_backs_20 : decode cX8_backs 20 = .ok (.iinc 1 1, 3) := by decide +kernel
theorem dX8_backs_23 : decode cX8_backs 23 = .ok (.goto (-21), 3) := by decide +kernel
theorem dX8_backs_26 : decode cX8_backs 26 = .ok (.return_, 1) := by decide +kernel
set_option maxRecDepth 20000 in
theorem ggX8_beginsSo_X8_dampOf : GoodIn wsX8_beginsSo wsX8_dampOf := goodIn_r _ [8, 9, 48, 49, 50, 51, 52, 53, 54, 55, 56, 57, 58, 59, 60, 61, 62, 63, 64, 65, 66, 67, 68, 69, 70, 71] (by decide +kernel) (by decide +kernel)
set_option maxRecDepth 20000 in
theorem gX8_beginsSo_X8_dampOf : GoodIn wsX8_beginsSo (wsV RX8 139 RX8 yX8_dampOf wsX8_dampOf) := goodIn_app (goodIn_of _ (by decide +kernel)) ggX8_beginsSo_X8_dampOf
set_option maxRecDepth 20000 in
theorem ggX8_beginsSo_X8_goesBy : GoodIn wsX8_beginsSo wsX8_goesBy := goodIn_r _ [13, 1, 9, 14, 15, 16, 7, 17, 18, 19, 20, 21, 22, 23, 24, 25, 26, 27, 28, 29, 30, 31, 32, 33, 34, 35, 36, 37, 38, 39, 40, 41, 42, 43, 44, 45, 46, 47, 48, 49, 50, 51, 52, 53, 54, 55, 56, 57, 58, 59, 60, 61, 62, 63, 64, 65, 66, 67, 68, 69, 70, 71] (by decide +kernel) (by decide +kernel)
set_option maxRecDepth 20000 in
theorem gX8_beginsSo_X8_goesBy : GoodIn wsX8_beginsSo (wsV RX8 142 RX8 yX8_goesBy wsX8_goesBy) := goodIn_app (goodIn_of _ (by decide +kernel)) ggX8_beginsSo_X8_goesBy
theorem dX8_beginsSo_0 : decode cX8_beginsSo 0 = .ok (.iconst 0, 1) := by decide +kernel
theorem dX8_beginsSo_1 : decode cX8_beginsSo 1 = .ok (.istore_n 1, 1) := by decide +kernel
theorem dX8_beginsSo_2 : decode cX8_beginsSo 2 = .ok (.iload_n 1, 1) := by decide +kernel
theorem dX8_beginsSo_3 : decode cX8_beginsSo 3 = .ok (.bipush 30, 2) := by decide +kernel
theorem dX8_beginsSo_5 : decode cX8_beginsSo 5 = .ok (.if_icmp .ge 33, 3) := by decide +kernel
theorem dX8_beginsSo_8 : decode cX8_beginsSo 8 = .ok (.aload_n 0, 1) := by decide +kernel
theorem dX8_beginsSo_9 : decode cX8_beginsSo 9 = .ok (.getfield 13, 3) := by decide +kernel
theorem dX8_beginsSo_12 : decode cX8_beginsSo 12 = .ok (.iconst 2, 1) := by decide +kernel
theorem dX8_beginsSo_13 : decode cX8_beginsSo 13 = .ok (.iaload, 1) := by decide +kernel
theorem dX8_beginsSo_14 : decode cX8_beginsSo 14 = .ok (.ifCond .ge 24, 3) := by decide +kernel
theorem dX8_beginsSo_17 : decode cX8_beginsSo 17 = .ok (.aload_n 0, 1) := by decide +kernel
theorem dX8_beginsSo_18 : decode cX8_beginsSo 18 = .ok (.aload_n 0, 1) := by decide +kernel
theorem dX8_beginsSo_19 : decode cX8_beginsSo 19 = .ok (.aload_n 0, 1) := by decide +kernel
theorem dX8_beginsSo_20 : decode cX8_beginsSo 20 = .ok (.getfield 13, 3) := by decide +kernel
theorem dX8_beginsSo_23 : decode cX8_beginsSo 23 = .ok (.iconst 0, 1) := by decide +kernel
theorem dX8_beginsSo_24 : decode cX8_beginsSo 24 = .ok (.iaload, 1) := by decide +kernel
theorem dX8_beginsSo_25 : decode cX8_beginsSo 25 = .ok (.invokevirtual 139, 3) := by decide +kernel
theorem dX8_beginsSo_28 : decode cX8_beginsSo 28 = .ok (.invokevirtual 142, 3) := by decide +kernel
theorem dX8_beginsSo_31 : decode cX8_beginsSo 31 = .ok (.pop, 1) := by decide +kernel
theorem dX8_beginsSo_32 : decode cX8_beginsSo 32 = .ok (.iinc 1 1, 3) := by decide +kernel
theorem dX8_beginsSo_35 : decode cX8_beginsSo 35 = .ok (.goto (-33), 3) := by decide +kernel
theorem dX8_beginsSo_38 : decode cX8_beginsSo 38 = .ok (.aload_n 0, 1) := by decide +kernel
theorem dX8_beginsSo_39 : decode cX8_beginsSo 39 = .ok (.aload_n 0, 1) := by decide +kernel
theorem dX8_beginsSo_40 : decode cX8_beginsSo 40 = .ok (.getfield 13, 3) := by decide +kernel
theorem dX8_beginsSo_43 : decode cX8_beginsSo 43 = .ok (.iconst 2, 1) := by decide +kernel
theorem dX8_beginsSo_44 : decode cX8_beginsSo 44 = .ok (.iaload, 1) := by decide +kernel
theorem dX8_beginsSo_45 : decode cX8_beginsSo 45 = .ok (.putfield 162, 3) := by decide +kernel
theorem dX8_beginsSo_48 : decode cX8_beginsSo 48 = .ok (.aload_n 0, 1) := by decide +kernel
theorem dX8_beginsSo_49 : decode cX8_beginsSo 49 = .ok (.aload_n 0, 1) := by decide +kernel
theorem dX8_beginsSo_50 : decode cX8_beginsSo 50 = .ok (.getfield 13, 3) := by decide +kernel
theorem dX8_beginsSo_53 : decode cX8_beginsSo 53 = .ok (.iconst 1, 1) := by decide +kernel
theorem dX8_beginsSo_54 : decode cX8_beginsSo 54 = .ok (.iaload, 1) := by decide +kernel
theorem dX8_beginsSo_55 : decode cX8_beginsSo 55 = .ok (.putfield 165, 3) := by decide +kernel
theorem dX8_beginsSo_58 : decode cX8_beginsSo 58 = .ok (.aload_n 0, 1) := by decide +kernel
theorem dX8_beginsSo_59 : decode cX8_beginsSo 59 = .ok (.getfield 13, 3) := by decide +kernel
theorem dX8_beginsSo_62 : decode cX8_beginsSo 62 = .ok (.iconst 2, 1) := by decide +kernel
theorem dX8_beginsSo_63 : decode cX8_beginsSo 63 = .ok (.iaload, 1) := by decide +kernel
theorem dX8_beginsSo_64 : decode cX8_beginsSo 64 = .ok (.ifCond .ge 8, 3) := by decide +kernel
theorem dX8_beginsSo_67 : decode cX8_beginsSo 67 = .ok (.bipush (-4), 2) := by decide +kernel
theorem dX8_beginsSo_69 : decode cX8_beginsSo 69 = .ok (.goto 4, 3) := by decide +kernel
theorem dX8_beginsSo_72 : decode cX8_beginsSo 72 = .ok (.iload_n 1, 1) := by decide +kernel
theorem dX8_beginsSo_73 : decode cX8_beginsSo 73 = .ok (.ireturn, 1) := by decide +kernel
set_option maxRecDepth 20000 in
theorem ggX8_beginsNow_X8_asides : GoodIn wsX8_beginsNow wsX8_asides := goodIn_r _ [5, 6, 7, 61, 62, 63, 64, 65, 66, 67, 68, 69, 70, 71, 72, 73, 74, 75, 76, 77, 78, 79, 80, 81, 82, 83, 84] (by decide +kernel) (by decide +kernel)
set_option maxRecDepth 20000 in
theorem gX8_beginsNow_X8_asides : GoodIn wsX8_beginsNow (wsV RX8 168 RX8 yX8_asides wsX8_asides) := goodIn_app (goodIn_of _ (by decide +kernel)) ggX8_beginsNow_X8_asides
set_option maxRecDepth 20000 in
theorem ggX8_beginsNow_X8_beginsSo : GoodIn wsX8_beginsNow wsX8_beginsSo := goodIn_r _ [11, 7, 12, 13, 14, 15, 16, 4, 17, 18, 19, 20, 21, 22, 23, 24, 25, 26, 27, 28, 29, 30, 31, 32, 33, 34, 35, 36, 37, 38, 39, 40, 41, 42, 43, 44, 45, 46, 47, 48, 49, 50, 51, 52, 53, 54, 55, 56, 61, 62, 63, 64, 65, 66, 67, 68, 69, 70, 71, 72, 73, 74, 75, 76, 77, 78, 79, 80, 81, 82, 83, 84] (by decide +kernel) (by decide +kernel)
set_option maxRecDepth 20000 in
theorem gX8_beginsNow_X8_beginsSo : GoodIn wsX8_beginsNow (wsV RX8 171 RX8 yX8_beginsSo wsX8_beginsSo) := goodIn_app (goodIn_of _ (by decide +kernel)) ggX8_beginsNow_X8_beginsSo
set_option maxRecDepth 20000 in
theorem ggX8_beginsNow_X8_backs : GoodIn wsX8_beginsNow wsX8_backs := goodIn_r _ [60, 7, 6, 61, 62, 63, 64, 65, 66, 67, 68, 69, 70, 71, 72, 73, 74, 75, 76, 77, 78, 79, 80, 81, 82, 83, 84] (by decide +kernel) (by decide +kernel)
set_option maxRecDepth 20000 in
theorem gX8_beginsNow_X8_backs : GoodIn wsX8_beginsNow (wsV RX8 174 RX8 yX8_backs wsX8_backs) := goodIn_app (goodIn_of _ (by decide +kernel)) ggX8_beginsNow_X8_backs
theorem dX8_beginsNow_0 : decode cX8_beginsNow 0 = .ok (.aload_n 0, 1) := by decide +kernel
theorem dX8_beginsNow_1 : decode cX8_beginsNow 1 = .ok (.invokevirtual 168, 3) := by decide +kernel
theorem dX8_beginsNow_4 : decode cX8_beginsNow 4 = .ok (.aload_n 0, 1) := by decide +kernel
theorem dX8_beginsNow_5 : decode cX8_beginsNow 5 = .ok (.invokevirtual 171, 3) := by decide +kernel
theorem dX8_beginsNow_8 : decode cX8_beginsNow 8 = .ok (.istore_n 1, 1) := by decide +kernel
theorem dX8_beginsNow_9 : decode cX8_beginsNow 9 = .ok (.aload_n 0, 1) := by decide +kernel
theorem dX8_beginsNow_10 : decode cX8_beginsNow 10 = .ok (.invokevirtual 174, 3) := by decide +kernel
theorem dX8_beginsNow_13 : decode cX8_beginsNow 13 = .ok (.iload_n 1, 1) := by decide +kernel
theorem dX8_beginsNow_14 : decode cX8_beginsNow 14 = .ok (.ireturn, 1) := by decide +kernel
set_option maxRecDepth 20000 in
theorem ggX8_where_X8_in : GoodIn wsX8_where wsX8_in := goodIn_r _ [6] (by decide +kernel) (by decide +kernel)
set_option maxRecDepth 20000 in
theorem gX8_where_X8_in : GoodIn wsX8_where (va_wsS RX8 54 yX8_in wsX8_in) := goodIn_app (goodIn_of _ (by decide +kernel)) ggX8_where_X8_in
set_option maxRecDepth 20000 in
theorem ggX8_where_X8_asides : GoodIn wsX8_where wsX8_asides := goodIn_r _ [10, 11, 2, 63, 64, 65, 66, 67, 68, 69, 70, 71, 72, 73, 74, 75, 76, 77, 78, 79, 80, 81, 82, 83, 84, 85, 86] (by decide +kernel) (by decide +kernel)
set_option maxRecDepth 20000 in
theorem gX8_where_X8_asides : GoodIn wsX8_where (wsV RX8 168 RX8 yX8_asides wsX8_asides) := goodIn_app (goodIn_of _ (by decide +kernel)) ggX8_where_X8_asides
set_option maxRecDepth 20000 in
theorem ggX8_where_X8_goesOn : GoodIn wsX8_where wsX8_goesOn := goodIn_r _ [15, 2, 16, 17, 18, 5, 19, 20, 21, 22, 23, 24, 25, 26, 27, 28, 29, 30, 31, 32, 33, 34, 35, 36, 37, 38, 39, 40, 41, 42, 43, 44, 45, 46, 47, 48, 49, 50, 51, 52, 53, 54, 55, 56, 57, 58, 63, 64, 65, 66, 67, 68, 69, 70, 71, 72, 73, 74, 75, 76, 77, 78, 79, 80, 81, 82, 83, 84, 85, 86] (by decide +kernel) (by decide +kernel)
set_option maxRecDepth 20000 in
theorem gX8_where_X8_goesOn : GoodIn wsX8_where (wsV RX8 156 RX8 yX8_goesOn wsX8_goesOn) := goodIn_app (goodIn_of _ (by decide +kernel)) ggX8_where_X8_goesOn
set_option maxRecDepth 20000 in
theorem ggX8_where_X8_backs : GoodIn wsX8_where wsX8_backs := goodIn_r _ [62, 2, 11, 63, 64, 65, 66, 67, 68, 69, 70, 71, 72, 73, 74, 75, 76, 77, 78, 79, 80, 81, 82, 83, 84, 85, 86] (by decide +kernel) (by decide +kernel)
set_option maxRecDepth 20000 in
theorem gX8_where_X8_backs : GoodIn wsX8_where (wsV RX8 174 RX8 yX8_backs wsX8_backs) := goodIn_app (goodIn_of _ (by decide +kernel)) ggX8_where_X8_backs
theorem dX8_where_0 : decode cX8_where 0 = .ok (.iload_n 1, 1) := by decide +kernel
theorem dX8_where_1 : decode cX8_where 1 = .ok (.i2l, 1) := by decide +kernel
theorem dX8_where_2 : decode cX8_where 2 = .ok (.lconst 0, 1) := by decide +kernel
theorem dX8_where_3 : decode cX8_where 3 = .ok (.ldc2_w 151, 3) := by decide +kernel
theorem dX8_where_6 : decode cX8_where 6 = .ok (.invokestatic 54, 3) := by decide +kernel
theorem dX8_where_9 : decode cX8_where 9 = .ok (.ifCond .ne 5, 3) := by decide +kernel
theorem dX8_where_12 : decode cX8_where 12 = .ok (.iconst (-1), 1) := by decide +kernel
theorem dX8_where_13 : decode cX8_where 13 = .ok (.ireturn, 1) := by decide +kernel
theorem dX8_where_14 : decode cX8_where 14 = .ok (.aload_n 0, 1) := by decide +kernel
theorem dX8_where_15 : decode cX8_where 15 = .ok (.invokevirtual 168, 3) := by decide +kernel
theorem dX8_where_18 : decode cX8_where 18 = .ok (.aload_n 0, 1) := by decide +kernel
theorem dX8_where_19 : decode cX8_where 19 = .ok (.iload_n 1, 1) := by decide +kernel
theorem dX8_where_20 : decode cX8_where 20 = .ok (.invokevirtual 156, 3) := by decide +kernel
theorem dX8_where_23 : decode cX8_where 23 = .ok (.aload_n 0, 1) := by decide +kernel
theorem dX8_where_24 : decode cX8_where 24 = .ok (.getfield 13, 3) := by decide +kernel
theorem dX8_where_27 : decode cX8_where 27 = .ok (.iconst 1, 1) := by decide +kernel
theorem dX8_where_28 : decode cX8_where 28 = .ok (.iaload, 1) := by decide +kernel
theorem dX8_where_29 : decode cX8_where 29 = .ok (.istore_n 2, 1) := by decide +kernel
theorem dX8_where_30 : decode cX8_where 30 = .ok (.aload_n 0, 1) := by decide +kernel
theorem dX8_where_31 : decode cX8_where 31 = .ok (.invokevirtual 174, 3) := by decide +kernel
theorem dX8_where_34 : decode cX8_where 34 = .ok (.iload_n 2, 1) := by decide +kernel
theorem dX8_where_35 : decode cX8_where 35 = .ok (.ireturn, 1) := by decide +kernel
set_option maxRecDepth 20000 in
theorem ggX8_begins_X8_beginsNow : GoodIn wsX8_begins wsX8_beginsNow := goodIn_r _ [5, 6, 7, 8, 4, 9, 10, 11, 12, 13, 14, 15, 16, 17, 18, 19, 20, 21, 22, 23, 24, 25, 26, 27, 28, 29, 30, 31, 32, 33, 34, 35, 36, 37, 38, 39, 40, 41, 42, 43, 44, 45, 46, 47, 48, 49, 50, 51, 52, 53, 54, 55, 56, 57, 58, 59, 60, 61, 62, 63, 64, 65, 66, 67, 68, 69, 70, 71, 72, 73, 74, 75, 76, 77, 78, 79, 80, 81, 82, 83, 84, 85, 86, 87, 88] (by decide +kernel) (by decide +kernel)
set_option maxRecDepth 20000 in
theorem gX8_begins_X8_beginsNow : GoodIn wsX8_begins (wsV RX8 177 RX8 yX8_beginsNow wsX8_beginsNow) := goodIn_app (goodIn_of _ (by decide +kernel)) ggX8_begins_X8_beginsNow
theorem dX8_begins_0 : decode cX8_begins 0 = .ok (.aload_n 0, 1) := by decide +kernel
theorem dX8_begins_1 : decode cX8_begins 1 = .ok (.invokevirtual 177, 3) := by decide +kernel
theorem dX8_begins_4 : decode cX8_begins 4 = .ok (.ireturn, 1) := by decide +kernel
set_option maxRecDepth 20000 in
theorem ggX8_due_X8_beginsNow : GoodIn wsX8_due wsX8_beginsNow := goodIn_r _ [7, 8, 9, 10, 6, 11, 12, 13, 14, 15, 16, 17, 2, 18, 19, 20, 21, 22, 1, 23, 24, 25, 26, 27, 28, 29, 30, 31, 32, 33, 34, 35, 36, 37, 38, 39, 40, 41, 42, 43, 44, 45, 46, 47, 48, 49, 50, 51, 52, 53, 54, 55, 56, 57, 58, 59, 60, 61, 62, 63, 64, 65, 66, 67, 68, 69, 70, 71, 72, 73, 74, 75, 76, 77, 78, 79, 80, 81, 82, 83, 84, 85, 86, 87, 88] (by decide +kernel) (by decide +kernel)
set_option maxRecDepth 20000 in
theorem gX8_due_X8_beginsNow : GoodIn wsX8_due (wsV RX8 177 RX8 yX8_beginsNow wsX8_beginsNow) := goodIn_app (goodIn_of _ (by decide +kernel)) ggX8_due_X8_beginsNow
theorem dX8_due_0 : decode cX8_due 0 = .ok (.aload_n 0, 1) := by decide +kernel
theorem dX8_due_1 : decode cX8_due 1 = .ok (.invokevirtual 177, 3) := by decide +kernel
theorem dX8_due_4 : decode cX8_due 4 = .ok (.pop, 1) := by decide +kernel
theorem dX8_due_5 : decode cX8_due 5 = .ok (.iconst 0, 1) := by decide +kernel
theorem dX8_due_6 : decode cX8_due 6 = .ok (.istore_n 1, 1) := by decide +kernel
theorem dX8_due_7 : decode cX8_due 7 = .ok (.iconst 0, 1) := by decide +kernel
theorem dX8_due_8 : decode cX8_due 8 = .ok (.istore_n 2, 1) := by decide +kernel
theorem dX8_due_9 : decode cX8_due 9 = .ok (.iload_n 2, 1) := by decide +kernel
theorem dX8_due_10 : decode cX8_due 10 = .ok (.aload_n 0, 1) := by decide +kernel
theorem dX8_due_11 : decode cX8_due 11 = .ok (.getfield 7, 3) := by decide +kernel
theorem dX8_due_14 : decode cX8_due 14 = .ok (.bipush 13, 2) := by decide +kernel
theorem dX8_due_16 : decode cX8_due 16 = .ok (.iaload, 1) := by decide +kernel
theorem dX8_due_17 : decode cX8_due 17 = .ok (.if_icmp .ge 52, 3) := by decide +kernel
theorem dX8_due_20 : decode cX8_due 20 = .ok (.iload_n 1, 1) := by decide +kernel
theorem dX8_due_21 : decode cX8_due 21 = .ok (.aload_n 0, 1) := by decide +kernel
theorem dX8_due_22 : decode cX8_due 22 = .ok (.getfield 162, 3) := by decide +kernel
theorem dX8_due_25 : decode cX8_due 25 = .ok (.ifCond .lt 21, 3) := by decide +kernel
theorem dX8_due_28 : decode cX8_due 28 = .ok (.aload_n 0, 1) := by decide +kernel
theorem dX8_due_29 : decode cX8_due 29 = .ok (.getfield 7, 3) := by decide +kernel
theorem dX8_due_32 : decode cX8_due 32 = .ok (.bipush 14, 2) := by decide +kernel
theorem dX8_due_34 : decode cX8_due 34 = .ok (.iconst 2, 1) := by decide +kernel
theorem dX8_due_35 : decode cX8_due 35 = .ok (.iload_n 2, 1) := by decide +kernel
theorem dX8_due_36 : decode cX8_due 36 = .ok (.imul, 1) := by decide +kernel
theorem dX8_due_37 : decode cX8_due 37 = .ok (.iadd, 1) := by decide +kernel
theorem dX8_due_38 : decode cX8_due 38 = .ok (.iaload, 1) := by decide +kernel
theorem dX8_due_39 : decode cX8_due 39 = .ok (.aload_n 0, 1) := by decide +kernel
theorem dX8_due_40 : decode cX8_due 40 = .ok (.getfield 162, 3) := by decide +kernel
theorem dX8_due_43 : decode cX8_due 43 = .ok (.if_icmp .gt 17, 3) := by decide +kernel
theorem dX8_due_46 : decode cX8_due 46 = .ok (.aload_n 0, 1) := by decide +kernel
theorem dX8_due_47 : decode cX8_due 47 = .ok (.getfield 7, 3) := by decide +kernel
theorem dX8_due_50 : decode cX8_due 50 = .ok (.bipush 15, 2) := by decide +kernel
theorem dX8_due_52 : decode cX8_due 52 = .ok (.iconst 2, 1) := by decide +kernel
theorem dX8_due_53 : decode cX8_due 53 = .ok (.iload_n 2, 1) := by decide +kernel
theorem dX8_due_54 : decode cX8_due 54 = .ok (.imul, 1) := by decide +kernel
theorem dX8_due_55 : decode cX8_due 55 = .ok (.iadd, 1) := by decide +kernel
theorem dX8_due_56 : decode cX8_due 56 = .ok (.iaload, 1) := by decide +kernel
theorem dX8_due_57 : decode cX8_due 57 = .ok (.goto 4, 3) := by decide +kernel
theorem dX8_due_60 : decode cX8_due 60 = .ok (.iconst 0, 1) := by decide +kernel
theorem dX8_due_61 : decode cX8_due 61 = .ok (.iadd, 1) := by decide +kernel
theorem dX8_due_62 : decode cX8_due 62 = .ok (.istore_n 1, 1) := by decide +kernel
theorem dX8_due_63 : decode cX8_due 63 = .ok (.iinc 2 1, 3) := by decide +kernel
theorem dX8_due_66 : decode cX8_due 66 = .ok (.goto (-57), 3) := by decide +kernel
theorem dX8_due_69 : decode cX8_due 69 = .ok (.iload_n 1, 1) := by decide +kernel
theorem dX8_due_70 : decode cX8_due 70 = .ok (.ireturn, 1) := by decide +kernel
theorem dX8_apart_0 : decode cX8_apart 0 = .ok (.iload_n 0, 1) := by decide +kernel
theorem dX8_apart_1 : decode cX8_apart 1 = .ok (.iload_n 1, 1) := by decide +kernel
theorem dX8_apart_2 : decode cX8_apart 2 = .ok (.if_icmp .ge 9, 3) := by decide +kernel
theorem dX8_apart_5 : decode cX8_apart 5 = .ok (.iload_n 1, 1) := by decide +kernel
theorem dX8_apart_6 : decode cX8_apart 6 = .ok (.iload_n 0, 1) := by decide +kernel
theorem dX8_apart_7 : decode cX8_apart 7 = .ok (.isub, 1) := by decide +kernel
theorem dX8_apart_8 : decode cX8_apart 8 = .ok (.goto 6, 3) := by decide +kernel
theorem dX8_apart_11 : decode cX8_apart 11 = .ok (.iload_n 0, 1) := by decide +kernel
theorem dX8_apart_12 : decode cX8_apart 12 = .ok (.iload_n 1, 1) := by decide +kernel
theorem dX8_apart_13 : decode cX8_apart 13 = .ok (.isub, 1) := by decide +kernel
theorem dX8_apart_14 : decode cX8_apart 14 = .ok (.ireturn, 1) := by decide +kernel
set_option maxRecDepth 20000 in
theorem ggX8_heir_X8_beginsNow : GoodIn wsX8_heir wsX8_beginsNow := goodIn_r _ [7, 8, 9, 10, 6, 11, 12, 13, 14, 15, 16, 17, 18, 1, 19, 20, 21, 22, 2, 23, 24, 25, 26, 27, 28, 29, 30, 31, 32, 33, 34, 35, 36, 37, 38, 39, 40, 41, 42, 43, 44, 45, 46, 47, 48, 49, 50, 51, 52, 53, 54, 55, 56, 57, 58, 59, 60, 61, 62, 63, 64, 68, 69, 70, 71, 72, 73, 74, 75, 76, 77, 78, 79, 80, 81, 82, 83, 84, 85, 86, 87, 88, 89, 90, 91] (by decide +kernel) (by decide +kernel)
set_option maxRecDepth 20000 in
theorem gX8_heir_X8_beginsNow : GoodIn wsX8_heir (wsV RX8 177 RX8 yX8_beginsNow wsX8_beginsNow) := goodIn_app (goodIn_of _ (by decide +kernel)) ggX8_heir_X8_beginsNow
set_option maxRecDepth 20000 in
theorem ggX8_heir_X8_apart : GoodIn wsX8_heir wsX8_apart := goodIn_r _ [67] (by decide +kernel) (by decide +kernel)
set_option maxRecDepth 20000 in
theorem gX8_heir_X8_apart : GoodIn wsX8_heir (va_wsS RX8 180 yX8_apart wsX8_apart) := goodIn_app (goodIn_of _ (by decide +kernel)) ggX8_heir_X8_apart
theorem dX8_heir_0 : decode cX8_heir 0 = .ok (.aload_n 0, 1) := by decide +kernel
theorem dX8_heir_1 : decode cX8_heir 1 = .ok (.invokevirtual 177, 3) := by decide +kernel
theorem dX8_heir_4 : decode cX8_heir 4 = .ok (.bipush (-4), 2) := by decide +kernel
theorem dX8_heir_6 : decode cX8_heir 6 = .ok (.if_icmp .ne 6, 3) := by decide +kernel
theorem dX8_heir_9 : decode cX8_heir 9 = .ok (.bipush (-4), 2) := by decide +kernel
theorem dX8_heir_11 : decode cX8_heir 11 = .ok (.ireturn, 1) := by decide +kernel
theorem dX8_heir_12 : decode cX8_heir 12 = .ok (.aload_n 0, 1) := by decide +kernel
theorem dX8_heir_13 : decode cX8_heir 13 = .ok (.getfield 165, 3) := by decide +kernel
theorem dX8_heir_16 : decode cX8_heir 16 = .ok (.aload_n 0, 1) := by decide +kernel
theorem dX8_heir_17 : decode cX8_heir 17 = .ok (.getfield 7, 3) := by decide +kernel
theorem dX8_heir_20 : decode cX8_heir 20 = .ok (.iconst 1, 1) := by decide +kernel
theorem dX8_heir_21 : decode cX8_heir 21 = .ok (.iaload, 1) := by decide +kernel
theorem dX8_heir_22 : decode cX8_heir 22 = .ok (.irem, 1) := by decide +kernel
theorem dX8_heir_23 : decode cX8_heir 23 = .ok (.istore_n 1, 1) := by decide +kernel
theorem dX8_heir_24 : decode cX8_heir 24 = .ok (.bipush (-4), 2) := by decide +kernel
theorem dX8_heir_26 : decode cX8_heir 26 = .ok (.istore_n 2, 1) := by decide +kernel
theorem dX8_heir_27 : decode cX8_heir 27 = .ok (.iconst 0, 1) := by decide +kernel
theorem dX8_heir_28 : decode cX8_heir 28 = .ok (.istore_n 3, 1) := by decide +kernel
theorem dX8_heir_29 : decode cX8_heir 29 = .ok (.iload_n 3, 1) := by decide +kernel
theorem dX8_heir_30 : decode cX8_heir 30 = .ok (.aload_n 0, 1) := by decide +kernel
theorem dX8_heir_31 : decode cX8_heir 31 = .ok (.getfield 7, 3) := by decide +kernel
theorem dX8_heir_34 : decode cX8_heir 34 = .ok (.bipush 24, 2) := by decide +kernel
theorem dX8_heir_36 : decode cX8_heir 36 = .ok (.iaload, 1) := by decide +kernel
theorem dX8_heir_37 : decode cX8_heir 37 = .ok (.if_icmp .ge 62, 3) := by decide +kernel
theorem dX8_heir_40 : decode cX8_heir 40 = .ok (.iload_n 2, 1) := by decide +kernel
theorem dX8_heir_41 : decode cX8_heir 41 = .ok (.bipush (-4), 2) := by decide +kernel
theorem dX8_heir_43 : decode cX8_heir 43 = .ok (.if_icmp .eq 32, 3) := by decide +kernel
theorem dX8_heir_46 : decode cX8_heir 46 = .ok (.aload_n 0, 1) := by decide +kernel
theorem dX8_heir_47 : decode cX8_heir 47 = .ok (.getfield 7, 3) := by decide +kernel
theorem dX8_heir_50 : decode cX8_heir 50 = .ok (.bipush 25, 2) := by decide +kernel
theorem dX8_heir_52 : decode cX8_heir 52 = .ok (.iload_n 3, 1) := by decide +kernel
theorem dX8_heir_53 : decode cX8_heir 53 = .ok (.iadd, 1) := by decide +kernel
theorem dX8_heir_54 : decode cX8_heir 54 = .ok (.iaload, 1) := by decide +kernel
theorem dX8_heir_55 : decode cX8_heir 55 = .ok (.iload_n 1, 1) := by decide +kernel
theorem dX8_heir_56 : decode cX8_heir 56 = .ok (.invokestatic 180, 3) := by decide +kernel
theorem dX8_heir_59 : decode cX8_heir 59 = .ok (.aload_n 0, 1) := by decide +kernel
theorem dX8_heir_60 : decode cX8_heir 60 = .ok (.getfield 7, 3) := by decide +kernel
theorem dX8_heir_63 : decode cX8_heir 63 = .ok (.bipush 25, 2) := by decide +kernel
theorem dX8_heir_65 : decode cX8_heir 65 = .ok (.iload_n 2, 1) := by decide +kernel
theorem dX8_heir_66 : decode cX8_heir 66 = .ok (.iadd, 1) := by decide +kernel
theorem dX8_heir_67 : decode cX8_heir 67 = .ok (.iaload, 1) := by decide +kernel
theorem dX8_heir_68 : decode cX8_heir 68 = .ok (.iload_n 1, 1) := by decide +kernel
theorem dX8_heir_69 : decode cX8_heir 69 = .ok (.invokestatic 180, 3) := by decide +kernel
theorem dX8_heir_72 : decode cX8_heir 72 = .ok (.if_icmp .ge 7, 3) := by decide +kernel
theorem dX8_heir_75 : decode cX8_heir 75 = .ok (.iconst 1, 1) := by decide +kernel
theorem dX8_heir_76 : decode cX8_heir 76 = .ok (.goto 4, 3) := by decide +kernel
theorem dX8_heir_79 : decode cX8_heir 79 = .ok (.iconst 0, 1) := by decide +kernel
theorem dX8_heir_80 : decode cX8_heir 80 = .ok (.istore 4, 2) := by decide +kernel
theorem dX8_heir_82 : decode cX8_heir 82 = .ok (.iload 4, 2) := by decide +kernel
theorem dX8_heir_84 : decode cX8_heir 84 = .ok (.ifCond .eq 7, 3) := by decide +kernel
theorem dX8_heir_87 : decode cX8_heir 87 = .ok (.iload_n 3, 1) := by decide +kernel
theorem dX8_heir_88 : decode cX8_heir 88 = .ok (.goto 4, 3) := by decide +kernel
theorem dX8_heir_91 : decode cX8_heir 91 = .ok (.iload_n 2, 1) := by decide +kernel
theorem dX8_heir_92 : decode cX8_heir 92 = .ok (.istore_n 2, 1) := by decide +kernel
theorem dX8_heir_93 : decode cX8_heir 93 = .ok (.iinc 3 1, 3) := by decide +kernel
theorem dX8_heir_96 : decode cX8_heir 96 = .ok (.goto (-67), 3) := by decide +kernel
theorem dX8_heir_99 : decode cX8_heir 99 = .ok (.iload_n 2, 1) := by decide +kernel
theorem dX8_heir_100 : decode cX8_heir 100 = .ok (.ireturn, 1) := by decide +kernel
set_option maxRecDepth 20000 in
theorem ggX8_far_X8_isCell : GoodIn wsX8_far wsX8_isCell := goodIn_r _ [6, 7, 8, 9, 5, 10, 11, 12, 13, 14, 32, 33, 34, 35, 36, 37, 38, 39, 40, 41, 42, 43, 44, 45, 46, 47, 48, 49, 50, 51, 52, 53, 54, 55] (by decide +kernel) (by decide +kernel)
set_option maxRecDepth 20000 in
theorem gX8_far_X8_isCell : GoodIn wsX8_far (wsV RX8 146 RX8 yX8_isCell wsX8_isCell) := goodIn_app (goodIn_of _ (by decide +kernel)) ggX8_far_X8_isCell
set_option maxRecDepth 20000 in
theorem ggX8_far_X8_seeks : GoodIn wsX8_far wsX8_seeks := goodIn_r _ [18, 1, 19, 7, 8, 9, 5, 10, 11, 20, 21, 22, 23, 24, 25, 26, 27, 28, 29, 30, 31, 32, 33, 34, 35, 36, 37, 38, 39, 40, 41, 42, 43, 44, 45, 46, 47, 48, 49, 50, 51, 52, 53, 54, 55] (by decide +kernel) (by decide +kernel)
set_option maxRecDepth 20000 in
theorem gX8_far_X8_seeks : GoodIn wsX8_far (wsV RX8 126 RX8 yX8_seeks wsX8_seeks) := goodIn_app (goodIn_of _ (by decide +kernel)) ggX8_far_X8_seeks
theorem dX8_far_0 : decode cX8_far 0 = .ok (.aload_n 0, 1) := by decide +kernel
theorem dX8_far_1 : decode cX8_far 1 = .ok (.iload_n 1, 1) := by decide +kernel
theorem dX8_far_2 : decode cX8_far 2 = .ok (.invokevirtual 146, 3) := by decide +kernel
theorem dX8_far_5 : decode cX8_far 5 = .ok (.ifCond .ne 5, 3) := by decide +kernel
theorem dX8_far_8 : decode cX8_far 8 = .ok (.iconst (-1), 1) := by decide +kernel
theorem dX8_far_9 : decode cX8_far 9 = .ok (.ireturn, 1) := by decide +kernel
theorem dX8_far_10 : decode cX8_far 10 = .ok (.aload_n 0, 1) := by decide +kernel
theorem dX8_far_11 : decode cX8_far 11 = .ok (.invokevirtual 126, 3) := by decide +kernel
theorem dX8_far_14 : decode cX8_far 14 = .ok (.aload_n 0, 1) := by decide +kernel
theorem dX8_far_15 : decode cX8_far 15 = .ok (.getfield 22, 3) := by decide +kernel
theorem dX8_far_18 : decode cX8_far 18 = .ok (.iload_n 1, 1) := by decide +kernel
theorem dX8_far_19 : decode cX8_far 19 = .ok (.iaload, 1) := by decide +kernel
theorem dX8_far_20 : decode cX8_far 20 = .ok (.sipush 9999, 3) := by decide +kernel
theorem dX8_far_23 : decode cX8_far 23 = .ok (.if_icmp .ge 12, 3) := by decide +kernel
theorem dX8_far_26 : decode cX8_far 26 = .ok (.aload_n 0, 1) := by decide +kernel
theorem dX8_far_27 : decode cX8_far 27 = .ok (.getfield 22, 3) := by decide +kernel
theorem dX8_far_30 : decode cX8_far 30 = .ok (.iload_n 1, 1) := by decide +kernel
theorem dX8_far_31 : decode cX8_far 31 = .ok (.iaload, 1) := by decide +kernel
theorem dX8_far_32 : decode cX8_far 32 = .ok (.goto 5, 3) := by decide +kernel
theorem dX8_far_35 : decode cX8_far 35 = .ok (.bipush (-4), 2) := by decide +kernel
theorem dX8_far_37 : decode cX8_far 37 = .ok (.ireturn, 1) := by decide +kernel
set_option maxRecDepth 20000 in
theorem ggX8_mayLay_X8_kind : GoodIn wsX8_mayLay wsX8_kind := goodIn_r _ [6, 1, 7, 8, 9, 10, 11, 12, 13, 14, 15, 16, 17, 18, 19, 20, 21, 22, 23, 24, 25, 26, 27, 28, 29, 30] (by decide +kernel) (by decide +kernel)
set_option maxRecDepth 20000 in
theorem gX8_mayLay_X8_kind : GoodIn wsX8_mayLay (wsV RX8 115 RX8 yX8_kind wsX8_kind) := goodIn_app (goodIn_of _ (by decide +kernel)) ggX8_mayLay_X8_kind
theorem dX8_mayLay_0 : decode cX8_mayLay 0 = .ok (.aload_n 0, 1) := by decide +kernel
theorem dX8_mayLay_1 : decode cX8_mayLay 1 = .ok (.iload_n 1, 1) := by decide +kernel
theorem dX8_mayLay_2 : decode cX8_mayLay 2 = .ok (.invokevirtual 115, 3) := by decide +kernel
theorem dX8_mayLay_5 : decode cX8_mayLay 5 = .ok (.ifCond .ne 17, 3) := by decide +kernel
theorem dX8_mayLay_8 : decode cX8_mayLay 8 = .ok (.aload_n 0, 1) := by decide +kernel
theorem dX8_mayLay_9 : decode cX8_mayLay 9 = .ok (.getfield 13, 3) := by decide +kernel
theorem dX8_mayLay_12 : decode cX8_mayLay 12 = .ok (.iconst 1, 1) := by decide +kernel
theorem dX8_mayLay_13 : decode cX8_mayLay 13 = .ok (.iaload, 1) := by decide +kernel
theorem dX8_mayLay_14 : decode cX8_mayLay 14 = .ok (.iload_n 1, 1) := by decide +kernel
theorem dX8_mayLay_15 : decode cX8_mayLay 15 = .ok (.if_icmp .eq 7, 3) := by decide +kernel
theorem dX8_mayLay_18 : decode cX8_mayLay 18 = .ok (.iconst 1, 1) := by decide +kernel
theorem dX8_mayLay_19 : decode cX8_mayLay 19 = .ok (.goto 4, 3) := by decide +kernel
theorem dX8_mayLay_22 : decode cX8_mayLay 22 = .ok (.iconst 0, 1) := by decide +kernel
theorem dX8_mayLay_23 : decode cX8_mayLay 23 = .ok (.ireturn, 1) := by decide +kernel
set_option maxRecDepth 20000 in
theorem ggX8_isWell_X8_beginsSo : GoodIn wsX8_isWell wsX8_beginsSo := goodIn_r _ [5, 6, 7, 8, 9, 10, 11, 4, 12, 13, 14, 15, 16, 17, 18, 19, 20, 21, 22, 23, 24, 25, 26, 27, 28, 29, 30, 31, 32, 33, 34, 35, 36, 37, 38, 39, 40, 41, 42, 43, 44, 45, 46, 47, 48, 49, 50, 51, 60, 61, 62, 63, 64, 65, 66, 67, 68, 69, 70, 71, 72, 73, 74, 75, 76, 77, 78, 79, 80, 81, 82, 83] (by decide +kernel) (by decide +kernel)
set_option maxRecDepth 20000 in
theorem gX8_isWell_X8_beginsSo : GoodIn wsX8_isWell (wsV RX8 171 RX8 yX8_beginsSo wsX8_beginsSo) := goodIn_app (goodIn_of _ (by decide +kernel)) ggX8_isWell_X8_beginsSo
set_option maxRecDepth 20000 in
theorem ggX8_isWell_X8_backs : GoodIn wsX8_isWell wsX8_backs := goodIn_r _ [55, 6, 56, 60, 61, 62, 63, 64, 65, 66, 67, 68, 69, 70, 71, 72, 73, 74, 75, 76, 77, 78, 79, 80, 81, 82, 83] (by decide +kernel) (by decide +kernel)
set_option maxRecDepth 20000 in
theorem gX8_isWell_X8_backs : GoodIn wsX8_isWell (wsV RX8 174 RX8 yX8_backs wsX8_backs) := goodIn_app (goodIn_of _ (by decide +kernel)) ggX8_isWell_X8_backs
set_option maxRecDepth 20000 in
theorem ggX8_isWell_X8_in : GoodIn wsX8_isWell wsX8_in := goodIn_r _ [59] (by decide +kernel) (by decide +kernel)
set_option maxRecDepth 20000 in
theorem gX8_isWell_X8_in : GoodIn wsX8_isWell (va_wsS RX8 54 yX8_in wsX8_in) := goodIn_app (goodIn_of _ (by decide +kernel)) ggX8_isWell_X8_in
theorem dX8_isWell_0 : decode cX8_isWell 0 = .ok (.aload_n 0, 1) := by decide +kernel
theorem dX8_isWell_1 : decode cX8_isWell 1 = .ok (.invokevirtual 171, 3) := by decide +kernel
theorem dX8_isWell_4 : decode cX8_isWell 4 = .ok (.istore_n 3, 1) := by decide +kernel
theorem dX8_isWell_5 : decode cX8_isWell 5 = .ok (.aload_n 0, 1) := by decide +kernel
theorem dX8_isWell_6 : decode cX8_isWell 6 = .ok (.invokevirtual 174, 3) := by decide +kernel
theorem dX8_isWell_9 : decode cX8_isWell 9 = .ok (.iload_n 3, 1) := by decide +kernel
theorem dX8_isWell_10 : decode cX8_isWell 10 = .ok (.bipush (-4), 2) := by decide +kernel
theorem dX8_isWell_12 : decode cX8_isWell 12 = .ok (.if_icmp .eq 19, 3) := by decide +kernel
theorem dX8_isWell_15 : decode cX8_isWell 15 = .ok (.iload_n 3, 1) := by decide +kernel
theorem dX8_isWell_16 : decode cX8_isWell 16 = .ok (.i2l, 1) := by decide +kernel
theorem dX8_isWell_17 : decode cX8_isWell 17 = .ok (.iload_n 1, 1) := by decide +kernel
theorem dX8_isWell_18 : decode cX8_isWell 18 = .ok (.i2l, 1) := by decide +kernel
theorem dX8_isWell_19 : decode cX8_isWell 19 = .ok (.iload_n 2, 1) := by decide +kernel
theorem dX8_isWell_20 : decode cX8_isWell 20 = .ok (.i2l, 1) := by decide +kernel
theorem dX8_isWell_21 : decode cX8_isWell 21 = .ok (.invokestatic 54, 3) := by decide +kernel
theorem dX8_isWell_24 : decode cX8_isWell 24 = .ok (.ifCond .eq 7, 3) := by decide +kernel
theorem dX8_isWell_27 : decode cX8_isWell 27 = .ok (.iconst 1, 1) := by decide +kernel
theorem dX8_isWell_28 : decode cX8_isWell 28 = .ok (.goto 4, 3) := by decide +kernel
theorem dX8_isWell_31 : decode cX8_isWell 31 = .ok (.iconst 0, 1) := by decide +kernel
theorem dX8_isWell_32 : decode cX8_isWell 32 = .ok (.ireturn, 1) := by decide +kernel
set_option maxRecDepth 20000 in
theorem ggX8_lays_X8_asides : GoodIn wsX8_lays wsX8_asides := goodIn_r _ [8, 9, 3, 74, 75, 76, 77, 78, 79, 80, 81, 82, 83, 84, 85, 86, 87, 88, 89, 90, 91, 92, 93, 94, 95, 96, 97] (by decide +kernel) (by decide +kernel)
set_option maxRecDepth 20000 in
theorem gX8_lays_X8_asides : GoodIn wsX8_lays (wsV RX8 168 RX8 yX8_asides wsX8_asides) := goodIn_app (goodIn_of _ (by decide +kernel)) ggX8_lays_X8_asides
set_option maxRecDepth 20000 in
theorem ggX8_lays_X8_isWell : GoodIn wsX8_lays wsX8_isWell := goodIn_r _ [13, 14, 15, 16, 7, 17, 3, 18, 19, 20, 21, 22, 23, 24, 25, 26, 27, 28, 29, 30, 31, 32, 33, 34, 35, 36, 37, 38, 39, 40, 41, 42, 43, 44, 45, 46, 47, 48, 49, 50, 51, 52, 53, 54, 55, 56, 57, 58, 59, 60, 61, 62, 63, 64, 65, 66, 9, 67, 68, 69, 74, 75, 76, 77, 78, 79, 80, 81, 82, 83, 84, 85, 86, 87, 88, 89, 90, 91, 92, 93, 94, 95, 96, 97] (by decide +kernel) (by decide +kernel)
set_option maxRecDepth 20000 in
theorem gX8_lays_X8_isWell : GoodIn wsX8_lays (wsV RX8 189 RX8 yX8_isWell wsX8_isWell) := goodIn_app (goodIn_of _ (by decide +kernel)) ggX8_lays_X8_isWell
set_option maxRecDepth 20000 in
theorem ggX8_lays_X8_cells : GoodIn wsX8_lays wsX8_cells := goodIn_r _ [46, 24, 74, 75, 76, 77, 78, 79, 80, 81, 82, 83, 84, 85, 86, 87, 88, 89, 90, 91, 92, 93, 94, 95, 96, 97] (by decide +kernel) (by decide +kernel)
set_option maxRecDepth 20000 in
theorem gX8_lays_X8_cells : GoodIn wsX8_lays (wsV RX8 50 RX8 yX8_cells wsX8_cells) := goodIn_app (goodIn_of _ (by decide +kernel)) ggX8_lays_X8_cells
set_option maxRecDepth 20000 in
theorem ggX8_lays_X8_mayLay : GoodIn wsX8_lays wsX8_mayLay := goodIn_r _ [73, 3, 55, 56, 57, 7, 58, 74, 75, 76, 77, 78, 79, 80, 81, 82, 83, 84, 85, 86, 87, 88, 89, 90, 91, 92, 93, 94, 95, 96, 97] (by decide +kernel) (by decide +kernel)
set_option maxRecDepth 20000 in
theorem gX8_lays_X8_mayLay : GoodIn wsX8_lays (wsV RX8 193 RX8 yX8_mayLay wsX8_mayLay) := goodIn_app (goodIn_of _ (by decide +kernel)) ggX8_lays_X8_mayLay
theorem dX8_lays_0 : decode cX8_lays 0 = .ok (.aload_n 0, 1) := by decide +kernel
theorem dX8_lays_1 : decode cX8_lays 1 = .ok (.bipush (-4), 2) := by decide +kernel
theorem dX8_lays_3 : decode cX8_lays 3 = .ok (.putfield 183, 3) := by decide +kernel
theorem dX8_lays_6 : decode cX8_lays 6 = .ok (.aload_n 0, 1) := by decide +kernel
theorem dX8_lays_7 : decode cX8_lays 7 = .ok (.bipush (-4), 2) := by decide +kernel
theorem dX8_lays_9 : decode cX8_lays 9 = .ok (.putfield 186, 3) := by decide +kernel
theorem dX8_lays_12 : decode cX8_lays 12 = .ok (.aload_n 0, 1) := by decide +kernel
theorem dX8_lays_13 : decode cX8_lays 13 = .ok (.invokevirtual 168, 3) := by decide +kernel
theorem dX8_lays_16 : decode cX8_lays 16 = .ok (.aload_n 0, 1) := by decide +kernel
theorem dX8_lays_17 : decode cX8_lays 17 = .ok (.iload_n 1, 1) := by decide +kernel
theorem dX8_lays_18 : decode cX8_lays 18 = .ok (.iload_n 2, 1) := by decide +kernel
theorem dX8_lays_19 : decode cX8_lays 19 = .ok (.invokevirtual 189, 3) := by decide +kernel
theorem dX8_lays_22 : decode cX8_lays 22 = .ok (.ifCond .eq 5, 3) := by decide +kernel
theorem dX8_lays_25 : decode cX8_lays 25 = .ok (.iconst 0, 1) := by decide +kernel
theorem dX8_lays_26 : decode cX8_lays 26 = .ok (.ireturn, 1) := by decide +kernel
theorem dX8_lays_27 : decode cX8_lays 27 = .ok (.iconst 0, 1) := by decide +kernel
theorem dX8_lays_28 : decode cX8_lays 28 = .ok (.istore_n 3, 1) := by decide +kernel
theorem dX8_lays_29 : decode cX8_lays 29 = .ok (.iload_n 3, 1) := by decide +kernel
theorem dX8_lays_30 : decode cX8_lays 30 = .ok (.aload_n 0, 1) := by decide +kernel
theorem dX8_lays_31 : decode cX8_lays 31 = .ok (.invokevirtual 50, 3) := by decide +kernel
theorem dX8_lays_34 : decode cX8_lays 34 = .ok (.if_icmp .ge 42, 3) := by decide +kernel
theorem dX8_lays_37 : decode cX8_lays 37 = .ok (.aload_n 0, 1) := by decide +kernel
theorem dX8_lays_38 : decode cX8_lays 38 = .ok (.iload_n 3, 1) := by decide +kernel
theorem dX8_lays_39 : decode cX8_lays 39 = .ok (.invokevirtual 193, 3) := by decide +kernel
theorem dX8_lays_42 : decode cX8_lays 42 = .ok (.ifCond .eq 28, 3) := by decide +kernel
theorem dX8_lays_45 : decode cX8_lays 45 = .ok (.aload_n 0, 1) := by decide +kernel
theorem dX8_lays_46 : decode cX8_lays 46 = .ok (.getfield 13, 3) := by decide +kernel
theorem dX8_lays_49 : decode cX8_lays 49 = .ok (.iconst 3, 1) := by decide +kernel
theorem dX8_lays_50 : decode cX8_lays 50 = .ok (.iload_n 3, 1) := by decide +kernel
theorem dX8_lays_51 : decode cX8_lays 51 = .ok (.iadd, 1) := by decide +kernel
theorem dX8_lays_52 : decode cX8_lays 52 = .ok (.iconst 3, 1) := by decide +kernel
theorem dX8_lays_53 : decode cX8_lays 53 = .ok (.iastore, 1) := by decide +kernel
theorem dX8_lays_54 : decode cX8_lays 54 = .ok (.aload_n 0, 1) := by decide +kernel
theorem dX8_lays_55 : decode cX8_lays 55 = .ok (.iload_n 1, 1) := by decide +kernel
theorem dX8_lays_56 : decode cX8_lays 56 = .ok (.iload_n 2, 1) := by decide +kernel
theorem dX8_lays_57 : decode cX8_lays 57 = .ok (.invokevirtual 189, 3) := by decide +kernel
theorem dX8_lays_60 : decode cX8_lays 60 = .ok (.ifCond .eq 10, 3) := by decide +kernel
theorem dX8_lays_63 : decode cX8_lays 63 = .ok (.aload_n 0, 1) := by decide +kernel
theorem dX8_lays_64 : decode cX8_lays 64 = .ok (.iload_n 3, 1) := by decide +kernel
theorem dX8_lays_65 : decode cX8_lays 65 = .ok (.putfield 183, 3) := by decide +kernel
theorem dX8_lays_68 : decode cX8_lays 68 = .ok (.iconst 1, 1) := by decide +kernel
theorem dX8_lays_69 : decode cX8_lays 69 = .ok (.ireturn, 1) := by decide +kernel
theorem dX8_lays_70 : decode cX8_lays 70 = .ok (.iinc 3 1, 3) := by decide +kernel
theorem dX8_lays_73 : decode cX8_lays 73 = .ok (.goto (-44), 3) := by decide +kernel
theorem dX8_lays_76 : decode cX8_lays 76 = .ok (.iconst 0, 1) := by decide +kernel
theorem dX8_lays_77 : decode cX8_lays 77 = .ok (.istore_n 3, 1) := by decide +kernel
theorem dX8_lays_78 : decode cX8_lays 78 = .ok (.iload_n 3, 1) := by decide +kernel
theorem dX8_lays_79 : decode cX8_lays 79 = .ok (.aload_n 0, 1) := by decide +kernel
theorem dX8_lays_80 : decode cX8_lays 80 = .ok (.invokevirtual 50, 3) := by decide +kernel
theorem dX8_lays_83 : decode cX8_lays 83 = .ok (.if_icmp .ge 87, 3) := by decide +kernel
theorem dX8_lays_86 : decode cX8_lays 86 = .ok (.iload_n 3, 1) := by decide +kernel
theorem dX8_lays_87 : decode cX8_lays 87 = .ok (.iconst 1, 1) := by decide +kernel
theorem dX8_lays_88 : decode cX8_lays 88 = .ok (.iadd, 1) := by decide +kernel
theorem dX8_lays_89 : decode cX8_lays 89 = .ok (.istore 4, 2) := by decide +kernel
theorem dX8_lays_91 : decode cX8_lays 91 = .ok (.iload 4, 2) := by decide +kernel
theorem dX8_lays_93 : decode cX8_lays 93 = .ok (.aload_n 0, 1) := by decide +kernel
theorem dX8_lays_94 : decode cX8_lays 94 = .ok (.invokevirtual 50, 3) := by decide +kernel
theorem dX8_lays_97 : decode cX8_lays 97 = .ok (.if_icmp .ge 67, 3) := by decide +kernel
theorem dX8_lays_100 : decode cX8_lays 100 = .ok (.aload_n 0, 1) := by decide +kernel
theorem dX8_lays_101 : decode cX8_lays 101 = .ok (.iload_n 3, 1) := by decide +kernel
theorem dX8_lays_102 : decode cX8_lays 102 = .ok (.invokevirtual 193, 3) := by decide +kernel
theorem dX8_lays_105 : decode cX8_lays 105 = .ok (.ifCond .eq 59, 3) := by decide +kernel
theorem dX8_lays_108 : decode cX8_lays 108 = .ok (.aload_n 0, 1) := by decide +kernel
theorem dX8_lays_109 : decode cX8_lays 109 = .ok (.iload 4, 2) := by decide +kernel
theorem dX8_lays_111 : decode cX8_lays 111 = .ok (.invokevirtual 193, 3) := by decide +kernel
theorem dX8_lays_114 : decode cX8_lays 114 = .ok (.ifCond .eq 44, 3) := by decide +kernel
theorem dX8_lays_117 : decode cX8_lays 117 = .ok (.aload_n 0, 1) := by decide +kernel
theorem dX8_lays_118 : decode cX8_lays 118 = .ok (.getfield 13, 3) := by decide +kernel
theorem dX8_lays_121 : decode cX8_lays 121 = .ok (.iconst 3, 1) := by decide +kernel
theorem dX8_lays_122 : decode cX8_lays 122 = .ok (.iload_n 3, 1) := by decide +kernel
theorem dX8_lays_123 : decode cX8_lays 123 = .ok (.iadd, 1) := by decide +kernel
theorem dX8_lays_124 : decode cX8_lays 124 = .ok (.iconst 3, 1) := by decide +kernel
theorem dX8_lays_125 : decode cX8_lays 125 = .ok (.iastore, 1) := by decide +kernel
theorem dX8_lays_126 : decode cX8_lays 126 = .ok (.aload_n 0, 1) := by decide +kernel
theorem dX8_lays_127 : decode cX8_lays 127 = .ok (.getfield 13, 3) := by decide +kernel
theorem dX8_lays_130 : decode cX8_lays 130 = .ok (.iconst 3, 1) := by decide +kernel
theorem dX8_lays_131 : decode cX8_lays 131 = .ok (.iload 4, 2) := by decide +kernel
theorem dX8_lays_133 : decode cX8_lays 133 = .ok (.iadd, 1) := by decide +kernel
theorem dX8_lays_134 : decode cX8_lays 134 = .ok (.iconst 3, 1) := by decide +kernel
theorem dX8_lays_135 : decode cX8_lays 135 = .ok (.iastore, 1) := by decide +kernel
theorem dX8_lays_136 : decode cX8_lays 136 = .ok (.aload_n 0, 1) := by decide +kernel
theorem dX8_lays_137 : decode cX8_lays 137 = .ok (.iload_n 1, 1) := by decide +kernel
theorem dX8_lays_138 : decode cX8_lays 138 = .ok (.iload_n 2, 1) := by decide +kernel
theorem dX8_lays_139 : decode cX8_lays 139 = .ok (.invokevirtual 189, 3) := by decide +kernel
theorem dX8_lays_142 : decode cX8_lays 142 = .ok (.ifCond .eq 16, 3) := by decide +kernel
theorem dX8_lays_145 : decode cX8_lays 145 = .ok (.aload_n 0, 1) := by decide +kernel
theorem dX8_lays_146 : decode cX8_lays 146 = .ok (.iload_n 3, 1) := by decide +kernel
theorem dX8_lays_147 : decode cX8_lays 147 = .ok (.putfield 183, 3) := by decide +kernel
theorem dX8_lays_150 : decode cX8_lays 150 = .ok (.aload_n 0, 1) := by decide +kernel
theorem dX8_lays_151 : decode cX8_lays 151 = .ok (.iload 4, 2) := by decide +kernel
theorem dX8_lays_153 : decode cX8_lays 153 = .ok (.putfield 186, 3) := by decide +kernel
theorem dX8_lays_156 : decode cX8_lays 156 = .ok (.iconst 2, 1) := by decide +kernel
theorem dX8_lays_157 : decode cX8_lays 157 = .ok (.ireturn, 1) := by decide +kernel
theorem dX8_lays_158 : decode cX8_lays 158 = .ok (.iinc 4 1, 3) := by decide +kernel
theorem dX8_lays_161 : decode cX8_lays 161 = .ok (.goto (-70), 3) := by decide +kernel
theorem dX8_lays_164 : decode cX8_lays 164 = .ok (.iinc 3 1, 3) := by decide +kernel
theorem dX8_lays_167 : decode cX8_lays 167 = .ok (.goto (-89), 3) := by decide +kernel
theorem dX8_lays_170 : decode cX8_lays 170 = .ok (.bipush (-4), 2) := by decide +kernel
theorem dX8_lays_172 : decode cX8_lays 172 = .ok (.ireturn, 1) := by decide +kernel
set_option maxRecDepth 20000 in
theorem ggX8_layFor_X8_in : GoodIn wsX8_layFor wsX8_in := goodIn_r _ [8] (by decide +kernel) (by decide +kernel)
set_option maxRecDepth 20000 in
theorem gX8_layFor_X8_in : GoodIn wsX8_layFor (va_wsS RX8 54 yX8_in wsX8_in) := goodIn_app (goodIn_of _ (by decide +kernel)) ggX8_layFor_X8_in
set_option maxRecDepth 20000 in
theorem ggX8_layFor_X8_lays : GoodIn wsX8_layFor wsX8_lays := goodIn_r _ [12, 3, 4, 13, 14, 15, 16, 7, 17, 18, 19, 20, 21, 22, 23, 24, 25, 26, 27, 28, 29, 30, 31, 32, 33, 34, 35, 36, 37, 38, 39, 40, 41, 42, 43, 44, 45, 46, 47, 48, 49, 50, 51, 52, 53, 54, 55, 56, 57, 58, 59, 60, 61, 62, 63, 64, 65, 66, 67, 68, 69, 70, 71, 72, 73, 74, 75, 5, 6, 8, 76, 77, 78, 79, 80, 81, 82, 83, 84, 85, 86, 87, 88, 89, 90, 91, 92, 93, 94, 95, 96, 97, 98, 99, 100, 101, 102, 103] (by decide +kernel) (by decide +kernel)
set_option maxRecDepth 20000 in
theorem gX8_layFor_X8_lays : GoodIn wsX8_layFor (wsV RX8 198 RX8 yX8_lays wsX8_lays) := goodIn_app (goodIn_of _ (by decide +kernel)) ggX8_layFor_X8_lays
theorem dX8_layFor_0 : decode cX8_layFor 0 = .ok (.iload_n 1, 1) := by decide +kernel
theorem dX8_layFor_1 : decode cX8_layFor 1 = .ok (.i2l, 1) := by decide +kernel
theorem dX8_layFor_2 : decode cX8_layFor 2 = .ok (.lconst 0, 1) := by decide +kernel
theorem dX8_layFor_3 : decode cX8_layFor 3 = .ok (.ldc2_w 151, 3) := by decide +kernel
theorem dX8_layFor_6 : decode cX8_layFor 6 = .ok (.invokestatic 54, 3) := by decide +kernel
theorem dX8_layFor_9 : decode cX8_layFor 9 = .ok (.ifCond .eq 27, 3) := by decide +kernel
theorem dX8_layFor_12 : decode cX8_layFor 12 = .ok (.iload_n 2, 1) := by decide +kernel
theorem dX8_layFor_13 : decode cX8_layFor 13 = .ok (.i2l, 1) := by decide +kernel
theorem dX8_layFor_14 : decode cX8_layFor 14 = .ok (.lconst 0, 1) := by decide +kernel
theorem dX8_layFor_15 : decode cX8_layFor 15 = .ok (.ldc2_w 151, 3) := by decide +kernel
theorem dX8_layFor_18 : decode cX8_layFor 18 = .ok (.invokestatic 54, 3) := by decide +kernel
theorem dX8_layFor_21 : decode cX8_layFor 21 = .ok (.ifCond .eq 15, 3) := by decide +kernel
theorem dX8_layFor_24 : decode cX8_layFor 24 = .ok (.iload_n 3, 1) := by decide +kernel
theorem dX8_layFor_25 : decode cX8_layFor 25 = .ok (.i2l, 1) := by decide +kernel
theorem dX8_layFor_26 : decode cX8_layFor 26 = .ok (.lconst 0, 1) := by decide +kernel
theorem dX8_layFor_27 : decode cX8_layFor 27 = .ok (.ldc2_w 196, 3) := by decide +kernel
theorem dX8_layFor_30 : decode cX8_layFor 30 = .ok (.invokestatic 54, 3) := by decide +kernel
theorem dX8_layFor_33 : decode cX8_layFor 33 = .ok (.ifCond .ne 5, 3) := by decide +kernel
theorem dX8_layFor_36 : decode cX8_layFor 36 = .ok (.iconst (-1), 1) := by decide +kernel
theorem dX8_layFor_37 : decode cX8_layFor 37 = .ok (.ireturn, 1) := by decide +kernel
theorem dX8_layFor_38 : decode cX8_layFor 38 = .ok (.aload_n 0, 1) := by decide +kernel
theorem dX8_layFor_39 : decode cX8_layFor 39 = .ok (.iload_n 1, 1) := by decide +kernel
theorem dX8_layFor_40 : decode cX8_layFor 40 = .ok (.iload_n 2, 1) := by decide +kernel
theorem dX8_layFor_41 : decode cX8_layFor 41 = .ok (.invokevirtual 198, 3) := by decide +kernel
theorem dX8_layFor_44 : decode cX8_layFor 44 = .ok (.istore 4, 2) := by decide +kernel
theorem dX8_layFor_46 : decode cX8_layFor 46 = .ok (.iload_n 3, 1) := by decide +kernel
theorem dX8_layFor_47 : decode cX8_layFor 47 = .ok (.ifCond .eq 10, 3) := by decide +kernel
theorem dX8_layFor_50 : decode cX8_layFor 50 = .ok (.iload 4, 2) := by decide +kernel
theorem dX8_layFor_52 : decode cX8_layFor 52 = .ok (.bipush (-4), 2) := by decide +kernel
theorem dX8_layFor_54 : decode cX8_layFor 54 = .ok (.if_icmp .ne 8, 3) := by decide +kernel
theorem dX8_layFor_57 : decode cX8_layFor 57 = .ok (.iload 4, 2) := by decide +kernel
theorem dX8_layFor_59 : decode cX8_layFor 59 = .ok (.goto 19, 3) := by decide +kernel
theorem dX8_layFor_62 : decode cX8_layFor 62 = .ok (.iload_n 3, 1) := by decide +kernel
theorem dX8_layFor_63 : decode cX8_layFor 63 = .ok (.iconst 1, 1) := by decide +kernel
theorem dX8_layFor_64 : decode cX8_layFor 64 = .ok (.if_icmp .ne 10, 3) := by decide +kernel
theorem dX8_layFor_67 : decode cX8_layFor 67 = .ok (.aload_n 0, 1) := by decide +kernel
theorem dX8_layFor_68 : decode cX8_layFor 68 = .ok (.getfield 183, 3) := by decide +kernel
theorem dX8_layFor_71 : decode cX8_layFor 71 = .ok (.goto 7, 3) := by decide +kernel
theorem dX8_layFor_74 : decode cX8_layFor 74 = .ok (.aload_n 0, 1) := by decide +kernel
theorem dX8_layFor_75 : decode cX8_layFor 75 = .ok (.getfield 186, 3) := by decide +kernel
theorem dX8_layFor_78 : decode cX8_layFor 78 = .ok (.ireturn, 1) := by decide +kernel
set_option maxRecDepth 20000 in
theorem ggX8_decides_X8_beginsNow : GoodIn wsX8_decides wsX8_beginsNow := goodIn_r _ [6, 7, 8, 9, 5, 10, 11, 1, 12, 13, 14, 15, 16, 17, 18, 19, 20, 21, 22, 23, 24, 25, 26, 27, 28, 29, 30, 31, 32, 33, 34, 35, 36, 37, 38, 39, 40, 41, 42, 43, 44, 45, 46, 47, 48, 49, 50, 51, 52, 53, 54, 55, 56, 57, 58, 59, 60, 61, 62, 63, 64, 65, 66, 67, 68, 69, 70, 71, 72, 73, 74, 75, 76, 77, 78, 79, 80, 81, 82, 83, 84, 85, 86, 87, 88] (by decide +kernel) (by decide +kernel)
set_option maxRecDepth 20000 in
theorem gX8_decides_X8_beginsNow : GoodIn wsX8_decides (wsV RX8 177 RX8 yX8_beginsNow wsX8_beginsNow) := goodIn_app (goodIn_of _ (by decide +kernel)) ggX8_decides_X8_beginsNow
set_option maxRecDepth 20000 in
theorem ggX8_decides_X8_cells : GoodIn wsX8_decides wsX8_cells := goodIn_r _ [44, 22, 65, 66, 67, 68, 69, 70, 71, 72, 73, 74, 75, 76, 77, 78, 79, 80, 81, 82, 83, 84, 85, 86, 87, 88] (by decide +kernel) (by decide +kernel)
set_option maxRecDepth 20000 in
theorem gX8_decides_X8_cells : GoodIn wsX8_decides (wsV RX8 50 RX8 yX8_cells wsX8_cells) := goodIn_app (goodIn_of _ (by decide +kernel)) ggX8_decides_X8_cells
set_option maxRecDepth 20000 in
theorem ggX8_decides_X8_kind : GoodIn wsX8_decides wsX8_kind := goodIn_r _ [56, 1, 65, 66, 67, 68, 69, 70, 71, 72, 73, 74, 75, 76, 77, 78, 79, 80, 81, 82, 83, 84, 85, 86, 87, 88] (by decide +kernel) (by decide +kernel)
set_option maxRecDepth 20000 in
theorem gX8_decides_X8_kind : GoodIn wsX8_decides (wsV RX8 115 RX8 yX8_kind wsX8_kind) := goodIn_app (goodIn_of _ (by decide +kernel)) ggX8_decides_X8_kind
set_option maxRecDepth 20000 in
theorem ggX8_decides_X8_asides : GoodIn wsX8_decides wsX8_asides := goodIn_r _ [10, 11, 1, 65, 66, 67, 68, 69, 70, 71, 72, 73, 74, 75, 76, 77, 78, 79, 80, 81, 82, 83, 84, 85, 86, 87, 88] (by decide +kernel) (by decide +kernel)
set_option maxRecDepth 20000 in
theorem gX8_decides_X8_asides : GoodIn wsX8_decides (wsV RX8 168 RX8 yX8_asides wsX8_asides) := goodIn_app (goodIn_of _ (by decide +kernel)) ggX8_decides_X8_asides
set_option maxRecDepth 20000 in
theorem ggX8_decides_X8_beginsSo : GoodIn wsX8_decides wsX8_beginsSo := goodIn_r _ [15, 1, 16, 17, 18, 19, 20, 5, 21, 22, 23, 24, 25, 26, 27, 28, 29, 30, 31, 32, 33, 34, 35, 36, 37, 38, 39, 40, 41, 42, 43, 44, 45, 46, 47, 48, 49, 50, 51, 52, 53, 54, 55, 56, 57, 58, 59, 60, 65, 66, 67, 68, 69, 70, 71, 72, 73, 74, 75, 76, 77, 78, 79, 80, 81, 82, 83, 84, 85, 86, 87, 88] (by decide +kernel) (by decide +kernel)
set_option maxRecDepth 20000 in
theorem gX8_decides_X8_beginsSo : GoodIn wsX8_decides (wsV RX8 171 RX8 yX8_beginsSo wsX8_beginsSo) := goodIn_app (goodIn_of _ (by decide +kernel)) ggX8_decides_X8_beginsSo
set_option maxRecDepth 20000 in
theorem ggX8_decides_X8_backs : GoodIn wsX8_decides wsX8_backs := goodIn_r _ [64, 1, 11, 65, 66, 67, 68, 69, 70, 71, 72, 73, 74, 75, 76, 77, 78, 79, 80, 81, 82, 83, 84, 85, 86, 87, 88] (by decide +kernel) (by decide +kernel)
set_option maxRecDepth 20000 in
theorem gX8_decides_X8_backs : GoodIn wsX8_decides (wsV RX8 174 RX8 yX8_backs wsX8_backs) := goodIn_app (goodIn_of _ (by decide +kernel)) ggX8_decides_X8_backs
theorem dX8_decides_0 : decode cX8_decides 0 = .ok (.aload_n 0, 1) := by decide +kernel
theorem dX8_decides_1 : decode cX8_decides 1 = .ok (.invokevirtual 177, 3) := by decide +kernel
theorem dX8_decides_4 : decode cX8_decides 4 = .ok (.istore_n 1, 1) := by decide +kernel
theorem dX8_decides_5 : decode cX8_decides 5 = .ok (.iconst 0, 1) := by decide +kernel
theorem dX8_decides_6 : decode cX8_decides 6 = .ok (.istore_n 2, 1) := by decide +kernel
theorem dX8_decides_7 : decode cX8_decides 7 = .ok (.iconst 0, 1) := by decide +kernel
theorem dX8_decides_8 : decode cX8_decides 8 = .ok (.istore_n 3, 1) := by decide +kernel
theorem dX8_decides_9 : decode cX8_decides 9 = .ok (.iload_n 3, 1) := by decide +kernel
theorem dX8_decides_10 : decode cX8_decides 10 = .ok (.aload_n 0, 1) := by decide +kernel
theorem dX8_decides_11 : decode cX8_decides 11 = .ok (.invokevirtual 50, 3) := by decide +kernel
theorem dX8_decides_14 : decode cX8_decides 14 = .ok (.if_icmp .ge 53, 3) := by decide +kernel
theorem dX8_decides_17 : decode cX8_decides 17 = .ok (.aload_n 0, 1) := by decide +kernel
theorem dX8_decides_18 : decode cX8_decides 18 = .ok (.iload_n 3, 1) := by decide +kernel
theorem dX8_decides_19 : decode cX8_decides 19 = .ok (.invokevirtual 115, 3) := by decide +kernel
theorem dX8_decides_22 : decode cX8_decides 22 = .ok (.iconst 1, 1) := by decide +kernel
theorem dX8_decides_23 : decode cX8_decides 23 = .ok (.if_icmp .ne 38, 3) := by decide +kernel
theorem dX8_decides_26 : decode cX8_decides 26 = .ok (.aload_n 0, 1) := by decide +kernel
theorem dX8_decides_27 : decode cX8_decides 27 = .ok (.invokevirtual 168, 3) := by decide +kernel
theorem dX8_decides_30 : decode cX8_decides 30 = .ok (.aload_n 0, 1) := by decide +kernel
theorem dX8_decides_31 : decode cX8_decides 31 = .ok (.getfield 13, 3) := by decide +kernel
theorem dX8_decides_34 : decode cX8_decides 34 = .ok (.iconst 3, 1) := by decide +kernel
theorem dX8_decides_35 : decode cX8_decides 35 = .ok (.iload_n 3, 1) := by decide +kernel
theorem dX8_decides_36 : decode cX8_decides 36 = .ok (.iadd, 1) := by decide +kernel
theorem dX8_decides_37 : decode cX8_decides 37 = .ok (.iconst 0, 1) := by decide +kernel
theorem dX8_decides_38 : decode cX8_decides 38 = .ok (.iastore, 1) := by decide +kernel
theorem dX8_decides_39 : decode cX8_decides 39 = .ok (.iload_n 2, 1) := by decide +kernel
theorem dX8_decides_40 : decode cX8_decides 40 = .ok (.aload_n 0, 1) := by decide +kernel
theorem dX8_decides_41 : decode cX8_decides 41 = .ok (.invokevirtual 171, 3) := by decide +kernel
theorem dX8_decides_44 : decode cX8_decides 44 = .ok (.iload_n 1, 1) := by decide +kernel
theorem dX8_decides_45 : decode cX8_decides 45 = .ok (.if_icmp .ne 7, 3) := by decide +kernel
theorem dX8_decides_48 : decode cX8_decides 48 = .ok (.iconst 0, 1) := by decide +kernel
theorem dX8_decides_49 : decode cX8_decides 49 = .ok (.goto 6, 3) := by decide +kernel
theorem dX8_decides_52 : decode cX8_decides 52 = .ok (.iconst 1, 1) := by decide +kernel
theorem dX8_decides_53 : decode cX8_decides 53 = .ok (.iload_n 3, 1) := by decide +kernel
theorem dX8_decides_54 : decode cX8_decides 54 = .ok (.ishl, 1) := by decide +kernel
theorem dX8_decides_55 : decode cX8_decides 55 = .ok (.ior, 1) := by decide +kernel
theorem dX8_decides_56 : decode cX8_decides 56 = .ok (.istore_n 2, 1) := by decide +kernel
theorem dX8_decides_57 : decode cX8_decides 57 = .ok (.aload_n 0, 1) := by decide +kernel
theorem dX8_decides_58 : decode cX8_decides 58 = .ok (.invokevirtual 174, 3) := by decide +kernel
theorem dX8_decides_61 : decode cX8_decides 61 = .ok (.iinc 3 1, 3) := by decide +kernel
theorem dX8_decides_64 : decode cX8_decides 64 = .ok (.goto (-55), 3) := by decide +kernel
theorem dX8_decides_67 : decode cX8_decides 67 = .ok (.iload_n 2, 1) := by decide +kernel
theorem dX8_decides_68 : decode cX8_decides 68 = .ok (.ireturn, 1) := by decide +kernel
set_option maxRecDepth 20000 in
theorem ggX8_latest_X8_in : GoodIn wsX8_latest wsX8_in := goodIn_r _ [5] (by decide +kernel) (by decide +kernel)
set_option maxRecDepth 20000 in
theorem gX8_latest_X8_in : GoodIn wsX8_latest (va_wsS RX8 54 yX8_in wsX8_in) := goodIn_app (goodIn_of _ (by decide +kernel)) ggX8_latest_X8_in
set_option maxRecDepth 20000 in
theorem ggX8_latest_X8_asides : GoodIn wsX8_latest wsX8_asides := goodIn_r _ [9, 10, 1, 68, 69, 70, 71, 72, 73, 74, 75, 76, 77, 78, 79, 80, 81, 82, 83, 84, 85, 86, 87, 88, 89, 90, 91] (by decide +kernel) (by decide +kernel)
set_option maxRecDepth 20000 in
theorem gX8_latest_X8_asides : GoodIn wsX8_latest (wsV RX8 168 RX8 yX8_asides wsX8_asides) := goodIn_app (goodIn_of _ (by decide +kernel)) ggX8_latest_X8_asides
set_option maxRecDepth 20000 in
theorem ggX8_latest_X8_cells : GoodIn wsX8_latest wsX8_cells := goodIn_r _ [14, 15, 68, 69, 70, 71, 72, 73, 74, 75, 76, 77, 78, 79, 80, 81, 82, 83, 84, 85, 86, 87, 88, 89, 90, 91] (by decide +kernel) (by decide +kernel)
set_option maxRecDepth 20000 in
theorem gX8_latest_X8_cells : GoodIn wsX8_latest (wsV RX8 50 RX8 yX8_cells wsX8_cells) := goodIn_app (goodIn_of _ (by decide +kernel)) ggX8_latest_X8_cells
set_option maxRecDepth 20000 in
theorem ggX8_latest_X8_mayLay : GoodIn wsX8_latest wsX8_mayLay := goodIn_r _ [19, 1, 20, 21, 22, 4, 23, 68, 69, 70, 71, 72, 73, 74, 75, 76, 77, 78, 79, 80, 81, 82, 83, 84, 85, 86, 87, 88, 89, 90, 91] (by decide +kernel) (by decide +kernel)
set_option maxRecDepth 20000 in
theorem gX8_latest_X8_mayLay : GoodIn wsX8_latest (wsV RX8 193 RX8 yX8_mayLay wsX8_mayLay) := goodIn_app (goodIn_of _ (by decide +kernel)) ggX8_latest_X8_mayLay
set_option maxRecDepth 20000 in
theorem ggX8_latest_X8_beginsSo : GoodIn wsX8_latest wsX8_beginsSo := goodIn_r _ [27, 1, 28, 29, 30, 31, 32, 4, 33, 15, 34, 35, 36, 37, 38, 39, 40, 41, 42, 43, 44, 45, 46, 47, 48, 49, 50, 51, 11, 12, 13, 14, 52, 53, 54, 55, 56, 57, 58, 59, 20, 21, 22, 23, 60, 61, 62, 63, 68, 69, 70, 71, 72, 73, 74, 75, 76, 77, 78, 79, 80, 81, 82, 83, 84, 85, 86, 87, 88, 89, 90, 91] (by decide +kernel) (by decide +kernel)
set_option maxRecDepth 20000 in
theorem gX8_latest_X8_beginsSo : GoodIn wsX8_latest (wsV RX8 171 RX8 yX8_beginsSo wsX8_beginsSo) := goodIn_app (goodIn_of _ (by decide +kernel)) ggX8_latest_X8_beginsSo
set_option maxRecDepth 20000 in
theorem ggX8_latest_X8_backs : GoodIn wsX8_latest wsX8_backs := goodIn_r _ [67, 1, 10, 68, 69, 70, 71, 72, 73, 74, 75, 76, 77, 78, 79, 80, 81, 82, 83, 84, 85, 86, 87, 88, 89, 90, 91] (by decide +kernel) (by decide +kernel)
set_option maxRecDepth 20000 in
theorem gX8_latest_X8_backs : GoodIn wsX8_latest (wsV RX8 174 RX8 yX8_backs wsX8_backs) := goodIn_app (goodIn_of _ (by decide +kernel)) ggX8_latest_X8_backs
theorem dX8_latest_0 : decode cX8_latest 0 = .ok (.iload_n 1, 1) := by decide +kernel
theorem dX8_latest_1 : decode cX8_latest 1 = .ok (.i2l, 1) := by decide +kernel
theorem dX8_latest_2 : decode cX8_latest 2 = .ok (.lconst 0, 1) := by decide +kernel
theorem dX8_latest_3 : decode cX8_latest 3 = .ok (.lconst 1, 1) := by decide +kernel
theorem dX8_latest_4 : decode cX8_latest 4 = .ok (.invokestatic 54, 3) := by decide +kernel
theorem dX8_latest_7 : decode cX8_latest 7 = .ok (.ifCond .ne 5, 3) := by decide +kernel
theorem dX8_latest_10 : decode cX8_latest 10 = .ok (.iconst (-1), 1) := by decide +kernel
theorem dX8_latest_11 : decode cX8_latest 11 = .ok (.ireturn, 1) := by decide +kernel
theorem dX8_latest_12 : decode cX8_latest 12 = .ok (.bipush (-4), 2) := by decide +kernel
theorem dX8_latest_14 : decode cX8_latest 14 = .ok (.istore_n 2, 1) := by decide +kernel
theorem dX8_latest_15 : decode cX8_latest 15 = .ok (.bipush (-4), 2) := by decide +kernel
theorem dX8_latest_17 : decode cX8_latest 17 = .ok (.istore_n 3, 1) := by decide +kernel
theorem dX8_latest_18 : decode cX8_latest 18 = .ok (.aload_n 0, 1) := by decide +kernel
theorem dX8_latest_19 : decode cX8_latest 19 = .ok (.invokevirtual 168, 3) := by decide +kernel
theorem dX8_latest_22 : decode cX8_latest 22 = .ok (.iconst 0, 1) := by decide +kernel
theorem dX8_latest_23 : decode cX8_latest 23 = .ok (.istore 4, 2) := by decide +kernel
theorem dX8_latest_25 : decode cX8_latest 25 = .ok (.iload 4, 2) := by decide +kernel
theorem dX8_latest_27 : decode cX8_latest 27 = .ok (.aload_n 0, 1) := by decide +kernel
theorem dX8_latest_28 : decode cX8_latest 28 = .ok (.invokevirtual 50, 3) := by decide +kernel
theorem dX8_latest_31 : decode cX8_latest 31 = .ok (.if_icmp .ge 88, 3) := by decide +kernel
theorem dX8_latest_34 : decode cX8_latest 34 = .ok (.aload_n 0, 1) := by decide +kernel
theorem dX8_latest_35 : decode cX8_latest 35 = .ok (.iload 4, 2) := by decide +kernel
theorem dX8_latest_37 : decode cX8_latest 37 = .ok (.invokevirtual 193, 3) := by decide +kernel
theorem dX8_latest_40 : decode cX8_latest 40 = .ok (.ifCond .eq 73, 3) := by decide +kernel
theorem dX8_latest_43 : decode cX8_latest 43 = .ok (.aload_n 0, 1) := by decide +kernel
theorem dX8_latest_44 : decode cX8_latest 44 = .ok (.getfield 13, 3) := by decide +kernel
theorem dX8_latest_47 : decode cX8_latest 47 = .ok (.iconst 3, 1) := by decide +kernel
theorem dX8_latest_48 : decode cX8_latest 48 = .ok (.iload 4, 2) := by decide +kernel
theorem dX8_latest_50 : decode cX8_latest 50 = .ok (.iadd, 1) := by decide +kernel
theorem dX8_latest_51 : decode cX8_latest 51 = .ok (.iconst 2, 1) := by decide +kernel
theorem dX8_latest_52 : decode cX8_latest 52 = .ok (.iastore, 1) := by decide +kernel
theorem dX8_latest_53 : decode cX8_latest 53 = .ok (.aload_n 0, 1) := by decide +kernel
theorem dX8_latest_54 : decode cX8_latest 54 = .ok (.invokevirtual 171, 3) := by decide +kernel
theorem dX8_latest_57 : decode cX8_latest 57 = .ok (.istore 5, 2) := by decide +kernel
theorem dX8_latest_59 : decode cX8_latest 59 = .ok (.aload_n 0, 1) := by decide +kernel
theorem dX8_latest_60 : decode cX8_latest 60 = .ok (.invokevirtual 174, 3) := by decide +kernel
theorem dX8_latest_63 : decode cX8_latest 63 = .ok (.iload 5, 2) := by decide +kernel
theorem dX8_latest_65 : decode cX8_latest 65 = .ok (.bipush (-4), 2) := by decide +kernel
theorem dX8_latest_67 : decode cX8_latest 67 = .ok (.if_icmp .eq 19, 3) := by decide +kernel
theorem dX8_latest_70 : decode cX8_latest 70 = .ok (.iload_n 3, 1) := by decide +kernel
theorem dX8_latest_71 : decode cX8_latest 71 = .ok (.bipush (-4), 2) := by decide +kernel
theorem dX8_latest_73 : decode cX8_latest 73 = .ok (.if_icmp .eq 9, 3) := by decide +kernel
theorem dX8_latest_76 : decode cX8_latest 76 = .ok (.iload 5, 2) := by decide +kernel
theorem dX8_latest_78 : decode cX8_latest 78 = .ok (.iload_n 3, 1) := by decide +kernel
theorem dX8_latest_79 : decode cX8_latest 79 = .ok (.if_icmp .le 7, 3) := by decide +kernel
theorem dX8_latest_82 : decode cX8_latest 82 = .ok (.iconst 1, 1) := by decide +kernel
theorem dX8_latest_83 : decode cX8_latest 83 = .ok (.goto 4, 3) := by decide +kernel
theorem dX8_latest_86 : decode cX8_latest 86 = .ok (.iconst 0, 1) := by decide +kernel
theorem dX8_latest_87 : decode cX8_latest 87 = .ok (.istore 6, 2) := by decide +kernel
theorem dX8_latest_89 : decode cX8_latest 89 = .ok (.iload 6, 2) := by decide +kernel
theorem dX8_latest_91 : decode cX8_latest 91 = .ok (.ifCond .eq 8, 3) := by decide +kernel
theorem dX8_latest_94 : decode cX8_latest 94 = .ok (.iload 4, 2) := by decide +kernel
theorem dX8_latest_96 : decode cX8_latest 96 = .ok (.goto 4, 3) := by decide +kernel
theorem dX8_latest_99 : decode cX8_latest 99 = .ok (.iload_n 2, 1) := by decide +kernel
theorem dX8_latest_100 : decode cX8_latest 100 = .ok (.istore_n 2, 1) := by decide +kernel
theorem dX8_latest_101 : decode cX8_latest 101 = .ok (.iload 6, 2) := by decide +kernel
theorem dX8_latest_103 : decode cX8_latest 103 = .ok (.ifCond .eq 8, 3) := by decide +kernel
theorem dX8_latest_106 : decode cX8_latest 106 = .ok (.iload 5, 2) := by decide +kernel
theorem dX8_latest_108 : decode cX8_latest 108 = .ok (.goto 4, 3) := by decide +kernel
theorem dX8_latest_111 : decode cX8_latest 111 = .ok (.iload_n 3, 1) := by decide +kernel
theorem dX8_latest_112 : decode cX8_latest 112 = .ok (.istore_n 3, 1) := by decide +kernel
theorem dX8_latest_113 : decode cX8_latest 113 = .ok (.iinc 4 1, 3) := by decide +kernel
theorem dX8_latest_116 : decode cX8_latest 116 = .ok (.goto (-91), 3) := by decide +kernel
theorem dX8_latest_119 : decode cX8_latest 119 = .ok (.iload_n 1, 1) := by decide +kernel
theorem dX8_latest_120 : decode cX8_latest 120 = .ok (.ifCond .ne 7, 3) := by decide +kernel
theorem dX8_latest_123 : decode cX8_latest 123 = .ok (.iload_n 2, 1) := by decide +kernel
theorem dX8_latest_124 : decode cX8_latest 124 = .ok (.goto 4, 3) := by decide +kernel
theorem dX8_latest_127 : decode cX8_latest 127 = .ok (.iload_n 3, 1) := by decide +kernel
theorem dX8_latest_128 : decode cX8_latest 128 = .ok (.ireturn, 1) := by decide +kernel
set_option maxRecDepth 20000 in
theorem ggX8_seen_X8_isCell : GoodIn wsX8_seen wsX8_isCell := goodIn_r _ [9, 10, 11, 12, 8, 13, 14, 15, 16, 17, 18, 19, 20, 21, 22, 23, 24, 25, 26, 27, 28, 29, 30, 31, 32, 33, 34, 35, 36, 37, 38, 39, 40, 41] (by decide +kernel) (by decide +kernel)
set_option maxRecDepth 20000 in
theorem gX8_seen_X8_isCell : GoodIn wsX8_seen (wsV RX8 146 RX8 yX8_isCell wsX8_isCell) := goodIn_app (goodIn_of _ (by decide +kernel)) ggX8_seen_X8_isCell
set_option maxRecDepth 20000 in
theorem ggX8_seen_X8_in : GoodIn wsX8_seen wsX8_in := goodIn_r _ [17] (by decide +kernel) (by decide +kernel)
set_option maxRecDepth 20000 in
theorem gX8_seen_X8_in : GoodIn wsX8_seen (va_wsS RX8 54 yX8_in wsX8_in) := goodIn_app (goodIn_of _ (by decide +kernel)) ggX8_seen_X8_in
theorem dX8_seen_0 : decode cX8_seen 0 = .ok (.aload_n 0, 1) := by decide +kernel
theorem dX8_seen_1 : decode cX8_seen 1 = .ok (.iload_n 1, 1) := by decide +kernel
theorem dX8_seen_2 : decode cX8_seen 2 = .ok (.invokevirtual 146, 3) := by decide +kernel
theorem dX8_seen_5 : decode cX8_seen 5 = .ok (.ifCond .eq 15, 3) := by decide +kernel
theorem dX8_seen_8 : decode cX8_seen 8 = .ok (.iload_n 2, 1) := by decide +kernel
theorem dX8_seen_9 : decode cX8_seen 9 = .ok (.i2l, 1) := by decide +kernel
theorem dX8_seen_10 : decode cX8_seen 10 = .ok (.lconst 0, 1) := by decide +kernel
theorem dX8_seen_11 : decode cX8_seen 11 = .ok (.ldc2_w 151, 3) := by decide +kernel
theorem dX8_seen_14 : decode cX8_seen 14 = .ok (.invokestatic 54, 3) := by decide +kernel
theorem dX8_seen_17 : decode cX8_seen 17 = .ok (.ifCond .ne 5, 3) := by decide +kernel
theorem dX8_seen_20 : decode cX8_seen 20 = .ok (.iconst (-1), 1) := by decide +kernel
theorem dX8_seen_21 : decode cX8_seen 21 = .ok (.ireturn, 1) := by decide +kernel
theorem dX8_seen_22 : decode cX8_seen 22 = .ok (.aload_n 0, 1) := by decide +kernel
theorem dX8_seen_23 : decode cX8_seen 23 = .ok (.getfield 106, 3) := by decide +kernel
theorem dX8_seen_26 : decode cX8_seen 26 = .ok (.bipush 8, 2) := by decide +kernel
theorem dX8_seen_28 : decode cX8_seen 28 = .ok (.if_icmp .ne 6, 3) := by decide +kernel
theorem dX8_seen_31 : decode cX8_seen 31 = .ok (.bipush (-3), 2) := by decide +kernel
theorem dX8_seen_33 : decode cX8_seen 33 = .ok (.ireturn, 1) := by decide +kernel
theorem dX8_seen_34 : decode cX8_seen 34 = .ok (.aload_n 0, 1) := by decide +kernel
theorem dX8_seen_35 : decode cX8_seen 35 = .ok (.getfield 34, 3) := by decide +kernel
theorem dX8_seen_38 : decode cX8_seen 38 = .ok (.aload_n 0, 1) := by decide +kernel
theorem dX8_seen_39 : decode cX8_seen 39 = .ok (.getfield 106, 3) := by decide +kernel
theorem dX8_seen_42 : decode cX8_seen 42 = .ok (.iload_n 1, 1) := by decide +kernel
theorem dX8_seen_43 : decode cX8_seen 43 = .ok (.iastore, 1) := by decide +kernel
theorem dX8_seen_44 : decode cX8_seen 44 = .ok (.aload_n 0, 1) := by decide +kernel
theorem dX8_seen_45 : decode cX8_seen 45 = .ok (.getfield 37, 3) := by decide +kernel
theorem dX8_seen_48 : decode cX8_seen 48 = .ok (.aload_n 0, 1) := by decide +kernel
theorem dX8_seen_49 : decode cX8_seen 49 = .ok (.getfield 106, 3) := by decide +kernel
theorem dX8_seen_52 : decode cX8_seen 52 = .ok (.iload_n 2, 1) := by decide +kernel
theorem dX8_seen_53 : decode cX8_seen 53 = .ok (.iastore, 1) := by decide +kernel
theorem dX8_seen_54 : decode cX8_seen 54 = .ok (.aload_n 0, 1) := by decide +kernel
theorem dX8_seen_55 : decode cX8_seen 55 = .ok (.dup, 1) := by decide +kernel
theorem dX8_seen_56 : decode cX8_seen 56 = .ok (.getfield 106, 3) := by decide +kernel
theorem dX8_seen_59 : decode cX8_seen 59 = .ok (.iconst 1, 1) := by decide +kernel
theorem dX8_seen_60 : decode cX8_seen 60 = .ok (.iadd, 1) := by decide +kernel
theorem dX8_seen_61 : decode cX8_seen 61 = .ok (.putfield 106, 3) := by decide +kernel
theorem dX8_seen_64 : decode cX8_seen 64 = .ok (.aload_n 0, 1) := by decide +kernel
theorem dX8_seen_65 : decode cX8_seen 65 = .ok (.getfield 106, 3) := by decide +kernel
theorem dX8_seen_68 : decode cX8_seen 68 = .ok (.ireturn, 1) := by decide +kernel
theorem dX8_forget_0 : decode cX8_forget 0 = .ok (.aload_n 0, 1) := by decide +kernel
theorem dX8_forget_1 : decode cX8_forget 1 = .ok (.getfield 106, 3) := by decide +kernel
theorem dX8_forget_4 : decode cX8_forget 4 = .ok (.istore_n 1, 1) := by decide +kernel
theorem dX8_forget_5 : decode cX8_forget 5 = .ok (.aload_n 0, 1) := by decide +kernel
theorem dX8_forget_6 : decode cX8_forget 6 = .ok (.iconst 0, 1) := by decide +kernel
theorem dX8_forget_7 : decode cX8_forget 7 = .ok (.putfield 106, 3) := by decide +kernel
theorem dX8_forget_10 : decode cX8_forget 10 = .ok (.iload_n 1, 1) := by decide +kernel
theorem dX8_forget_11 : decode cX8_forget 11 = .ok (.ireturn, 1) := by decide +kernel
set_option maxRecDepth 20000 in
theorem ggX8_isSo_X8_dampOf : GoodIn wsX8_isSo wsX8_dampOf := goodIn_r _ [9, 10, 54, 55, 56, 57, 58, 59, 60, 61, 62, 63, 64, 65, 66, 67, 68, 69, 70, 71, 72, 73, 74, 75, 76, 77] (by decide +kernel) (by decide +kernel)
set_option maxRecDepth 20000 in
theorem gX8_isSo_X8_dampOf : GoodIn wsX8_isSo (wsV RX8 139 RX8 yX8_dampOf wsX8_dampOf) := goodIn_app (goodIn_of _ (by decide +kernel)) ggX8_isSo_X8_dampOf
set_option maxRecDepth 20000 in
theorem ggX8_isSo_X8_goesBy : GoodIn wsX8_isSo wsX8_goesBy := goodIn_r _ [14, 4, 10, 15, 16, 17, 8, 18, 19, 20, 21, 22, 23, 24, 25, 26, 27, 28, 29, 30, 31, 32, 33, 34, 35, 36, 37, 38, 39, 40, 41, 42, 43, 44, 45, 46, 47, 48, 54, 55, 56, 57, 58, 59, 60, 61, 62, 63, 64, 65, 66, 67, 68, 69, 70, 71, 72, 73, 74, 75, 76, 77] (by decide +kernel) (by decide +kernel)
set_option maxRecDepth 20000 in
theorem gX8_isSo_X8_goesBy : GoodIn wsX8_isSo (wsV RX8 142 RX8 yX8_goesBy wsX8_goesBy) := goodIn_app (goodIn_of _ (by decide +kernel)) ggX8_isSo_X8_goesBy
set_option maxRecDepth 20000 in
theorem ggX8_isSo_X8_backs : GoodIn wsX8_isSo wsX8_backs := goodIn_r _ [52, 4, 53, 54, 55, 56, 57, 58, 59, 60, 61, 62, 63, 64, 65, 66, 67, 68, 69, 70, 71, 72, 73, 74, 75, 76, 77] (by decide +kernel) (by decide +kernel)
set_option maxRecDepth 20000 in
theorem gX8_isSo_X8_backs : GoodIn wsX8_isSo (wsV RX8 174 RX8 yX8_backs wsX8_backs) := goodIn_app (goodIn_of _ (by decide +kernel)) ggX8_isSo_X8_backs
theorem dX8_isSo_0 : decode cX8_isSo 0 = .ok (.iconst 1, 1) := by decide +kernel
theorem dX8_isSo_1 : decode cX8_isSo 1 = .ok (.istore_n 1, 1) := by decide +kernel
theorem dX8_isSo_2 : decode cX8_isSo 2 = .ok (.iconst 0, 1) := by decide +kernel
theorem dX8_isSo_3 : decode cX8_isSo 3 = .ok (.istore_n 2, 1) := by decide +kernel
theorem dX8_isSo_4 : decode cX8_isSo 4 = .ok (.iload_n 2, 1) := by decide +kernel
theorem dX8_isSo_5 : decode cX8_isSo 5 = .ok (.bipush 31, 2) := by decide +kernel
theorem dX8_isSo_7 : decode cX8_isSo 7 = .ok (.if_icmp .ge 75, 3) := by decide +kernel
theorem dX8_isSo_10 : decode cX8_isSo 10 = .ok (.iconst 0, 1) := by decide +kernel
theorem dX8_isSo_11 : decode cX8_isSo 11 = .ok (.istore_n 3, 1) := by decide +kernel
theorem dX8_isSo_12 : decode cX8_isSo 12 = .ok (.iload_n 3, 1) := by decide +kernel
theorem dX8_isSo_13 : decode cX8_isSo 13 = .ok (.aload_n 0, 1) := by decide +kernel
theorem dX8_isSo_14 : decode cX8_isSo 14 = .ok (.getfield 106, 3) := by decide +kernel
theorem dX8_isSo_17 : decode cX8_isSo 17 = .ok (.if_icmp .ge 44, 3) := by decide +kernel
theorem dX8_isSo_20 : decode cX8_isSo 20 = .ok (.iload_n 1, 1) := by decide +kernel
theorem dX8_isSo_21 : decode cX8_isSo 21 = .ok (.ifCond .eq 32, 3) := by decide +kernel
theorem dX8_isSo_24 : decode cX8_isSo 24 = .ok (.aload_n 0, 1) := by decide +kernel
theorem dX8_isSo_25 : decode cX8_isSo 25 = .ok (.getfield 37, 3) := by decide +kernel
theorem dX8_isSo_28 : decode cX8_isSo 28 = .ok (.iload_n 3, 1) := by decide +kernel
theorem dX8_isSo_29 : decode cX8_isSo 29 = .ok (.iaload, 1) := by decide +kernel
theorem dX8_isSo_30 : decode cX8_isSo 30 = .ok (.iload_n 2, 1) := by decide +kernel
theorem dX8_isSo_31 : decode cX8_isSo 31 = .ok (.if_icmp .ne 18, 3) := by decide +kernel
theorem dX8_isSo_34 : decode cX8_isSo 34 = .ok (.aload_n 0, 1) := by decide +kernel
theorem dX8_isSo_35 : decode cX8_isSo 35 = .ok (.getfield 34, 3) := by decide +kernel
theorem dX8_isSo_38 : decode cX8_isSo 38 = .ok (.iload_n 3, 1) := by decide +kernel
theorem dX8_isSo_39 : decode cX8_isSo 39 = .ok (.iaload, 1) := by decide +kernel
theorem dX8_isSo_40 : decode cX8_isSo 40 = .ok (.aload_n 0, 1) := by decide +kernel
theorem dX8_isSo_41 : decode cX8_isSo 41 = .ok (.getfield 13, 3) := by decide +kernel
theorem dX8_isSo_44 : decode cX8_isSo 44 = .ok (.iconst 1, 1) := by decide +kernel
theorem dX8_isSo_45 : decode cX8_isSo 45 = .ok (.iaload, 1) := by decide +kernel
theorem dX8_isSo_46 : decode cX8_isSo 46 = .ok (.if_icmp .ne 7, 3) := by decide +kernel
theorem dX8_isSo_49 : decode cX8_isSo 49 = .ok (.iconst 1, 1) := by decide +kernel
theorem dX8_isSo_50 : decode cX8_isSo 50 = .ok (.goto 4, 3) := by decide +kernel
theorem dX8_isSo_53 : decode cX8_isSo 53 = .ok (.iconst 0, 1) := by decide +kernel
theorem dX8_isSo_54 : decode cX8_isSo 54 = .ok (.istore_n 1, 1) := by decide +kernel
theorem dX8_isSo_55 : decode cX8_isSo 55 = .ok (.iinc 3 1, 3) := by decide +kernel
theorem dX8_isSo_58 : decode cX8_isSo 58 = .ok (.goto (-46), 3) := by decide +kernel
theorem dX8_isSo_61 : decode cX8_isSo 61 = .ok (.aload_n 0, 1) := by decide +kernel
theorem dX8_isSo_62 : decode cX8_isSo 62 = .ok (.aload_n 0, 1) := by decide +kernel
theorem dX8_isSo_63 : decode cX8_isSo 63 = .ok (.aload_n 0, 1) := by decide +kernel
theorem dX8_isSo_64 : decode cX8_isSo 64 = .ok (.getfield 13, 3) := by decide +kernel
theorem dX8_isSo_67 : decode cX8_isSo 67 = .ok (.iconst 0, 1) := by decide +kernel
theorem dX8_isSo_68 : decode cX8_isSo 68 = .ok (.iaload, 1) := by decide +kernel
theorem dX8_isSo_69 : decode cX8_isSo 69 = .ok (.invokevirtual 139, 3) := by decide +kernel
theorem dX8_isSo_72 : decode cX8_isSo 72 = .ok (.invokevirtual 142, 3) := by decide +kernel
theorem dX8_isSo_75 : decode cX8_isSo 75 = .ok (.pop, 1) := by decide +kernel
theorem dX8_isSo_76 : decode cX8_isSo 76 = .ok (.iinc 2 1, 3) := by decide +kernel
theorem dX8_isSo_79 : decode cX8_isSo 79 = .ok (.goto (-75), 3) := by decide +kernel
theorem dX8_isSo_82 : decode cX8_isSo 82 = .ok (.aload_n 0, 1) := by decide +kernel
theorem dX8_isSo_83 : decode cX8_isSo 83 = .ok (.invokevirtual 174, 3) := by decide +kernel
theorem dX8_isSo_86 : decode cX8_isSo 86 = .ok (.iload_n 1, 1) := by decide +kernel
theorem dX8_isSo_87 : decode cX8_isSo 87 = .ok (.ireturn, 1) := by decide +kernel
set_option maxRecDepth 20000 in
theorem ggX8_salter_X8_in : GoodIn wsX8_salter wsX8_in := goodIn_r _ [6] (by decide +kernel) (by decide +kernel)
set_option maxRecDepth 20000 in
theorem gX8_salter_X8_in : GoodIn wsX8_salter (va_wsS RX8 54 yX8_in wsX8_in) := goodIn_app (goodIn_of _ (by decide +kernel)) ggX8_salter_X8_in
set_option maxRecDepth 20000 in
theorem ggX8_salter_X8_asides : GoodIn wsX8_salter wsX8_asides := goodIn_r _ [10, 11, 2, 69, 70, 71, 72, 73, 74, 75, 76, 77, 78, 79, 80, 81, 82, 83, 84, 85, 86, 87, 88, 89, 90, 91, 92] (by decide +kernel) (by decide +kernel)
set_option maxRecDepth 20000 in
theorem gX8_salter_X8_asides : GoodIn wsX8_salter (wsV RX8 168 RX8 yX8_asides wsX8_asides) := goodIn_app (goodIn_of _ (by decide +kernel)) ggX8_salter_X8_asides
set_option maxRecDepth 20000 in
theorem ggX8_salter_X8_begins0 : GoodIn wsX8_salter wsX8_begins0 := goodIn_r _ [15, 2, 1, 69, 70, 71, 72, 73, 74, 75, 76, 77, 78, 79, 80, 81, 82, 83, 84, 85, 86, 87, 88, 89, 90, 91, 92] (by decide +kernel) (by decide +kernel)
set_option maxRecDepth 20000 in
theorem gX8_salter_X8_begins0 : GoodIn wsX8_salter (wsV RX8 47 RX8 yX8_begins0 wsX8_begins0) := goodIn_app (goodIn_of _ (by decide +kernel)) ggX8_salter_X8_begins0
set_option maxRecDepth 20000 in
theorem ggX8_salter_X8_isSo : GoodIn wsX8_salter wsX8_isSo := goodIn_r _ [19, 20, 21, 22, 2, 23, 24, 25, 5, 26, 1, 27, 28, 29, 30, 31, 32, 33, 34, 35, 36, 37, 38, 39, 40, 41, 42, 43, 44, 45, 46, 47, 48, 49, 50, 51, 52, 53, 54, 55, 56, 57, 58, 59, 60, 61, 62, 63, 64, 65, 66, 67, 68, 11, 69, 70, 71, 72, 73, 74, 75, 76, 77, 78, 79, 80, 81, 82, 83, 84, 85, 86, 87, 88, 89, 90, 91, 92] (by decide +kernel) (by decide +kernel)
set_option maxRecDepth 20000 in
theorem gX8_salter_X8_isSo : GoodIn wsX8_salter (wsV RX8 201 RX8 yX8_isSo wsX8_isSo) := goodIn_app (goodIn_of _ (by decide +kernel)) ggX8_salter_X8_isSo
set_option maxRecDepth 20000 in
theorem ggX8_salter_X8_cells : GoodIn wsX8_salter wsX8_cells := goodIn_r _ [48, 1, 69, 70, 71, 72, 73, 74, 75, 76, 77, 78, 79, 80, 81, 82, 83, 84, 85, 86, 87, 88, 89, 90, 91, 92] (by decide +kernel) (by decide +kernel)
set_option maxRecDepth 20000 in
theorem gX8_salter_X8_cells : GoodIn wsX8_salter (wsV RX8 50 RX8 yX8_cells wsX8_cells) := goodIn_app (goodIn_of _ (by decide +kernel)) ggX8_salter_X8_cells
set_option maxRecDepth 20000 in
theorem ggX8_salter_X8_backs : GoodIn wsX8_salter wsX8_backs := goodIn_r _ [68, 2, 11, 69, 70, 71, 72, 73, 74, 75, 76, 77, 78, 79, 80, 81, 82, 83, 84, 85, 86, 87, 88, 89, 90, 91, 92] (by decide +kernel) (by decide +kernel)
set_option maxRecDepth 20000 in
theorem gX8_salter_X8_backs : GoodIn wsX8_salter (wsV RX8 174 RX8 yX8_backs wsX8_backs) := goodIn_app (goodIn_of _ (by decide +kernel)) ggX8_salter_X8_backs
theorem dX8_salter_0 : decode cX8_salter 0 = .ok (.iload_n 1, 1) := by decide +kernel
theorem dX8_salter_1 : decode cX8_salter 1 = .ok (.i2l, 1) := by decide +kernel
theorem dX8_salter_2 : decode cX8_salter 2 = .ok (.lconst 0, 1) := by decide +kernel
theorem dX8_salter_3 : decode cX8_salter 3 = .ok (.lconst 1, 1) := by decide +kernel
theorem dX8_salter_4 : decode cX8_salter 4 = .ok (.invokestatic 54, 3) := by decide +kernel
theorem dX8_salter_7 : decode cX8_salter 7 = .ok (.ifCond .ne 5, 3) := by decide +kernel
theorem dX8_salter_10 : decode cX8_salter 10 = .ok (.iconst (-1), 1) := by decide +kernel
theorem dX8_salter_11 : decode cX8_salter 11 = .ok (.ireturn, 1) := by decide +kernel
theorem dX8_salter_12 : decode cX8_salter 12 = .ok (.aload_n 0, 1) := by decide +kernel
theorem dX8_salter_13 : decode cX8_salter 13 = .ok (.invokevirtual 168, 3) := by decide +kernel
theorem dX8_salter_16 : decode cX8_salter 16 = .ok (.aload_n 0, 1) := by decide +kernel
theorem dX8_salter_17 : decode cX8_salter 17 = .ok (.invokevirtual 47, 3) := by decide +kernel
theorem dX8_salter_20 : decode cX8_salter 20 = .ok (.iload_n 1, 1) := by decide +kernel
theorem dX8_salter_21 : decode cX8_salter 21 = .ok (.iconst 1, 1) := by decide +kernel
theorem dX8_salter_22 : decode cX8_salter 22 = .ok (.if_icmp .ne 16, 3) := by decide +kernel
theorem dX8_salter_25 : decode cX8_salter 25 = .ok (.aload_n 0, 1) := by decide +kernel
theorem dX8_salter_26 : decode cX8_salter 26 = .ok (.invokevirtual 201, 3) := by decide +kernel
theorem dX8_salter_29 : decode cX8_salter 29 = .ok (.ifCond .eq 7, 3) := by decide +kernel
theorem dX8_salter_32 : decode cX8_salter 32 = .ok (.iconst 1, 1) := by decide +kernel
theorem dX8_salter_33 : decode cX8_salter 33 = .ok (.goto 4, 3) := by decide +kernel
theorem dX8_salter_36 : decode cX8_salter 36 = .ok (.iconst 0, 1) := by decide +kernel
theorem dX8_salter_37 : decode cX8_salter 37 = .ok (.ireturn, 1) := by decide +kernel
theorem dX8_salter_38 : decode cX8_salter 38 = .ok (.iconst 0, 1) := by decide +kernel
theorem dX8_salter_39 : decode cX8_salter 39 = .ok (.istore_n 2, 1) := by decide +kernel
theorem dX8_salter_40 : decode cX8_salter 40 = .ok (.iconst 0, 1) := by decide +kernel
theorem dX8_salter_41 : decode cX8_salter 41 = .ok (.istore_n 3, 1) := by decide +kernel
theorem dX8_salter_42 : decode cX8_salter 42 = .ok (.iload_n 3, 1) := by decide +kernel
theorem dX8_salter_43 : decode cX8_salter 43 = .ok (.aload_n 0, 1) := by decide +kernel
theorem dX8_salter_44 : decode cX8_salter 44 = .ok (.invokevirtual 50, 3) := by decide +kernel
theorem dX8_salter_47 : decode cX8_salter 47 = .ok (.if_icmp .ge 61, 3) := by decide +kernel
theorem dX8_salter_50 : decode cX8_salter 50 = .ok (.aload_n 0, 1) := by decide +kernel
theorem dX8_salter_51 : decode cX8_salter 51 = .ok (.getfield 7, 3) := by decide +kernel
theorem dX8_salter_54 : decode cX8_salter 54 = .ok (.bipush 29, 2) := by decide +kernel
theorem dX8_salter_56 : decode cX8_salter 56 = .ok (.iload_n 3, 1) := by decide +kernel
theorem dX8_salter_57 : decode cX8_salter 57 = .ok (.iadd, 1) := by decide +kernel
theorem dX8_salter_58 : decode cX8_salter 58 = .ok (.iaload, 1) := by decide +kernel
theorem dX8_salter_59 : decode cX8_salter 59 = .ok (.ifCond .ne 43, 3) := by decide +kernel
theorem dX8_salter_62 : decode cX8_salter 62 = .ok (.iload_n 3, 1) := by decide +kernel
theorem dX8_salter_63 : decode cX8_salter 63 = .ok (.aload_n 0, 1) := by decide +kernel
theorem dX8_salter_64 : decode cX8_salter 64 = .ok (.getfield 7, 3) := by decide +kernel
theorem dX8_salter_67 : decode cX8_salter 67 = .ok (.iconst 2, 1) := by decide +kernel
theorem dX8_salter_68 : decode cX8_salter 68 = .ok (.iaload, 1) := by decide +kernel
theorem dX8_salter_69 : decode cX8_salter 69 = .ok (.if_icmp .eq 33, 3) := by decide +kernel
theorem dX8_salter_72 : decode cX8_salter 72 = .ok (.aload_n 0, 1) := by decide +kernel
theorem dX8_salter_73 : decode cX8_salter 73 = .ok (.invokevirtual 47, 3) := by decide +kernel
theorem dX8_salter_76 : decode cX8_salter 76 = .ok (.aload_n 0, 1) := by decide +kernel
theorem dX8_salter_77 : decode cX8_salter 77 = .ok (.getfield 13, 3) := by decide +kernel
theorem dX8_salter_80 : decode cX8_salter 80 = .ok (.iconst 3, 1) := by decide +kernel
theorem dX8_salter_81 : decode cX8_salter 81 = .ok (.iload_n 3, 1) := by decide +kernel
theorem dX8_salter_82 : decode cX8_salter 82 = .ok (.iadd, 1) := by decide +kernel
theorem dX8_salter_83 : decode cX8_salter 83 = .ok (.iconst 2, 1) := by decide +kernel
theorem dX8_salter_84 : decode cX8_salter 84 = .ok (.iastore, 1) := by decide +kernel
theorem dX8_salter_85 : decode cX8_salter 85 = .ok (.iload_n 2, 1) := by decide +kernel
theorem dX8_salter_86 : decode cX8_salter 86 = .ok (.aload_n 0, 1) := by decide +kernel
theorem dX8_salter_87 : decode cX8_salter 87 = .ok (.invokevirtual 201, 3) := by decide +kernel
theorem dX8_salter_90 : decode cX8_salter 90 = .ok (.ifCond .eq 9, 3) := by decide +kernel
theorem dX8_salter_93 : decode cX8_salter 93 = .ok (.iconst 1, 1) := by decide +kernel
theorem dX8_salter_94 : decode cX8_salter 94 = .ok (.iload_n 3, 1) := by decide +kernel
theorem dX8_salter_95 : decode cX8_salter 95 = .ok (.ishl, 1) := by decide +kernel
theorem dX8_salter_96 : decode cX8_salter 96 = .ok (.goto 4, 3) := by decide +kernel
theorem dX8_salter_99 : decode cX8_salter 99 = .ok (.iconst 0, 1) := by decide +kernel
theorem dX8_salter_100 : decode cX8_salter 100 = .ok (.ior, 1) := by decide +kernel
theorem dX8_salter_101 : decode cX8_salter 101 = .ok (.istore_n 2, 1) := by decide +kernel
theorem dX8_salter_102 : decode cX8_salter 102 = .ok (.iinc 3 1, 3) := by decide +kernel
theorem dX8_salter_105 : decode cX8_salter 105 = .ok (.goto (-63), 3) := by decide +kernel
theorem dX8_salter_108 : decode cX8_salter 108 = .ok (.aload_n 0, 1) := by decide +kernel
theorem dX8_salter_109 : decode cX8_salter 109 = .ok (.invokevirtual 174, 3) := by decide +kernel
theorem dX8_salter_112 : decode cX8_salter 112 = .ok (.iload_n 2, 1) := by decide +kernel
theorem dX8_salter_113 : decode cX8_salter 113 = .ok (.ireturn, 1) := by decide +kernel
set_option maxRecDepth 20000 in
theorem ggX8_slept_X8_asides : GoodIn wsX8_slept wsX8_asides := goodIn_r _ [5, 6, 7, 59, 60, 61, 62, 63, 64, 65, 66, 67, 68, 69, 70, 71, 72, 73, 74, 75, 76, 77, 78, 79, 80, 81, 82] (by decide +kernel) (by decide +kernel)
set_option maxRecDepth 20000 in
theorem gX8_slept_X8_asides : GoodIn wsX8_slept (wsV RX8 168 RX8 yX8_asides wsX8_asides) := goodIn_app (goodIn_of _ (by decide +kernel)) ggX8_slept_X8_asides
set_option maxRecDepth 20000 in
theorem ggX8_slept_X8_begins0 : GoodIn wsX8_slept wsX8_begins0 := goodIn_r _ [11, 7, 12, 59, 60, 61, 62, 63, 64, 65, 66, 67, 68, 69, 70, 71, 72, 73, 74, 75, 76, 77, 78, 79, 80, 81, 82] (by decide +kernel) (by decide +kernel)
set_option maxRecDepth 20000 in
theorem gX8_slept_X8_begins0 : GoodIn wsX8_slept (wsV RX8 47 RX8 yX8_begins0 wsX8_begins0) := goodIn_app (goodIn_of _ (by decide +kernel)) ggX8_slept_X8_begins0
set_option maxRecDepth 20000 in
theorem ggX8_slept_X8_dampOf : GoodIn wsX8_slept wsX8_dampOf := goodIn_r _ [16, 12, 59, 60, 61, 62, 63, 64, 65, 66, 67, 68, 69, 70, 71, 72, 73, 74, 75, 76, 77, 78, 79, 80, 81, 82] (by decide +kernel) (by decide +kernel)
set_option maxRecDepth 20000 in
theorem gX8_slept_X8_dampOf : GoodIn wsX8_slept (wsV RX8 139 RX8 yX8_dampOf wsX8_dampOf) := goodIn_app (goodIn_of _ (by decide +kernel)) ggX8_slept_X8_dampOf
set_option maxRecDepth 20000 in
theorem ggX8_slept_X8_goesBy : GoodIn wsX8_slept wsX8_goesBy := goodIn_r _ [20, 7, 12, 21, 22, 23, 4, 24, 25, 26, 27, 28, 29, 30, 31, 32, 33, 34, 35, 36, 37, 38, 39, 40, 41, 42, 43, 44, 45, 46, 47, 48, 49, 50, 51, 52, 53, 54, 59, 60, 61, 62, 63, 64, 65, 66, 67, 68, 69, 70, 71, 72, 73, 74, 75, 76, 77, 78, 79, 80, 81, 82] (by decide +kernel) (by decide +kernel)
set_option maxRecDepth 20000 in
theorem gX8_slept_X8_goesBy : GoodIn wsX8_slept (wsV RX8 142 RX8 yX8_goesBy wsX8_goesBy) := goodIn_app (goodIn_of _ (by decide +kernel)) ggX8_slept_X8_goesBy
set_option maxRecDepth 20000 in
theorem ggX8_slept_X8_backs : GoodIn wsX8_slept wsX8_backs := goodIn_r _ [58, 7, 6, 59, 60, 61, 62, 63, 64, 65, 66, 67, 68, 69, 70, 71, 72, 73, 74, 75, 76, 77, 78, 79, 80, 81, 82] (by decide +kernel) (by decide +kernel)
set_option maxRecDepth 20000 in
theorem gX8_slept_X8_backs : GoodIn wsX8_slept (wsV RX8 174 RX8 yX8_backs wsX8_backs) := goodIn_app (goodIn_of _ (by decide +kernel)) ggX8_slept_X8_backs
theorem dX8_slept_0 : decode cX8_slept 0 = .ok (.aload_n 0, 1) := by decide +kernel
theorem dX8_slept_1 : decode cX8_slept 1 = .ok (.invokevirtual 168, 3) := by decide +kernel
theorem dX8_slept_4 : decode cX8_slept 4 = .ok (.aload_n 0, 1) := by decide +kernel
theorem dX8_slept_5 : decode cX8_slept 5 = .ok (.invokevirtual 47, 3) := by decide +kernel
theorem dX8_slept_8 : decode cX8_slept 8 = .ok (.iconst 0, 1) := by decide +kernel
theorem dX8_slept_9 : decode cX8_slept 9 = .ok (.istore_n 1, 1) := by decide +kernel
theorem dX8_slept_10 : decode cX8_slept 10 = .ok (.iconst 0, 1) := by decide +kernel
theorem dX8_slept_11 : decode cX8_slept 11 = .ok (.istore_n 2, 1) := by decide +kernel
theorem dX8_slept_12 : decode cX8_slept 12 = .ok (.iload_n 2, 1) := by decide +kernel
theorem dX8_slept_13 : decode cX8_slept 13 = .ok (.bipush 30, 2) := by decide +kernel
theorem dX8_slept_15 : decode cX8_slept 15 = .ok (.if_icmp .ge 31, 3) := by decide +kernel
theorem dX8_slept_18 : decode cX8_slept 18 = .ok (.iload_n 1, 1) := by decide +kernel
theorem dX8_slept_19 : decode cX8_slept 19 = .ok (.aload_n 0, 1) := by decide +kernel
theorem dX8_slept_20 : decode cX8_slept 20 = .ok (.aload_n 0, 1) := by decide +kernel
theorem dX8_slept_21 : decode cX8_slept 21 = .ok (.iload_n 2, 1) := by decide +kernel
theorem dX8_slept_22 : decode cX8_slept 22 = .ok (.invokevirtual 139, 3) := by decide +kernel
theorem dX8_slept_25 : decode cX8_slept 25 = .ok (.invokevirtual 142, 3) := by decide +kernel
theorem dX8_slept_28 : decode cX8_slept 28 = .ok (.ifCond .eq 9, 3) := by decide +kernel
theorem dX8_slept_31 : decode cX8_slept 31 = .ok (.iconst 1, 1) := by decide +kernel
theorem dX8_slept_32 : decode cX8_slept 32 = .ok (.iload_n 2, 1) := by decide +kernel
theorem dX8_slept_33 : decode cX8_slept 33 = .ok (.ishl, 1) := by decide +kernel
theorem dX8_slept_34 : decode cX8_slept 34 = .ok (.goto 4, 3) := by decide +kernel
theorem dX8_slept_37 : decode cX8_slept 37 = .ok (.iconst 0, 1) := by decide +kernel
theorem dX8_slept_38 : decode cX8_slept 38 = .ok (.ior, 1) := by decide +kernel
theorem dX8_slept_39 : decode cX8_slept 39 = .ok (.istore_n 1, 1) := by decide +kernel
theorem dX8_slept_40 : decode cX8_slept 40 = .ok (.iinc 2 1, 3) := by decide +kernel
theorem dX8_slept_43 : decode cX8_slept 43 = .ok (.goto (-31), 3) := by decide +kernel
theorem dX8_slept_46 : decode cX8_slept 46 = .ok (.aload_n 0, 1) := by decide +kernel
theorem dX8_slept_47 : decode cX8_slept 47 = .ok (.invokevirtual 174, 3) := by decide +kernel
theorem dX8_slept_50 : decode cX8_slept 50 = .ok (.iload_n 1, 1) := by decide +kernel
theorem dX8_slept_51 : decode cX8_slept 51 = .ok (.ireturn, 1) := by decide +kernel
set_option maxRecDepth 20000 in
theorem ggX8_chances_X8_asides : GoodIn wsX8_chances wsX8_asides := goodIn_r _ [8, 9, 3, 53, 54, 55, 56, 57, 58, 59, 60, 61, 62, 63, 64, 65, 66, 67, 68, 69, 70, 71, 72, 73, 74, 75, 76] (by decide +kernel) (by decide +kernel)
set_option maxRecDepth 20000 in
theorem gX8_chances_X8_asides : GoodIn wsX8_chances (wsV RX8 168 RX8 yX8_asides wsX8_asides) := goodIn_app (goodIn_of _ (by decide +kernel)) ggX8_chances_X8_asides
set_option maxRecDepth 20000 in
theorem ggX8_chances_X8_goesBy : GoodIn wsX8_chances wsX8_goesBy := goodIn_r _ [13, 3, 14, 15, 16, 17, 7, 18, 19, 20, 21, 22, 23, 24, 25, 26, 27, 28, 29, 30, 31, 32, 33, 34, 35, 36, 37, 38, 39, 40, 41, 42, 43, 44, 45, 46, 47, 48, 53, 54, 55, 56, 57, 58, 59, 60, 61, 62, 63, 64, 65, 66, 67, 68, 69, 70, 71, 72, 73, 74, 75, 76] (by decide +kernel) (by decide +kernel)
set_option maxRecDepth 20000 in
theorem gX8_chances_X8_goesBy : GoodIn wsX8_chances (wsV RX8 142 RX8 yX8_goesBy wsX8_goesBy) := goodIn_app (goodIn_of _ (by decide +kernel)) ggX8_chances_X8_goesBy
set_option maxRecDepth 20000 in
theorem ggX8_chances_X8_backs : GoodIn wsX8_chances wsX8_backs := goodIn_r _ [52, 3, 9, 53, 54, 55, 56, 57, 58, 59, 60, 61, 62, 63, 64, 65, 66, 67, 68, 69, 70, 71, 72, 73, 74, 75, 76] (by decide +kernel) (by decide +kernel)
set_option maxRecDepth 20000 in
theorem gX8_chances_X8_backs : GoodIn wsX8_chances (wsV RX8 174 RX8 yX8_backs wsX8_backs) := goodIn_app (goodIn_of _ (by decide +kernel)) ggX8_chances_X8_backs
theorem dX8_chances_0 : decode cX8_chances 0 = .ok (.aload_n 0, 1) := by decide +kernel
theorem dX8_chances_1 : decode cX8_chances 1 = .ok (.invokevirtual 168, 3) := by decide +kernel
theorem dX8_chances_4 : decode cX8_chances 4 = .ok (.aload_n 0, 1) := by decide +kernel
theorem dX8_chances_5 : decode cX8_chances 5 = .ok (.iconst 0, 1) := by decide +kernel
theorem dX8_chances_6 : decode cX8_chances 6 = .ok (.putfield 204, 3) := by decide +kernel
theorem dX8_chances_9 : decode cX8_chances 9 = .ok (.aload_n 0, 1) := by decide +kernel
theorem dX8_chances_10 : decode cX8_chances 10 = .ok (.iconst 0, 1) := by decide +kernel
theorem dX8_chances_11 : decode cX8_chances 11 = .ok (.putfield 207, 3) := by decide +kernel
theorem dX8_chances_14 : decode cX8_chances 14 = .ok (.iconst 0, 1) := by decide +kernel
theorem dX8_chances_15 : decode cX8_chances 15 = .ok (.istore_n 3, 1) := by decide +kernel
theorem dX8_chances_16 : decode cX8_chances 16 = .ok (.iload_n 3, 1) := by decide +kernel
theorem dX8_chances_17 : decode cX8_chances 17 = .ok (.iconst 1, 1) := by decide +kernel
theorem dX8_chances_18 : decode cX8_chances 18 = .ok (.iload_n 1, 1) := by decide +kernel
theorem dX8_chances_19 : decode cX8_chances 19 = .ok (.ishl, 1) := by decide +kernel
theorem dX8_chances_20 : decode cX8_chances 20 = .ok (.if_icmp .ge 117, 3) := by decide +kernel
theorem dX8_chances_23 : decode cX8_chances 23 = .ok (.iconst 1, 1) := by decide +kernel
theorem dX8_chances_24 : decode cX8_chances 24 = .ok (.istore 4, 2) := by decide +kernel
theorem dX8_chances_26 : decode cX8_chances 26 = .ok (.iconst 0, 1) := by decide +kernel
theorem dX8_chances_27 : decode cX8_chances 27 = .ok (.istore 5, 2) := by decide +kernel
theorem dX8_chances_29 : decode cX8_chances 29 = .ok (.iload 5, 2) := by decide +kernel
theorem dX8_chances_31 : decode cX8_chances 31 = .ok (.iload_n 1, 1) := by decide +kernel
theorem dX8_chances_32 : decode cX8_chances 32 = .ok (.if_icmp .ge 60, 3) := by decide +kernel
theorem dX8_chances_35 : decode cX8_chances 35 = .ok (.iload_n 3, 1) := by decide +kernel
theorem dX8_chances_36 : decode cX8_chances 36 = .ok (.iload 5, 2) := by decide +kernel
theorem dX8_chances_38 : decode cX8_chances 38 = .ok (.ishr, 1) := by decide +kernel
theorem dX8_chances_39 : decode cX8_chances 39 = .ok (.iconst 1, 1) := by decide +kernel
theorem dX8_chances_40 : decode cX8_chances 40 = .ok (.iand, 1) := by decide +kernel
theorem dX8_chances_41 : decode cX8_chances 41 = .ok (.iconst 1, 1) := by decide +kernel
theorem dX8_chances_42 : decode cX8_chances 42 = .ok (.if_icmp .ne 7, 3) := by decide +kernel
theorem dX8_chances_45 : decode cX8_chances 45 = .ok (.iconst 1, 1) := by decide +kernel
theorem dX8_chances_46 : decode cX8_chances 46 = .ok (.goto 4, 3) := by decide +kernel
theorem dX8_chances_49 : decode cX8_chances 49 = .ok (.iconst 0, 1) := by decide +kernel
theorem dX8_chances_50 : decode cX8_chances 50 = .ok (.istore 6, 2) := by decide +kernel
theorem dX8_chances_52 : decode cX8_chances 52 = .ok (.iload 4, 2) := by decide +kernel
theorem dX8_chances_54 : decode cX8_chances 54 = .ok (.iload 6, 2) := by decide +kernel
theorem dX8_chances_56 : decode cX8_chances 56 = .ok (.ifCond .eq 7, 3) := by decide +kernel
theorem dX8_chances_59 : decode cX8_chances 59 = .ok (.iload_n 2, 1) := by decide +kernel
theorem dX8_chances_60 : decode cX8_chances 60 = .ok (.goto 7, 3) := by decide +kernel
theorem dX8_chances_63 : decode cX8_chances 63 = .ok (.bipush 10, 2) := by decide +kernel
theorem dX8_chances_65 : decode cX8_chances 65 = .ok (.iload_n 2, 1) := by decide +kernel
theorem dX8_chances_66 : decode cX8_chances 66 = .ok (.isub, 1) := by decide +kernel
theorem dX8_chances_67 : decode cX8_chances 67 = .ok (.imul, 1) := by decide +kernel
theorem dX8_chances_68 : decode cX8_chances 68 = .ok (.istore 4, 2) := by decide +kernel
theorem dX8_chances_70 : decode cX8_chances 70 = .ok (.aload_n 0, 1) := by decide +kernel
theorem dX8_chances_71 : decode cX8_chances 71 = .ok (.iload 6, 2) := by decide +kernel
theorem dX8_chances_73 : decode cX8_chances 73 = .ok (.ifCond .eq 8, 3) := by decide +kernel
theorem dX8_chances_76 : decode cX8_chances 76 = .ok (.bipush 6, 2) := by decide +kernel
theorem dX8_chances_78 : decode cX8_chances 78 = .ok (.goto 4, 3) := by decide +kernel
theorem dX8_chances_81 : decode cX8_chances 81 = .ok (.iconst 0, 1) := by decide +kernel
theorem dX8_chances_82 : decode cX8_chances 82 = .ok (.invokevirtual 142, 3) := by decide +kernel
theorem dX8_chances_85 : decode cX8_chances 85 = .ok (.pop, 1) := by decide +kernel
theorem dX8_chances_86 : decode cX8_chances 86 = .ok (.iinc 5 1, 3) := by decide +kernel
theorem dX8_chances_89 : decode cX8_chances 89 = .ok (.goto (-60), 3) := by decide +kernel
theorem dX8_chances_92 : decode cX8_chances 92 = .ok (.aload_n 0, 1) := by decide +kernel
theorem dX8_chances_93 : decode cX8_chances 93 = .ok (.dup, 1) := by decide +kernel
theorem dX8_chances_94 : decode cX8_chances 94 = .ok (.getfield 207, 3) := by decide +kernel
theorem dX8_chances_97 : decode cX8_chances 97 = .ok (.iload 4, 2) := by decide +kernel
theorem dX8_chances_99 : decode cX8_chances 99 = .ok (.iadd, 1) := by decide +kernel
theorem dX8_chances_100 : decode cX8_chances 100 = .ok (.putfield 207, 3) := by decide +kernel
theorem dX8_chances_103 : decode cX8_chances 103 = .ok (.aload_n 0, 1) := by decide +kernel
theorem dX8_chances_104 : decode cX8_chances 104 = .ok (.dup, 1) := by decide +kernel
theorem dX8_chances_105 : decode cX8_chances 105 = .ok (.getfield 204, 3) := by decide +kernel
theorem dX8_chances_108 : decode cX8_chances 108 = .ok (.aload_n 0, 1) := by decide +kernel
theorem dX8_chances_109 : decode cX8_chances 109 = .ok (.getfield 13, 3) := by decide +kernel
theorem dX8_chances_112 : decode cX8_chances 112 = .ok (.iconst 2, 1) := by decide +kernel
theorem dX8_chances_113 : decode cX8_chances 113 = .ok (.iaload, 1) := by decide +kernel
theorem dX8_chances_114 : decode cX8_chances 114 = .ok (.ifCond .ge 7, 3) := by decide +kernel
theorem dX8_chances_117 : decode cX8_chances 117 = .ok (.iconst 0, 1) := by decide +kernel
theorem dX8_chances_118 : decode cX8_chances 118 = .ok (.goto 5, 3) := by decide +kernel
theorem dX8_chances_121 : decode cX8_chances 121 = .ok (.iload 4, 2) := by decide +kernel
theorem dX8_chances_123 : decode cX8_chances 123 = .ok (.iadd, 1) := by decide +kernel
theorem dX8_chances_124 : decode cX8_chances 124 = .ok (.putfield 204, 3) := by decide +kernel
theorem dX8_chances_127 : decode cX8_chances 127 = .ok (.aload_n 0, 1) := by decide +kernel
theorem dX8_chances_128 : decode cX8_chances 128 = .ok (.invokevirtual 174, 3) := by decide +kernel
theorem dX8_chances_131 : decode cX8_chances 131 = .ok (.iinc 3 1, 3) := by decide +kernel
theorem dX8_chances_134 : decode cX8_chances 134 = .ok (.goto (-118), 3) := by decide +kernel
theorem dX8_chances_137 : decode cX8_chances 137 = .ok (.return_, 1) := by decide +kernel
set_option maxRecDepth 20000 in
theorem ggX8_likely_X8_in : GoodIn wsX8_likely wsX8_in := goodIn_r _ [8] (by decide +kernel) (by decide +kernel)
set_option maxRecDepth 20000 in
theorem gX8_likely_X8_in : GoodIn wsX8_likely (va_wsS RX8 54 yX8_in wsX8_in) := goodIn_app (goodIn_of _ (by decide +kernel)) ggX8_likely_X8_in
set_option maxRecDepth 20000 in
theorem ggX8_likely_X8_chances : GoodIn wsX8_likely wsX8_chances := goodIn_r _ [12, 3, 4, 13, 14, 15, 16, 7, 17, 18, 19, 20, 21, 22, 23, 24, 25, 26, 27, 28, 29, 30, 31, 32, 33, 34, 35, 36, 37, 38, 39, 40, 41, 42, 43, 44, 45, 46, 47, 48, 49, 50, 51, 52, 53, 54, 55, 56, 57, 58, 59, 60, 61, 62, 63, 64, 65, 66, 67, 68, 69, 70, 71, 72, 73, 74, 75, 76, 77, 78, 79, 80, 81, 82, 83, 84, 85] (by decide +kernel) (by decide +kernel)
set_option maxRecDepth 20000 in
theorem gX8_likely_X8_chances : GoodIn wsX8_likely (wsV RX8 214 RX8 yX8_chances wsX8_chances) := goodIn_app (goodIn_of _ (by decide +kernel)) ggX8_likely_X8_chances
theorem dX8_likely_0 : decode cX8_likely 0 = .ok (.iload_n 1, 1) := by decide +kernel
theorem dX8_likely_1 : decode cX8_likely 1 = .ok (.i2l, 1) := by decide +kernel
theorem dX8_likely_2 : decode cX8_likely 2 = .ok (.lconst 0, 1) := by decide +kernel
theorem dX8_likely_3 : decode cX8_likely 3 = .ok (.ldc2_w 210, 3) := by decide +kernel
theorem dX8_likely_6 : decode cX8_likely 6 = .ok (.invokestatic 54, 3) := by decide +kernel
theorem dX8_likely_9 : decode cX8_likely 9 = .ok (.ifCond .eq 25, 3) := by decide +kernel
theorem dX8_likely_12 : decode cX8_likely 12 = .ok (.iload_n 2, 1) := by decide +kernel
theorem dX8_likely_13 : decode cX8_likely 13 = .ok (.i2l, 1) := by decide +kernel
theorem dX8_likely_14 : decode cX8_likely 14 = .ok (.lconst 0, 1) := by decide +kernel
theorem dX8_likely_15 : decode cX8_likely 15 = .ok (.ldc2_w 212, 3) := by decide +kernel
theorem dX8_likely_18 : decode cX8_likely 18 = .ok (.invokestatic 54, 3) := by decide +kernel
theorem dX8_likely_21 : decode cX8_likely 21 = .ok (.ifCond .eq 13, 3) := by decide +kernel
theorem dX8_likely_24 : decode cX8_likely 24 = .ok (.iload_n 3, 1) := by decide +kernel
theorem dX8_likely_25 : decode cX8_likely 25 = .ok (.i2l, 1) := by decide +kernel
theorem dX8_likely_26 : decode cX8_likely 26 = .ok (.lconst 0, 1) := by decide +kernel
theorem dX8_likely_27 : decode cX8_likely 27 = .ok (.lconst 1, 1) := by decide +kernel
theorem dX8_likely_28 : decode cX8_likely 28 = .ok (.invokestatic 54, 3) := by decide +kernel
theorem dX8_likely_31 : decode cX8_likely 31 = .ok (.ifCond .ne 5, 3) := by decide +kernel
theorem dX8_likely_34 : decode cX8_likely 34 = .ok (.iconst (-1), 1) := by decide +kernel
theorem dX8_likely_35 : decode cX8_likely 35 = .ok (.ireturn, 1) := by decide +kernel
theorem dX8_likely_36 : decode cX8_likely 36 = .ok (.aload_n 0, 1) := by decide +kernel
theorem dX8_likely_37 : decode cX8_likely 37 = .ok (.iload_n 1, 1) := by decide +kernel
theorem dX8_likely_38 : decode cX8_likely 38 = .ok (.iload_n 2, 1) := by decide +kernel
theorem dX8_likely_39 : decode cX8_likely 39 = .ok (.invokevirtual 214, 3) := by decide +kernel
theorem dX8_likely_42 : decode cX8_likely 42 = .ok (.aload_n 0, 1) := by decide +kernel
theorem dX8_likely_43 : decode cX8_likely 43 = .ok (.getfield 204, 3) := by decide +kernel
theorem dX8_likely_46 : decode cX8_likely 46 = .ok (.istore 4, 2) := by decide +kernel
theorem dX8_likely_48 : decode cX8_likely 48 = .ok (.aload_n 0, 1) := by decide +kernel
theorem dX8_likely_49 : decode cX8_likely 49 = .ok (.getfield 207, 3) := by decide +kernel
theorem dX8_likely_52 : decode cX8_likely 52 = .ok (.istore 5, 2) := by decide +kernel
theorem dX8_likely_54 : decode cX8_likely 54 = .ok (.iload 5, 2) := by decide +kernel
theorem dX8_likely_56 : decode cX8_likely 56 = .ok (.ifCond .eq 21, 3) := by decide +kernel
theorem dX8_likely_59 : decode cX8_likely 59 = .ok (.iload 4, 2) := by decide +kernel
theorem dX8_likely_61 : decode cX8_likely 61 = .ok (.iload 5, 2) := by decide +kernel
theorem dX8_likely_63 : decode cX8_likely 63 = .ok (.irem, 1) := by decide +kernel
theorem dX8_likely_64 : decode cX8_likely 64 = .ok (.istore 6, 2) := by decide +kernel
theorem dX8_likely_66 : decode cX8_likely 66 = .ok (.iload 5, 2) := by decide +kernel
theorem dX8_likely_68 : decode cX8_likely 68 = .ok (.istore 4, 2) := by decide +kernel
theorem dX8_likely_70 : decode cX8_likely 70 = .ok (.iload 6, 2) := by decide +kernel
theorem dX8_likely_72 : decode cX8_likely 72 = .ok (.istore 5, 2) := by decide +kernel
theorem dX8_likely_74 : decode cX8_likely 74 = .ok (.goto (-20), 3) := by decide +kernel
theorem dX8_likely_77 : decode cX8_likely 77 = .ok (.iload_n 3, 1) := by decide +kernel
theorem dX8_likely_78 : decode cX8_likely 78 = .ok (.ifCond .ne 13, 3) := by decide +kernel
theorem dX8_likely_81 : decode cX8_likely 81 = .ok (.aload_n 0, 1) := by decide +kernel
theorem dX8_likely_82 : decode cX8_likely 82 = .ok (.getfield 204, 3) := by decide +kernel
theorem dX8_likely_85 : decode cX8_likely 85 = .ok (.iload 4, 2) := by decide +kernel
theorem dX8_likely_87 : decode cX8_likely 87 = .ok (.idiv, 1) := by decide +kernel
theorem dX8_likely_88 : decode cX8_likely 88 = .ok (.goto 10, 3) := by decide +kernel
theorem dX8_likely_91 : decode cX8_likely 91 = .ok (.aload_n 0, 1) := by decide +kernel
theorem dX8_likely_92 : decode cX8_likely 92 = .ok (.getfield 207, 3) := by decide +kernel
theorem dX8_likely_95 : decode cX8_likely 95 = .ok (.iload 4, 2) := by decide +kernel
theorem dX8_likely_97 : decode cX8_likely 97 = .ok (.idiv, 1) := by decide +kernel
theorem dX8_likely_98 : decode cX8_likely 98 = .ok (.ireturn, 1) := by decide +kernel
set_option maxRecDepth 20000 in
theorem ggX8_bet_X8_in : GoodIn wsX8_bet wsX8_in := goodIn_r _ [8] (by decide +kernel) (by decide +kernel)
set_option maxRecDepth 20000 in
theorem gX8_bet_X8_in : GoodIn wsX8_bet (va_wsS RX8 54 yX8_in wsX8_in) := goodIn_app (goodIn_of _ (by decide +kernel)) ggX8_bet_X8_in
set_option maxRecDepth 20000 in
theorem ggX8_bet_X8_chances : GoodIn wsX8_bet wsX8_chances := goodIn_r _ [12, 3, 4, 13, 14, 15, 16, 7, 17, 18, 19, 20, 21, 22, 23, 24, 25, 26, 27, 28, 29, 30, 31, 32, 33, 34, 35, 36, 37, 38, 39, 40, 41, 42, 43, 44, 45, 46, 47, 48, 49, 50, 51, 52, 53, 54, 55, 56, 57, 58, 59, 60, 61, 62, 63, 64, 65, 66, 67, 68, 69, 70, 71, 72, 73, 74, 75, 76, 77, 78, 79, 80, 81, 82, 83, 84, 85] (by decide +kernel) (by decide +kernel)
set_option maxRecDepth 20000 in
theorem gX8_bet_X8_chances : GoodIn wsX8_bet (wsV RX8 214 RX8 yX8_chances wsX8_chances) := goodIn_app (goodIn_of _ (by decide +kernel)) ggX8_bet_X8_chances
theorem dX8_bet_0 : decode cX8_bet 0 = .ok (.iload_n 1, 1) := by decide +kernel
theorem dX8_bet_1 : decode cX8_bet 1 = .ok (.i2l, 1) := by decide +kernel
theorem dX8_bet_2 : decode cX8_bet 2 = .ok (.lconst 0, 1) := by decide +kernel
theorem dX8_bet_3 : decode cX8_bet 3 = .ok (.ldc2_w 210, 3) := by decide +kernel
theorem dX8_bet_6 : decode cX8_bet 6 = .ok (.invokestatic 54, 3) := by decide +kernel
theorem dX8_bet_9 : decode cX8_bet 9 = .ok (.ifCond .eq 15, 3) := by decide +kernel
theorem dX8_bet_12 : decode cX8_bet 12 = .ok (.iload_n 2, 1) := by decide +kernel
theorem dX8_bet_13 : decode cX8_bet 13 = .ok (.i2l, 1) := by decide +kernel
theorem dX8_bet_14 : decode cX8_bet 14 = .ok (.lconst 0, 1) := by decide +kernel
theorem dX8_bet_15 : decode cX8_bet 15 = .ok (.ldc2_w 212, 3) := by decide +kernel
theorem dX8_bet_18 : decode cX8_bet 18 = .ok (.invokestatic 54, 3) := by decide +kernel
theorem dX8_bet_21 : decode cX8_bet 21 = .ok (.ifCond .ne 5, 3) := by decide +kernel
theorem dX8_bet_24 : decode cX8_bet 24 = .ok (.iconst (-1), 1) := by decide +kernel
theorem dX8_bet_25 : decode cX8_bet 25 = .ok (.ireturn, 1) := by decide +kernel
theorem dX8_bet_26 : decode cX8_bet 26 = .ok (.aload_n 0, 1) := by decide +kernel
theorem dX8_bet_27 : decode cX8_bet 27 = .ok (.iload_n 1, 1) := by decide +kernel
theorem dX8_bet_28 : decode cX8_bet 28 = .ok (.iload_n 2, 1) := by decide +kernel
theorem dX8_bet_29 : decode cX8_bet 29 = .ok (.invokevirtual 214, 3) := by decide +kernel
theorem dX8_bet_32 : decode cX8_bet 32 = .ok (.iconst 2, 1) := by decide +kernel
theorem dX8_bet_33 : decode cX8_bet 33 = .ok (.aload_n 0, 1) := by decide +kernel
theorem dX8_bet_34 : decode cX8_bet 34 = .ok (.getfield 204, 3) := by decide +kernel
theorem dX8_bet_37 : decode cX8_bet 37 = .ok (.imul, 1) := by decide +kernel
theorem dX8_bet_38 : decode cX8_bet 38 = .ok (.aload_n 0, 1) := by decide +kernel
theorem dX8_bet_39 : decode cX8_bet 39 = .ok (.getfield 207, 3) := by decide +kernel
theorem dX8_bet_42 : decode cX8_bet 42 = .ok (.if_icmp .le 7, 3) := by decide +kernel
theorem dX8_bet_45 : decode cX8_bet 45 = .ok (.iconst 1, 1) := by decide +kernel
theorem dX8_bet_46 : decode cX8_bet 46 = .ok (.goto 21, 3) := by decide +kernel
theorem dX8_bet_49 : decode cX8_bet 49 = .ok (.iconst 2, 1) := by decide +kernel
theorem dX8_bet_50 : decode cX8_bet 50 = .ok (.aload_n 0, 1) := by decide +kernel
theorem dX8_bet_51 : decode cX8_bet 51 = .ok (.getfield 204, 3) := by decide +kernel
theorem dX8_bet_54 : decode cX8_bet 54 = .ok (.imul, 1) := by decide +kernel
theorem dX8_bet_55 : decode cX8_bet 55 = .ok (.aload_n 0, 1) := by decide +kernel
theorem dX8_bet_56 : decode cX8_bet 56 = .ok (.getfield 207, 3) := by decide +kernel
theorem dX8_bet_59 : decode cX8_bet 59 = .ok (.if_icmp .ge 7, 3) := by decide +kernel
theorem dX8_bet_62 : decode cX8_bet 62 = .ok (.iconst 2, 1) := by decide +kernel
theorem dX8_bet_63 : decode cX8_bet 63 = .ok (.goto 4, 3) := by decide +kernel
theorem dX8_bet_66 : decode cX8_bet 66 = .ok (.iconst 0, 1) := by decide +kernel
theorem dX8_bet_67 : decode cX8_bet 67 = .ok (.ireturn, 1) := by decide +kernel
set_option maxRecDepth 20000 in
theorem ggX8_year_X8_in : GoodIn wsX8_year wsX8_in := goodIn_r _ [11] (by decide +kernel) (by decide +kernel)
set_option maxRecDepth 20000 in
theorem gX8_year_X8_in : GoodIn wsX8_year (va_wsS RX8 54 yX8_in wsX8_in) := goodIn_app (goodIn_of _ (by decide +kernel)) ggX8_year_X8_in
set_option maxRecDepth 20000 in
theorem ggX8_year_X8_asides : GoodIn wsX8_year wsX8_asides := goodIn_r _ [15, 16, 2, 60, 61, 62, 63, 64, 65, 66, 67, 68, 69, 70, 71, 72, 73, 74, 75, 76, 77, 78, 79, 80, 81, 82, 83] (by decide +kernel) (by decide +kernel)
set_option maxRecDepth 20000 in
theorem gX8_year_X8_asides : GoodIn wsX8_year (wsV RX8 168 RX8 yX8_asides wsX8_asides) := goodIn_app (goodIn_of _ (by decide +kernel)) ggX8_year_X8_asides
set_option maxRecDepth 20000 in
theorem ggX8_year_X8_goesBy : GoodIn wsX8_year wsX8_goesBy := goodIn_r _ [20, 2, 21, 22, 23, 24, 10, 25, 26, 27, 28, 29, 30, 31, 32, 33, 34, 35, 36, 37, 38, 39, 40, 41, 42, 43, 44, 45, 46, 47, 48, 49, 50, 51, 52, 53, 54, 55, 60, 61, 62, 63, 64, 65, 66, 67, 68, 69, 70, 71, 72, 73, 74, 75, 76, 77, 78, 79, 80, 81, 82, 83] (by decide +kernel) (by decide +kernel)
set_option maxRecDepth 20000 in
theorem gX8_year_X8_goesBy : GoodIn wsX8_year (wsV RX8 142 RX8 yX8_goesBy wsX8_goesBy) := goodIn_app (goodIn_of _ (by decide +kernel)) ggX8_year_X8_goesBy
set_option maxRecDepth 20000 in
theorem ggX8_year_X8_backs : GoodIn wsX8_year wsX8_backs := goodIn_r _ [59, 2, 16, 60, 61, 62, 63, 64, 65, 66, 67, 68, 69, 70, 71, 72, 73, 74, 75, 76, 77, 78, 79, 80, 81, 82, 83] (by decide +kernel) (by decide +kernel)
set_option maxRecDepth 20000 in
theorem gX8_year_X8_backs : GoodIn wsX8_year (wsV RX8 174 RX8 yX8_backs wsX8_backs) := goodIn_app (goodIn_of _ (by decide +kernel)) ggX8_year_X8_backs
theorem dX8_year_0 : decode cX8_year 0 = .ok (.iload_n 1, 1) := by decide +kernel
theorem dX8_year_1 : decode cX8_year 1 = .ok (.i2l, 1) := by decide +kernel
theorem dX8_year_2 : decode cX8_year 2 = .ok (.lconst 0, 1) := by decide +kernel
theorem dX8_year_3 : decode cX8_year 3 = .ok (.ldc2_w 218, 3) := by decide +kernel
theorem dX8_year_6 : decode cX8_year 6 = .ok (.invokestatic 54, 3) := by decide +kernel
theorem dX8_year_9 : decode cX8_year 9 = .ok (.ifCond .eq 13, 3) := by decide +kernel
theorem dX8_year_12 : decode cX8_year 12 = .ok (.iload_n 2, 1) := by decide +kernel
theorem dX8_year_13 : decode cX8_year 13 = .ok (.i2l, 1) := by decide +kernel
theorem dX8_year_14 : decode cX8_year 14 = .ok (.lconst 0, 1) := by decide +kernel
theorem dX8_year_15 : decode cX8_year 15 = .ok (.lconst 1, 1) := by decide +kernel
theorem dX8_year_16 : decode cX8_year 16 = .ok (.invokestatic 54, 3) := by decide +kernel
theorem dX8_year_19 : decode cX8_year 19 = .ok (.ifCond .ne 5, 3) := by decide +kernel
theorem dX8_year_22 : decode cX8_year 22 = .ok (.iconst (-1), 1) := by decide +kernel
theorem dX8_year_23 : decode cX8_year 23 = .ok (.ireturn, 1) := by decide +kernel
theorem dX8_year_24 : decode cX8_year 24 = .ok (.aload_n 0, 1) := by decide +kernel
theorem dX8_year_25 : decode cX8_year 25 = .ok (.invokevirtual 168, 3) := by decide +kernel
theorem dX8_year_28 : decode cX8_year 28 = .ok (.iconst 0, 1) := by decide +kernel
theorem dX8_year_29 : decode cX8_year 29 = .ok (.istore_n 3, 1) := by decide +kernel
theorem dX8_year_30 : decode cX8_year 30 = .ok (.iload_n 3, 1) := by decide +kernel
theorem dX8_year_31 : decode cX8_year 31 = .ok (.bipush 30, 2) := by decide +kernel
theorem dX8_year_33 : decode cX8_year 33 = .ok (.if_icmp .ge 58, 3) := by decide +kernel
theorem dX8_year_36 : decode cX8_year 36 = .ok (.aload_n 0, 1) := by decide +kernel
theorem dX8_year_37 : decode cX8_year 37 = .ok (.getfield 13, 3) := by decide +kernel
theorem dX8_year_40 : decode cX8_year 40 = .ok (.iconst 2, 1) := by decide +kernel
theorem dX8_year_41 : decode cX8_year 41 = .ok (.iaload, 1) := by decide +kernel
theorem dX8_year_42 : decode cX8_year 42 = .ok (.ifCond .ge 49, 3) := by decide +kernel
theorem dX8_year_45 : decode cX8_year 45 = .ok (.ldc2_w 220, 3) := by decide +kernel
theorem dX8_year_48 : decode cX8_year 48 = .ok (.iload_n 1, 1) := by decide +kernel
theorem dX8_year_49 : decode cX8_year 49 = .ok (.i2l, 1) := by decide +kernel
theorem dX8_year_50 : decode cX8_year 50 = .ok (.lmul, 1) := by decide +kernel
theorem dX8_year_51 : decode cX8_year 51 = .ok (.ldc2_w 222, 3) := by decide +kernel
theorem dX8_year_54 : decode cX8_year 54 = .ok (.iload_n 3, 1) := by decide +kernel
theorem dX8_year_55 : decode cX8_year 55 = .ok (.i2l, 1) := by decide +kernel
theorem dX8_year_56 : decode cX8_year 56 = .ok (.lmul, 1) := by decide +kernel
theorem dX8_year_57 : decode cX8_year 57 = .ok (.ladd, 1) := by decide +kernel
theorem dX8_year_58 : decode cX8_year 58 = .ok (.lconst 1, 1) := by decide +kernel
theorem dX8_year_59 : decode cX8_year 59 = .ok (.ladd, 1) := by decide +kernel
theorem dX8_year_60 : decode cX8_year 60 = .ok (.lstore 4, 2) := by decide +kernel
theorem dX8_year_62 : decode cX8_year 62 = .ok (.aload_n 0, 1) := by decide +kernel
theorem dX8_year_63 : decode cX8_year 63 = .ok (.lload 4, 2) := by decide +kernel
theorem dX8_year_65 : decode cX8_year 65 = .ok (.lload 4, 2) := by decide +kernel
theorem dX8_year_67 : decode cX8_year 67 = .ok (.lmul, 1) := by decide +kernel
theorem dX8_year_68 : decode cX8_year 68 = .ok (.ldc2_w 224, 3) := by decide +kernel
theorem dX8_year_71 : decode cX8_year 71 = .ok (.lrem, 1) := by decide +kernel
theorem dX8_year_72 : decode cX8_year 72 = .ok (.ldc2_w 226, 3) := by decide +kernel
theorem dX8_year_75 : decode cX8_year 75 = .ok (.ldiv, 1) := by decide +kernel
theorem dX8_year_76 : decode cX8_year 76 = .ok (.ldc2_w 228, 3) := by decide +kernel
theorem dX8_year_79 : decode cX8_year 79 = .ok (.lrem, 1) := by decide +kernel
theorem dX8_year_80 : decode cX8_year 80 = .ok (.l2i, 1) := by decide +kernel
theorem dX8_year_81 : decode cX8_year 81 = .ok (.invokevirtual 142, 3) := by decide +kernel
theorem dX8_year_84 : decode cX8_year 84 = .ok (.pop, 1) := by decide +kernel
theorem dX8_year_85 : decode cX8_year 85 = .ok (.iinc 3 1, 3) := by decide +kernel
theorem dX8_year_88 : decode cX8_year 88 = .ok (.goto (-58), 3) := by decide +kernel
theorem dX8_year_91 : decode cX8_year 91 = .ok (.aload_n 0, 1) := by decide +kernel
theorem dX8_year_92 : decode cX8_year 92 = .ok (.getfield 13, 3) := by decide +kernel
theorem dX8_year_95 : decode cX8_year 95 = .ok (.iconst 2, 1) := by decide +kernel
theorem dX8_year_96 : decode cX8_year 96 = .ok (.iaload, 1) := by decide +kernel
theorem dX8_year_97 : decode cX8_year 97 = .ok (.ifCond .ge 8, 3) := by decide +kernel
theorem dX8_year_100 : decode cX8_year 100 = .ok (.bipush (-4), 2) := by decide +kernel
theorem dX8_year_102 : decode cX8_year 102 = .ok (.goto 4, 3) := by decide +kernel
theorem dX8_year_105 : decode cX8_year 105 = .ok (.iload_n 3, 1) := by decide +kernel
theorem dX8_year_106 : decode cX8_year 106 = .ok (.istore 4, 2) := by decide +kernel
theorem dX8_year_108 : decode cX8_year 108 = .ok (.aload_n 0, 1) := by decide +kernel
theorem dX8_year_109 : decode cX8_year 109 = .ok (.getfield 13, 3) := by decide +kernel
theorem dX8_year_112 : decode cX8_year 112 = .ok (.iconst 1, 1) := by decide +kernel
theorem dX8_year_113 : decode cX8_year 113 = .ok (.iaload, 1) := by decide +kernel
theorem dX8_year_114 : decode cX8_year 114 = .ok (.istore 5, 2) := by decide +kernel
theorem dX8_year_116 : decode cX8_year 116 = .ok (.aload_n 0, 1) := by decide +kernel
theorem dX8_year_117 : decode cX8_year 117 = .ok (.invokevirtual 174, 3) := by decide +kernel
theorem dX8_year_120 : decode cX8_year 120 = .ok (.iload_n 2, 1) := by decide +kernel
theorem dX8_year_121 : decode cX8_year 121 = .ok (.ifCond .ne 8, 3) := by decide +kernel
theorem dX8_year_124 : decode cX8_year 124 = .ok (.iload 4, 2) := by decide +kernel
theorem dX8_year_126 : decode cX8_year 126 = .ok (.goto 5, 3) := by decide +kernel
theorem dX8_year_129 : decode cX8_year 129 = .ok (.iload 5, 2) := by decide +kernel
theorem dX8_year_131 : decode cX8_year 131 = .ok (.ireturn, 1) := by decide +kernel
theorem dX8_keep_0 : decode cX8_keep 0 = .ok (.aload_n 0, 1) := by decide +kernel
theorem dX8_keep_1 : decode cX8_keep 1 = .ok (.getfield 112, 3) := by decide +kernel
theorem dX8_keep_4 : decode cX8_keep 4 = .ok (.iconst 2, 1) := by decide +kernel
theorem dX8_keep_5 : decode cX8_keep 5 = .ok (.if_icmp .ne 6, 3) := by decide +kernel
theorem dX8_keep_8 : decode cX8_keep 8 = .ok (.bipush (-3), 2) := by decide +kernel
theorem dX8_keep_10 : decode cX8_keep 10 = .ok (.ireturn, 1) := by decide +kernel
theorem dX8_keep_11 : decode cX8_keep 11 = .ok (.iconst 0, 1) := by decide +kernel
theorem dX8_keep_12 : decode cX8_keep 12 = .ok (.istore_n 1, 1) := by decide +kernel
theorem dX8_keep_13 : decode cX8_keep 13 = .ok (.iload_n 1, 1) := by decide +kernel
theorem dX8_keep_14 : decode cX8_keep 14 = .ok (.bipush 28, 2) := by decide +kernel
theorem dX8_keep_16 : decode cX8_keep 16 = .ok (.if_icmp .ge 29, 3) := by decide +kernel
theorem dX8_keep_19 : decode cX8_keep 19 = .ok (.aload_n 0, 1) := by decide +kernel
theorem dX8_keep_20 : decode cX8_keep 20 = .ok (.getfield 40, 3) := by decide +kernel
theorem dX8_keep_23 : decode cX8_keep 23 = .ok (.bipush 28, 2) := by decide +kernel
theorem dX8_keep_25 : decode cX8_keep 25 = .ok (.aload_n 0, 1) := by decide +kernel
theorem dX8_keep_26 : decode cX8_keep 26 = .ok (.getfield 112, 3) := by decide +kernel
theorem dX8_keep_29 : decode cX8_keep 29 = .ok (.imul, 1) := by decide +kernel
theorem dX8_keep_30 : decode cX8_keep 30 = .ok (.iload_n 1, 1) := by decide +kernel
theorem dX8_keep_31 : decode cX8_keep 31 = .ok (.iadd, 1) := by decide +kernel
theorem dX8_keep_32 : decode cX8_keep 32 = .ok (.aload_n 0, 1) := by decide +kernel
theorem dX8_keep_33 : decode cX8_keep 33 = .ok (.getfield 13, 3) := by decide +kernel
theorem dX8_keep_36 : decode cX8_keep 36 = .ok (.iload_n 1, 1) := by decide +kernel
theorem dX8_keep_37 : decode cX8_keep 37 = .ok (.iaload, 1) := by decide +kernel
theorem dX8_keep_38 : decode cX8_keep 38 = .ok (.iastore, 1) := by decide +kernel
theorem dX8_keep_39 : decode cX8_keep 39 = .ok (.iinc 1 1, 3) := by decide +kernel
theorem dX8_keep_42 : decode cX8_keep 42 = .ok (.goto (-29), 3) := by decide +kernel
theorem dX8_keep_45 : decode cX8_keep 45 = .ok (.aload_n 0, 1) := by decide +kernel
theorem dX8_keep_46 : decode cX8_keep 46 = .ok (.dup, 1) := by decide +kernel
theorem dX8_keep_47 : decode cX8_keep 47 = .ok (.getfield 112, 3) := by decide +kernel
theorem dX8_keep_50 : decode cX8_keep 50 = .ok (.iconst 1, 1) := by decide +kernel
theorem dX8_keep_51 : decode cX8_keep 51 = .ok (.iadd, 1) := by decide +kernel
theorem dX8_keep_52 : decode cX8_keep 52 = .ok (.putfield 112, 3) := by decide +kernel
theorem dX8_keep_55 : decode cX8_keep 55 = .ok (.aload_n 0, 1) := by decide +kernel
theorem dX8_keep_56 : decode cX8_keep 56 = .ok (.getfield 112, 3) := by decide +kernel
theorem dX8_keep_59 : decode cX8_keep 59 = .ok (.ireturn, 1) := by decide +kernel
theorem dX8_back_0 : decode cX8_back 0 = .ok (.aload_n 0, 1) := by decide +kernel
theorem dX8_back_1 : decode cX8_back 1 = .ok (.getfield 112, 3) := by decide +kernel
theorem dX8_back_4 : decode cX8_back 4 = .ok (.ifCond .ne 6, 3) := by decide +kernel
theorem dX8_back_7 : decode cX8_back 7 = .ok (.bipush (-2), 2) := by decide +kernel
theorem dX8_back_9 : decode cX8_back 9 = .ok (.ireturn, 1) := by decide +kernel
theorem dX8_back_10 : decode cX8_back 10 = .ok (.aload_n 0, 1) := by decide +kernel
theorem dX8_back_11 : decode cX8_back 11 = .ok (.dup, 1) := by decide +kernel
theorem dX8_back_12 : decode cX8_back 12 = .ok (.getfield 112, 3) := by decide +kernel
theorem dX8_back_15 : decode cX8_back 15 = .ok (.iconst 1, 1) := by decide +kernel
theorem dX8_back_16 : decode cX8_back 16 = .ok (.isub, 1) := by decide +kernel
theorem dX8_back_17 : decode cX8_back 17 = .ok (.putfield 112, 3) := by decide +kernel
theorem dX8_back_20 : decode cX8_back 20 = .ok (.iconst 0, 1) := by decide +kernel
theorem dX8_back_21 : decode cX8_back 21 = .ok (.istore_n 1, 1) := by decide +kernel
theorem dX8_back_22 : decode cX8_back 22 = .ok (.iload_n 1, 1) := by decide +kernel
theorem dX8_back_23 : decode cX8_back 23 = .ok (.bipush 28, 2) := by decide +kernel
theorem dX8_back_25 : decode cX8_back 25 = .ok (.if_icmp .ge 29, 3) := by decide +kernel
theorem dX8_back_28 : decode cX8_back 28 = .ok (.aload_n 0, 1) := by decide +kernel
theorem dX8_back_29 : decode cX8_back 29 = .ok (.getfield 13, 3) := by decide +kernel
theorem dX8_back_32 : decode cX8_back 32 = .ok (.iload_n 1, 1) := by decide +kernel
theorem dX8_back_33 : decode cX8_back 33 = .ok (.aload_n 0, 1) := by decide +kernel
theorem dX8_back_34 : decode cX8_back 34 = .ok (.getfield 40, 3) := by decide +kernel
theorem dX8_back_37 : decode cX8_back 37 = .ok (.bipush 28, 2) := by decide +kernel
theorem dX8_back_39 : decode cX8_back 39 = .ok (.aload_n 0, 1) := by decide +kernel
theorem dX8_back_40 : decode cX8_back 40 = .ok (.getfield 112, 3) := by decide +kernel
theorem dX8_back_43 : decode cX8_back 43 = .ok (.imul, 1) := by decide +kernel
theorem dX8_back_44 : decode cX8_back 44 = .ok (.iload_n 1, 1) := by decide +kernel
theorem dX8_back_45 : decode cX8_back 45 = .ok (.iadd, 1) := by decide +kernel
theorem dX8_back_46 : decode cX8_back 46 = .ok (.iaload, 1) := by decide +kernel
theorem dX8_back_47 : decode cX8_back 47 = .ok (.iastore, 1) := by decide +kernel
theorem dX8_back_48 : decode cX8_back 48 = .ok (.iinc 1 1, 3) := by decide +kernel
theorem dX8_back_51 : decode cX8_back 51 = .ok (.goto (-29), 3) := by decide +kernel
theorem dX8_back_54 : decode cX8_back 54 = .ok (.aload_n 0, 1) := by decide +kernel
theorem dX8_back_55 : decode cX8_back 55 = .ok (.iconst 0, 1) := by decide +kernel
theorem dX8_back_56 : decode cX8_back 56 = .ok (.putfield 109, 3) := by decide +kernel
theorem dX8_back_59 : decode cX8_back 59 = .ok (.aload_n 0, 1) := by decide +kernel
theorem dX8_back_60 : decode cX8_back 60 = .ok (.getfield 112, 3) := by decide +kernel
theorem dX8_back_63 : decode cX8_back 63 = .ok (.ireturn, 1) := by decide +kernel
set_option maxRecDepth 20000 in
theorem ggX8_count_X8_cells : GoodIn wsX8_count wsX8_cells := goodIn_r _ [11, 1, 20, 21, 22, 23, 24, 25, 26, 27, 28, 29, 30, 31, 32, 33, 34, 35, 36, 37, 38, 39, 40, 41, 42, 43] (by decide +kernel) (by decide +kernel)
set_option maxRecDepth 20000 in
theorem gX8_count_X8_cells : GoodIn wsX8_count (wsV RX8 50 RX8 yX8_cells wsX8_cells) := goodIn_app (goodIn_of _ (by decide +kernel)) ggX8_count_X8_cells
set_option maxRecDepth 20000 in
theorem ggX8_count_X8_many : GoodIn wsX8_count wsX8_many := goodIn_r _ [15, 7, 8, 9, 10, 11, 1, 16, 17, 18, 19, 2, 20, 21, 22, 23, 24, 25, 26, 27, 28, 29, 30, 31, 32, 33, 34, 35, 36, 37, 38, 39, 40, 41, 42, 43] (by decide +kernel) (by decide +kernel)
set_option maxRecDepth 20000 in
theorem gX8_count_X8_many : GoodIn wsX8_count (wsV RX8 159 RX8 yX8_many wsX8_many) := goodIn_app (goodIn_of _ (by decide +kernel)) ggX8_count_X8_many
theorem dX8_count_0 : decode cX8_count 0 = .ok (.iload_n 1, 1) := by decide +kernel
theorem dX8_count_1 : decode cX8_count 1 = .ok (.tableswitch 147 0 12 #[67, 72, 79, 86, 93, 99, 105, 111, 119, 127, 132, 137, 142], 67) := by decide +kernel
theorem dX8_count_68 : decode cX8_count 68 = .ok (.aload_n 0, 1) := by decide +kernel
theorem dX8_count_69 : decode cX8_count 69 = .ok (.invokevirtual 50, 3) := by decide +kernel
theorem dX8_count_72 : decode cX8_count 72 = .ok (.ireturn, 1) := by decide +kernel
theorem dX8_count_73 : decode cX8_count 73 = .ok (.aload_n 0, 1) := by decide +kernel
theorem dX8_count_74 : decode cX8_count 74 = .ok (.getfield 7, 3) := by decide +kernel
theorem dX8_count_77 : decode cX8_count 77 = .ok (.iconst 1, 1) := by decide +kernel
theorem dX8_count_78 : decode cX8_count 78 = .ok (.iaload, 1) := by decide +kernel
theorem dX8_count_79 : decode cX8_count 79 = .ok (.ireturn, 1) := by decide +kernel
theorem dX8_count_80 : decode cX8_count 80 = .ok (.aload_n 0, 1) := by decide +kernel
theorem dX8_count_81 : decode cX8_count 81 = .ok (.getfield 13, 3) := by decide +kernel
theorem dX8_count_84 : decode cX8_count 84 = .ok (.iconst 0, 1) := by decide +kernel
theorem dX8_count_85 : decode cX8_count 85 = .ok (.iaload, 1) := by decide +kernel
theorem dX8_count_86 : decode cX8_count 86 = .ok (.ireturn, 1) := by decide +kernel
theorem dX8_count_87 : decode cX8_count 87 = .ok (.aload_n 0, 1) := by decide +kernel
theorem dX8_count_88 : decode cX8_count 88 = .ok (.getfield 13, 3) := by decide +kernel
theorem dX8_count_91 : decode cX8_count 91 = .ok (.iconst 1, 1) := by decide +kernel
theorem dX8_count_92 : decode cX8_count 92 = .ok (.iaload, 1) := by decide +kernel
theorem dX8_count_93 : decode cX8_count 93 = .ok (.ireturn, 1) := by decide +kernel
theorem dX8_count_94 : decode cX8_count 94 = .ok (.aload_n 0, 1) := by decide +kernel
theorem dX8_count_95 : decode cX8_count 95 = .ok (.iconst 3, 1) := by decide +kernel
theorem dX8_count_96 : decode cX8_count 96 = .ok (.invokevirtual 159, 3) := by decide +kernel
theorem dX8_count_99 : decode cX8_count 99 = .ok (.ireturn, 1) := by decide +kernel
theorem dX8_count_100 : decode cX8_count 100 = .ok (.aload_n 0, 1) := by decide +kernel
theorem dX8_count_101 : decode cX8_count 101 = .ok (.iconst 1, 1) := by decide +kernel
theorem dX8_count_102 : decode cX8_count 102 = .ok (.invokevirtual 159, 3) := by decide +kernel
theorem dX8_count_105 : decode cX8_count 105 = .ok (.ireturn, 1) := by decide +kernel
theorem dX8_count_106 : decode cX8_count 106 = .ok (.aload_n 0, 1) := by decide +kernel
theorem dX8_count_107 : decode cX8_count 107 = .ok (.iconst 2, 1) := by decide +kernel
theorem dX8_count_108 : decode cX8_count 108 = .ok (.invokevirtual 159, 3) := by decide +kernel
theorem dX8_count_111 : decode cX8_count 111 = .ok (.ireturn, 1) := by decide +kernel
theorem dX8_count_112 : decode cX8_count 112 = .ok (.aload_n 0, 1) := by decide +kernel
theorem dX8_count_113 : decode cX8_count 113 = .ok (.getfield 7, 3) := by decide +kernel
theorem dX8_count_116 : decode cX8_count 116 = .ok (.bipush 13, 2) := by decide +kernel
theorem dX8_count_118 : decode cX8_count 118 = .ok (.iaload, 1) := by decide +kernel
theorem dX8_count_119 : decode cX8_count 119 = .ok (.ireturn, 1) := by decide +kernel
theorem dX8_count_120 : decode cX8_count 120 = .ok (.aload_n 0, 1) := by decide +kernel
theorem dX8_count_121 : decode cX8_count 121 = .ok (.getfield 7, 3) := by decide +kernel
theorem dX8_count_124 : decode cX8_count 124 = .ok (.bipush 24, 2) := by decide +kernel
theorem dX8_count_126 : decode cX8_count 126 = .ok (.iaload, 1) := by decide +kernel
theorem dX8_count_127 : decode cX8_count 127 = .ok (.ireturn, 1) := by decide +kernel
theorem dX8_count_128 : decode cX8_count 128 = .ok (.aload_n 0, 1) := by decide +kernel
theorem dX8_count_129 : decode cX8_count 129 = .ok (.getfield 106, 3) := by decide +kernel
theorem dX8_count_132 : decode cX8_count 132 = .ok (.ireturn, 1) := by decide +kernel
theorem dX8_count_133 : decode cX8_count 133 = .ok (.aload_n 0, 1) := by decide +kernel
theorem dX8_count_134 : decode cX8_count 134 = .ok (.getfield 109, 3) := by decide +kernel
theorem dX8_count_137 : decode cX8_count 137 = .ok (.ireturn, 1) := by decide +kernel
theorem dX8_count_138 : decode cX8_count 138 = .ok (.aload_n 0, 1) := by decide +kernel
theorem dX8_count_139 : decode cX8_count 139 = .ok (.getfield 112, 3) := by decide +kernel
theorem dX8_count_142 : decode cX8_count 142 = .ok (.ireturn, 1) := by decide +kernel
theorem dX8_count_143 : decode cX8_count 143 = .ok (.aload_n 0, 1) := by decide +kernel
theorem dX8_count_144 : decode cX8_count 144 = .ok (.getfield 62, 3) := by decide +kernel
theorem dX8_count_147 : decode cX8_count 147 = .ok (.ireturn, 1) := by decide +kernel
theorem dX8_count_148 : decode cX8_count 148 = .ok (.iconst (-1), 1) := by decide +kernel
theorem dX8_count_149 : decode cX8_count 149 = .ok (.ireturn, 1) := by decide +kernel
theorem dJ9_abs_0f7a4_0 : decode cJ9_abs_0f7a4 0 = .ok (.iload_n 0, 1) := by decide +kernel
theorem dJ9_abs_0f7a4_1 : decode cJ9_abs_0f7a4 1 = .ok (.ifCond .ge 8, 3) := by decide +kernel
theorem dJ9_abs_0f7a4_4 : decode cJ9_abs_0f7a4 4 = .ok (.iload_n 0, 1) := by decide +kernel
theorem dJ9_abs_0f7a4_5 : decode cJ9_abs_0f7a4 5 = .ok (.ineg, 1) := by decide +kernel
theorem dJ9_abs_0f7a4_6 : decode cJ9_abs_0f7a4 6 = .ok (.goto 4, 3) := by decide +kernel
theorem dJ9_abs_0f7a4_9 : decode cJ9_abs_0f7a4 9 = .ok (.iload_n 0, 1) := by decide +kernel
theorem dJ9_abs_0f7a4_10 : decode cJ9_abs_0f7a4 10 = .ok (.ireturn, 1) := by decide +kernel
theorem dJ9_max_7cf53_0 : decode cJ9_max_7cf53 0 = .ok (.iload_n 0, 1) := by decide +kernel
theorem dJ9_max_7cf53_1 : decode cJ9_max_7cf53 1 = .ok (.iload_n 1, 1) := by decide +kernel
theorem dJ9_max_7cf53_2 : decode cJ9_max_7cf53 2 = .ok (.if_icmp .lt 7, 3) := by decide +kernel
theorem dJ9_max_7cf53_5 : decode cJ9_max_7cf53 5 = .ok (.iload_n 0, 1) := by decide +kernel
theorem dJ9_max_7cf53_6 : decode cJ9_max_7cf53 6 = .ok (.goto 4, 3) := by decide +kernel
theorem dJ9_max_7cf53_9 : decode cJ9_max_7cf53 9 = .ok (.iload_n 1, 1) := by decide +kernel
theorem dJ9_max_7cf53_10 : decode cJ9_max_7cf53 10 = .ok (.ireturn, 1) := by decide +kernel
set_option maxRecDepth 20000 in
theorem ggJ0_length_8abf5_J0_coder_7d493 : GoodIn wsJ0_length_8abf5 wsJ0_coder_7d493 := goodIn_r _ [6, 7, 8] (by decide +kernel) (by decide +kernel)
set_option maxRecDepth 20000 in
theorem gJ0_length_8abf5_J0_coder_7d493 : GoodIn wsJ0_length_8abf5 (wsV RJ0 335 RJ0 yJ0_coder_7d493 wsJ0_coder_7d493) := goodIn_app (goodIn_of _ (by decide +kernel)) ggJ0_length_8abf5_J0_coder_7d493
theorem dJ0_length_8abf5_0 : decode cJ0_length_8abf5 0 = .ok (.aload_n 0, 1) := by decide +kernel
theorem dJ0_length_8abf5_1 : decode cJ0_length_8abf5 1 = .ok (.getfield 9, 3) := by decide +kernel
theorem dJ0_length_8abf5_4 : decode cJ0_length_8abf5 4 = .ok (.arraylength, 1) := by decide +kernel
theorem dJ0_length_8abf5_5 : decode cJ0_length_8abf5 5 = .ok (.aload_n 0, 1) := by decide +kernel
theorem dJ0_length_8abf5_6 : decode cJ0_length_8abf5 6 = .ok (.invokevirtual 335, 3) := by decide +kernel
theorem dJ0_length_8abf5_9 : decode cJ0_length_8abf5 9 = .ok (.ishr, 1) := by decide +kernel
theorem dJ0_length_8abf5_10 : decode cJ0_length_8abf5 10 = .ok (.ireturn, 1) := by decide +kernel
set_option maxRecDepth 20000 in
theorem ggJ0_charAt_5068e_J0_isLatin1_aae02 : GoodIn wsJ0_charAt_5068e wsJ0_isLatin1_aae02 := goodIn_r _ [6, 7, 8] (by decide +kernel) (by decide +kernel)
set_option maxRecDepth 20000 in
theorem gJ0_charAt_5068e_J0_isLatin1_aae02 : GoodIn wsJ0_charAt_5068e (wsV RJ0 492 RJ0 yJ0_isLatin1_aae02 wsJ0_isLatin1_aae02) := goodIn_app (goodIn_of _ (by decide +kernel)) ggJ0_charAt_5068e_J0_isLatin1_aae02
set_option maxRecDepth 20000 in
theorem ggJ0_charAt_5068e_J1_charAt_3b067 : GoodIn wsJ0_charAt_5068e wsJ1_charAt_3b067 := goodIn_r _ [12, 13, 14, 5, 15, 16, 17, 18, 19, 20] (by decide +kernel) (by decide +kernel)
set_option maxRecDepth 20000 in
theorem gJ0_charAt_5068e_J1_charAt_3b067 : GoodIn wsJ0_charAt_5068e (va_wsS RJ0 495 yJ1_charAt_3b067 wsJ1_charAt_3b067) := goodIn_app (goodIn_of _ (by decide +kernel)) ggJ0_charAt_5068e_J1_charAt_3b067
set_option maxRecDepth 20000 in
theorem ggJ0_charAt_5068e_J2_charAt_3b067 : GoodIn wsJ0_charAt_5068e wsJ2_charAt_3b067 := goodIn_r _ [24, 25, 26, 23, 27, 28, 29, 30, 31, 14, 5, 15, 16, 17, 18, 19, 20, 32, 33, 34, 35, 36, 37] (by decide +kernel) (by decide +kernel)
set_option maxRecDepth 20000 in
theorem gJ0_charAt_5068e_J2_charAt_3b067 : GoodIn wsJ0_charAt_5068e (va_wsS RJ0 498 yJ2_charAt_3b067 wsJ2_charAt_3b067) := goodIn_app (goodIn_of _ (by decide +kernel)) ggJ0_charAt_5068e_J2_charAt_3b067
theorem dJ0_charAt_5068e_0 : decode cJ0_charAt_5068e 0 = .ok (.aload_n 0, 1) := by decide +kernel
theorem dJ0_charAt_5068e_1 : decode cJ0_charAt_5068e 1 = .ok (.invokevirtual 492, 3) := by decide +kernel
theorem dJ0_charAt_5068e_4 : decode cJ0_charAt_5068e 4 = .ok (.ifCond .eq 12, 3) := by decide +kernel
theorem dJ0_charAt_5068e_7 : decode cJ0_charAt_5068e 7 = .ok (.aload_n 0, 1) := by decide +kernel
theorem dJ0_charAt_5068e_8 : decode cJ0_charAt_5068e 8 = .ok (.getfield 9, 3) := by decide +kernel
theorem dJ0_charAt_5068e_11 : decode cJ0_charAt_5068e 11 = .ok (.iload_n 1, 1) := by decide +kernel
theorem dJ0_charAt_5068e_12 : decode cJ0_charAt_5068e 12 = .ok (.invokestatic 495, 3) := by decide +kernel
theorem dJ0_charAt_5068e_15 : decode cJ0_charAt_5068e 15 = .ok (.ireturn, 1) := by decide +kernel
theorem dJ0_charAt_5068e_16 : decode cJ0_charAt_5068e 16 = .ok (.aload_n 0, 1) := by decide +kernel
theorem dJ0_charAt_5068e_17 : decode cJ0_charAt_5068e 17 = .ok (.getfield 9, 3) := by decide +kernel
theorem dJ0_charAt_5068e_20 : decode cJ0_charAt_5068e 20 = .ok (.iload_n 1, 1) := by decide +kernel
theorem dJ0_charAt_5068e_21 : decode cJ0_charAt_5068e 21 = .ok (.invokestatic 498, 3) := by decide +kernel
theorem dJ0_charAt_5068e_24 : decode cJ0_charAt_5068e 24 = .ok (.ireturn, 1) := by decide +kernel
theorem dJ0_coder_7d493_0 : decode cJ0_coder_7d493 0 = .ok (.getstatic 38, 3) := by decide +kernel
theorem dJ0_coder_7d493_3 : decode cJ0_coder_7d493 3 = .ok (.ifCond .eq 10, 3) := by decide +kernel
theorem dJ0_coder_7d493_6 : decode cJ0_coder_7d493 6 = .ok (.aload_n 0, 1) := by decide +kernel
theorem dJ0_coder_7d493_7 : decode cJ0_coder_7d493 7 = .ok (.getfield 15, 3) := by decide +kernel
theorem dJ0_coder_7d493_10 : decode cJ0_coder_7d493 10 = .ok (.goto 4, 3) := by decide +kernel
theorem dJ0_coder_7d493_13 : decode cJ0_coder_7d493 13 = .ok (.iconst 1, 1) := by decide +kernel
theorem dJ0_coder_7d493_14 : decode cJ0_coder_7d493 14 = .ok (.ireturn, 1) := by decide +kernel
theorem dJ0_isLatin1_aae02_0 : decode cJ0_isLatin1_aae02 0 = .ok (.getstatic 38, 3) := by decide +kernel
theorem dJ0_isLatin1_aae02_3 : decode cJ0_isLatin1_aae02 3 = .ok (.ifCond .eq 14, 3) := by decide +kernel
theorem dJ0_isLatin1_aae02_6 : decode cJ0_isLatin1_aae02 6 = .ok (.aload_n 0, 1) := by decide +kernel
theorem dJ0_isLatin1_aae02_7 : decode cJ0_isLatin1_aae02 7 = .ok (.getfield 15, 3) := by decide +kernel
theorem dJ0_isLatin1_aae02_10 : decode cJ0_isLatin1_aae02 10 = .ok (.ifCond .ne 7, 3) := by decide +kernel
theorem dJ0_isLatin1_aae02_13 : decode cJ0_isLatin1_aae02 13 = .ok (.iconst 1, 1) := by decide +kernel
theorem dJ0_isLatin1_aae02_14 : decode cJ0_isLatin1_aae02 14 = .ok (.goto 4, 3) := by decide +kernel
theorem dJ0_isLatin1_aae02_17 : decode cJ0_isLatin1_aae02 17 = .ok (.iconst 0, 1) := by decide +kernel
theorem dJ0_isLatin1_aae02_18 : decode cJ0_isLatin1_aae02 18 = .ok (.ireturn, 1) := by decide +kernel
set_option maxRecDepth 20000 in
theorem ggJ0_checkIndex_df160_J3_checkIndex_8e157 : GoodIn wsJ0_checkIndex_df160 wsJ3_checkIndex_8e157 := goodIn_r _ [5] (by decide +kernel) (by decide +kernel)
set_option maxRecDepth 20000 in
theorem gJ0_checkIndex_df160_J3_checkIndex_8e157 : GoodIn wsJ0_checkIndex_df160 (va_wsS RJ0 1059 yJ3_checkIndex_8e157 wsJ3_checkIndex_8e157) := goodIn_app (goodIn_of _ (by decide +kernel)) ggJ0_checkIndex_df160_J3_checkIndex_8e157
theorem dJ0_checkIndex_df160_0 : decode cJ0_checkIndex_df160 0 = .ok (.iload_n 0, 1) := by decide +kernel
theorem dJ0_checkIndex_df160_1 : decode cJ0_checkIndex_df160 1 = .ok (.iload_n 1, 1) := by decide +kernel
theorem dJ0_checkIndex_df160_2 : decode cJ0_checkIndex_df160 2 = .ok (.getstatic 1053, 3) := by decide +kernel
theorem dJ0_checkIndex_df160_5 : decode cJ0_checkIndex_df160 5 = .ok (.invokestatic 1059, 3) := by decide +kernel
theorem dJ0_checkIndex_df160_8 : decode cJ0_checkIndex_df160 8 = .ok (.pop, 1) := by decide +kernel
theorem dJ0_checkIndex_df160_9 : decode cJ0_checkIndex_df160 9 = .ok (.return_, 1) := by decide +kernel
set_option maxRecDepth 20000 in
theorem ggJ1_charAt_3b067_J0_checkIndex_df160 : GoodIn wsJ1_charAt_3b067 wsJ0_checkIndex_df160 := goodIn_r _ [4, 5, 6, 7, 8, 9] (by decide +kernel) (by decide +kernel)
set_option maxRecDepth 20000 in
theorem gJ1_charAt_3b067_J0_checkIndex_df160 : GoodIn wsJ1_charAt_3b067 (va_wsS RJ1 9 yJ0_checkIndex_df160 wsJ0_checkIndex_df160) := goodIn_app (goodIn_of _ (by decide +kernel)) ggJ1_charAt_3b067_J0_checkIndex_df160
theorem dJ1_charAt_3b067_0 : decode cJ1_charAt_3b067 0 = .ok (.iload_n 1, 1) := by decide +kernel
theorem dJ1_charAt_3b067_1 : decode cJ1_charAt_3b067 1 = .ok (.aload_n 0, 1) := by decide +kernel
theorem dJ1_charAt_3b067_2 : decode cJ1_charAt_3b067 2 = .ok (.arraylength, 1) := by decide +kernel
theorem dJ1_charAt_3b067_3 : decode cJ1_charAt_3b067 3 = .ok (.invokestatic 9, 3) := by decide +kernel
theorem dJ1_charAt_3b067_6 : decode cJ1_charAt_3b067 6 = .ok (.aload_n 0, 1) := by decide +kernel
theorem dJ1_charAt_3b067_7 : decode cJ1_charAt_3b067 7 = .ok (.iload_n 1, 1) := by decide +kernel
theorem dJ1_charAt_3b067_8 : decode cJ1_charAt_3b067 8 = .ok (.baload, 1) := by decide +kernel
theorem dJ1_charAt_3b067_9 : decode cJ1_charAt_3b067 9 = .ok (.sipush 255, 3) := by decide +kernel
theorem dJ1_charAt_3b067_12 : decode cJ1_charAt_3b067 12 = .ok (.iand, 1) := by decide +kernel
theorem dJ1_charAt_3b067_13 : decode cJ1_charAt_3b067 13 = .ok (.i2c, 1) := by decide +kernel
theorem dJ1_charAt_3b067_14 : decode cJ1_charAt_3b067 14 = .ok (.ireturn, 1) := by decide +kernel
set_option maxRecDepth 20000 in
theorem ggJ2_getChar_3b067_J2_length_9d52b : GoodIn wsJ2_getChar_3b067 wsJ2_length_9d52b := goodIn_r _ [7] (by decide +kernel) (by decide +kernel)
set_option maxRecDepth 20000 in
theorem gJ2_getChar_3b067_J2_length_9d52b : GoodIn wsJ2_getChar_3b067 (va_wsS RJ2 48 yJ2_length_9d52b wsJ2_length_9d52b) := goodIn_app (goodIn_of _ (by decide +kernel)) ggJ2_getChar_3b067_J2_length_9d52b
theorem dJ2_getChar_3b067_0 : decode cJ2_getChar_3b067 0 = .ok (.getstatic 44, 3) := by decide +kernel
theorem dJ2_getChar_3b067_3 : decode cJ2_getChar_3b067 3 = .ok (.ifCond .ne 25, 3) := by decide +kernel
theorem dJ2_getChar_3b067_6 : decode cJ2_getChar_3b067 6 = .ok (.iload_n 1, 1) := by decide +kernel
theorem dJ2_getChar_3b067_7 : decode cJ2_getChar_3b067 7 = .ok (.ifCond .lt 11, 3) := by decide +kernel
theorem dJ2_getChar_3b067_10 : decode cJ2_getChar_3b067 10 = .ok (.iload_n 1, 1) := by decide +kernel
theorem dJ2_getChar_3b067_11 : decode cJ2_getChar_3b067 11 = .ok (.aload_n 0, 1) := by decide +kernel
theorem dJ2_getChar_3b067_12 : decode cJ2_getChar_3b067 12 = .ok (.invokestatic 48, 3) := by decide +kernel
theorem dJ2_getChar_3b067_15 : decode cJ2_getChar_3b067 15 = .ok (.if_icmp .lt 13, 3) := by decide +kernel
theorem dJ2_getChar_3b067_18 : decode cJ2_getChar_3b067 18 = .ok (.new 52, 3) := by decide +kernel
theorem dJ2_getChar_3b067_21 : decode cJ2_getChar_3b067 21 = .ok (.dup, 1) := by decide +kernel
theorem dJ2_getChar_3b067_22 : decode cJ2_getChar_3b067 22 = .ok (.ldc 54, 2) := by decide +kernel
theorem dJ2_getChar_3b067_24 : decode cJ2_getChar_3b067 24 = .ok (.invokespecial 56, 3) := by decide +kernel
theorem dJ2_getChar_3b067_27 : decode cJ2_getChar_3b067 27 = .ok (.athrow, 1) := by decide +kernel
theorem dJ2_getChar_3b067_28 : decode cJ2_getChar_3b067 28 = .ok (.iload_n 1, 1) := by decide +kernel
theorem dJ2_getChar_3b067_29 : decode cJ2_getChar_3b067 29 = .ok (.iconst 1, 1) := by decide +kernel
theorem dJ2_getChar_3b067_30 : decode cJ2_getChar_3b067 30 = .ok (.ishl, 1) := by decide +kernel
theorem dJ2_getChar_3b067_31 : decode cJ2_getChar_3b067 31 = .ok (.istore_n 1, 1) := by decide +kernel
theorem dJ2_getChar_3b067_32 : decode cJ2_getChar_3b067 32 = .ok (.aload_n 0, 1) := by decide +kernel
theorem dJ2_getChar_3b067_33 : decode cJ2_getChar_3b067 33 = .ok (.iload_n 1, 1) := by decide +kernel
theorem dJ2_getChar_3b067_34 : decode cJ2_getChar_3b067 34 = .ok (.iinc 1 1, 3) := by decide +kernel
theorem dJ2_getChar_3b067_37 : decode cJ2_getChar_3b067 37 = .ok (.baload, 1) := by decide +kernel
theorem dJ2_getChar_3b067_38 : decode cJ2_getChar_3b067 38 = .ok (.sipush 255, 3) := by decide +kernel
theorem dJ2_getChar_3b067_41 : decode cJ2_getChar_3b067 41 = .ok (.iand, 1) := by decide +kernel
theorem dJ2_getChar_3b067_42 : decode cJ2_getChar_3b067 42 = .ok (.getstatic 59, 3) := by decide +kernel
theorem dJ2_getChar_3b067_45 : decode cJ2_getChar_3b067 45 = .ok (.ishl, 1) := by decide +kernel
theorem dJ2_getChar_3b067_46 : decode cJ2_getChar_3b067 46 = .ok (.aload_n 0, 1) := by decide +kernel
theorem dJ2_getChar_3b067_47 : decode cJ2_getChar_3b067 47 = .ok (.iload_n 1, 1) := by decide +kernel
theorem dJ2_getChar_3b067_48 : decode cJ2_getChar_3b067 48 = .ok (.baload, 1) := by decide +kernel
theorem dJ2_getChar_3b067_49 : decode cJ2_getChar_3b067 49 = .ok (.sipush 255, 3) := by decide +kernel
theorem dJ2_getChar_3b067_52 : decode cJ2_getChar_3b067 52 = .ok (.iand, 1) := by decide +kernel
theorem dJ2_getChar_3b067_53 : decode cJ2_getChar_3b067 53 = .ok (.getstatic 63, 3) := by decide +kernel
theorem dJ2_getChar_3b067_56 : decode cJ2_getChar_3b067 56 = .ok (.ishl, 1) := by decide +kernel
theorem dJ2_getChar_3b067_57 : decode cJ2_getChar_3b067 57 = .ok (.ior, 1) := by decide +kernel
theorem dJ2_getChar_3b067_58 : decode cJ2_getChar_3b067 58 = .ok (.i2c, 1) := by decide +kernel
theorem dJ2_getChar_3b067_59 : decode cJ2_getChar_3b067 59 = .ok (.ireturn, 1) := by decide +kernel
theorem dJ2_length_9d52b_0 : decode cJ2_length_9d52b 0 = .ok (.aload_n 0, 1) := by decide +kernel
theorem dJ2_length_9d52b_1 : decode cJ2_length_9d52b 1 = .ok (.arraylength, 1) := by decide +kernel
theorem dJ2_length_9d52b_2 : decode cJ2_length_9d52b 2 = .ok (.iconst 1, 1) := by decide +kernel
theorem dJ2_length_9d52b_3 : decode cJ2_length_9d52b 3 = .ok (.ishr, 1) := by decide +kernel
theorem dJ2_length_9d52b_4 : decode cJ2_length_9d52b 4 = .ok (.ireturn, 1) := by decide +kernel
set_option maxRecDepth 20000 in
theorem ggJ2_charAt_3b067_J2_checkIndex_2214a : GoodIn wsJ2_charAt_3b067 wsJ2_checkIndex_2214a := goodIn_r _ [4, 5, 6, 3, 7, 8, 9, 10, 11, 12, 13, 14, 15, 16] (by decide +kernel) (by decide +kernel)
set_option maxRecDepth 20000 in
theorem gJ2_charAt_3b067_J2_checkIndex_2214a : GoodIn wsJ2_charAt_3b067 (va_wsS RJ2 67 yJ2_checkIndex_2214a wsJ2_checkIndex_2214a) := goodIn_app (goodIn_of _ (by decide +kernel)) ggJ2_charAt_3b067_J2_checkIndex_2214a
set_option maxRecDepth 20000 in
theorem ggJ2_charAt_3b067_J2_getChar_3b067 : GoodIn wsJ2_charAt_3b067 wsJ2_getChar_3b067 := goodIn_r _ [19, 20, 21, 22, 5, 6, 3, 7] (by decide +kernel) (by decide +kernel)
set_option maxRecDepth 20000 in
theorem gJ2_charAt_3b067_J2_getChar_3b067 : GoodIn wsJ2_charAt_3b067 (va_wsS RJ2 71 yJ2_getChar_3b067 wsJ2_getChar_3b067) := goodIn_app (goodIn_of _ (by decide +kernel)) ggJ2_charAt_3b067_J2_getChar_3b067
theorem dJ2_charAt_3b067_0 : decode cJ2_charAt_3b067 0 = .ok (.iload_n 1, 1) := by decide +kernel
theorem dJ2_charAt_3b067_1 : decode cJ2_charAt_3b067 1 = .ok (.aload_n 0, 1) := by decide +kernel
theorem dJ2_charAt_3b067_2 : decode cJ2_charAt_3b067 2 = .ok (.invokestatic 67, 3) := by decide +kernel
theorem dJ2_charAt_3b067_5 : decode cJ2_charAt_3b067 5 = .ok (.aload_n 0, 1) := by decide +kernel
theorem dJ2_charAt_3b067_6 : decode cJ2_charAt_3b067 6 = .ok (.iload_n 1, 1) := by decide +kernel
theorem dJ2_charAt_3b067_7 : decode cJ2_charAt_3b067 7 = .ok (.invokestatic 71, 3) := by decide +kernel
theorem dJ2_charAt_3b067_10 : decode cJ2_charAt_3b067 10 = .ok (.ireturn, 1) := by decide +kernel
set_option maxRecDepth 20000 in
theorem ggJ2_checkIndex_2214a_J2_length_9d52b : GoodIn wsJ2_checkIndex_2214a wsJ2_length_9d52b := goodIn_r _ [4] (by decide +kernel) (by decide +kernel)
set_option maxRecDepth 20000 in
theorem gJ2_checkIndex_2214a_J2_length_9d52b : GoodIn wsJ2_checkIndex_2214a (va_wsS RJ2 48 yJ2_length_9d52b wsJ2_length_9d52b) := goodIn_app (goodIn_of _ (by decide +kernel)) ggJ2_checkIndex_2214a_J2_length_9d52b
set_option maxRecDepth 20000 in
theorem ggJ2_checkIndex_2214a_J0_checkIndex_df160 : GoodIn wsJ2_checkIndex_2214a wsJ0_checkIndex_df160 := goodIn_r _ [8, 9, 10, 11, 12, 13] (by decide +kernel) (by decide +kernel)
set_option maxRecDepth 20000 in
theorem gJ2_checkIndex_2214a_J0_checkIndex_df160 : GoodIn wsJ2_checkIndex_2214a (va_wsS RJ2 414 yJ0_checkIndex_df160 wsJ0_checkIndex_df160) := goodIn_app (goodIn_of _ (by decide +kernel)) ggJ2_checkIndex_2214a_J0_checkIndex_df160
theorem dJ2_checkIndex_2214a_0 : decode cJ2_checkIndex_2214a 0 = .ok (.iload_n 0, 1) := by decide +kernel
theorem dJ2_checkIndex_2214a_1 : decode cJ2_checkIndex_2214a 1 = .ok (.aload_n 1, 1) := by decide +kernel
theorem dJ2_checkIndex_2214a_2 : decode cJ2_checkIndex_2214a 2 = .ok (.invokestatic 48, 3) := by decide +kernel
theorem dJ2_checkIndex_2214a_5 : decode cJ2_checkIndex_2214a 5 = .ok (.invokestatic 414, 3) := by decide +kernel
theorem dJ2_checkIndex_2214a_8 : decode cJ2_checkIndex_2214a 8 = .ok (.return_, 1) := by decide +kernel
theorem dJ7_fill_53178_0 : decode cJ7_fill_53178 0 = .ok (.iconst 0, 1) := by decide +kernel
theorem dJ7_fill_53178_1 : decode cJ7_fill_53178 1 = .ok (.istore_n 2, 1) := by decide +kernel
theorem dJ7_fill_53178_2 : decode cJ7_fill_53178 2 = .ok (.aload_n 0, 1) := by decide +kernel
theorem dJ7_fill_53178_3 : decode cJ7_fill_53178 3 = .ok (.arraylength, 1) := by decide +kernel
theorem dJ7_fill_53178_4 : decode cJ7_fill_53178 4 = .ok (.istore_n 3, 1) := by decide +kernel
theorem dJ7_fill_53178_5 : decode cJ7_fill_53178 5 = .ok (.iload_n 2, 1) := by decide +kernel
theorem dJ7_fill_53178_6 : decode cJ7_fill_53178 6 = .ok (.iload_n 3, 1) := by decide +kernel
theorem dJ7_fill_53178_7 : decode cJ7_fill_53178 7 = .ok (.if_icmp .ge 13, 3) := by decide +kernel
theorem dJ7_fill_53178_10 : decode cJ7_fill_53178 10 = .ok (.aload_n 0, 1) := by decide +kernel
theorem dJ7_fill_53178_11 : decode cJ7_fill_53178 11 = .ok (.iload_n 2, 1) := by decide +kernel
theorem dJ7_fill_53178_12 : decode cJ7_fill_53178 12 = .ok (.iload_n 1, 1) := by decide +kernel
theorem dJ7_fill_53178_13 : decode cJ7_fill_53178 13 = .ok (.iastore, 1) := by decide +kernel
theorem dJ7_fill_53178_14 : decode cJ7_fill_53178 14 = .ok (.iinc 2 1, 3) := by decide +kernel
theorem dJ7_fill_53178_17 : decode cJ7_fill_53178 17 = .ok (.goto (-12), 3) := by decide +kernel
theorem dJ7_fill_53178_20 : decode cJ7_fill_53178 20 = .ok (.return_, 1) := by decide +kernel
theorem dJ3_checkIndex_8e157_0 : decode cJ3_checkIndex_8e157 0 = .ok (.iload_n 0, 1) := by decide +kernel
theorem dJ3_checkIndex_8e157_1 : decode cJ3_checkIndex_8e157 1 = .ok (.ifCond .lt 8, 3) := by decide +kernel
theorem dJ3_checkIndex_8e157_4 : decode cJ3_checkIndex_8e157 4 = .ok (.iload_n 0, 1) := by decide +kernel
theorem dJ3_checkIndex_8e157_5 : decode cJ3_checkIndex_8e157 5 = .ok (.iload_n 1, 1) := by decide +kernel
theorem dJ3_checkIndex_8e157_6 : decode cJ3_checkIndex_8e157 6 = .ok (.if_icmp .lt 10, 3) := by decide +kernel
theorem dJ3_checkIndex_8e157_9 : decode cJ3_checkIndex_8e157 9 = .ok (.aload_n 2, 1) := by decide +kernel
theorem dJ3_checkIndex_8e157_10 : decode cJ3_checkIndex_8e157 10 = .ok (.iload_n 0, 1) := by decide +kernel
theorem dJ3_checkIndex_8e157_11 : decode cJ3_checkIndex_8e157 11 = .ok (.iload_n 1, 1) := by decide +kernel
theorem dJ3_checkIndex_8e157_12 : decode cJ3_checkIndex_8e157 12 = .ok (.invokestatic 95, 3) := by decide +kernel
theorem dJ3_checkIndex_8e157_15 : decode cJ3_checkIndex_8e157 15 = .ok (.athrow, 1) := by decide +kernel
theorem dJ3_checkIndex_8e157_16 : decode cJ3_checkIndex_8e157 16 = .ok (.iload_n 0, 1) := by decide +kernel
theorem dJ3_checkIndex_8e157_17 : decode cJ3_checkIndex_8e157 17 = .ok (.ireturn, 1) := by decide +kernel

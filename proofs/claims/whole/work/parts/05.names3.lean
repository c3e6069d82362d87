theorem dX7_chooseLettuces_28 : decode cX7_chooseLettuces 28 = .ok (.ireturn, 1) := by decide +kernel
theorem dX7_chooseLettuces_29 : decode cX7_chooseLettuces 29 = .ok (.iconst 0, 1) := by decide +kernel
theorem dX7_chooseLettuces_30 : decode cX7_chooseLettuces 30 = .ok (.istore_n 3, 1) := by decide +kernel
theorem dX7_chooseLettuces_31 : decode cX7_chooseLettuces 31 = .ok (.iload_n 3, 1) := by decide +kernel
theorem dX7_chooseLettuces_32 : decode cX7_chooseLettuces 32 = .ok (.aload_n 0, 1) := by decide +kernel
theorem dX7_chooseLettuces_33 : decode cX7_chooseLettuces 33 = .ok (.getfield 68, 3) := by decide +kernel
theorem dX7_chooseLettuces_36 : decode cX7_chooseLettuces 36 = .ok (.getfield 106, 3) := by decide +kernel
theorem dX7_chooseLettuces_39 : decode cX7_chooseLettuces 39 = .ok (.if_icmp .ge 41, 3) := by decide +kernel
theorem dX7_chooseLettuces_42 : decode cX7_chooseLettuces 42 = .ok (.aload_n 0, 1) := by decide +kernel
theorem dX7_chooseLettuces_43 : decode cX7_chooseLettuces 43 = .ok (.iload_n 3, 1) := by decide +kernel
theorem dX7_chooseLettuces_44 : decode cX7_chooseLettuces 44 = .ok (.invokevirtual 133, 3) := by decide +kernel
theorem dX7_chooseLettuces_47 : decode cX7_chooseLettuces 47 = .ok (.ifCond .eq 27, 3) := by decide +kernel
theorem dX7_chooseLettuces_50 : decode cX7_chooseLettuces 50 = .ok (.aload_n 0, 1) := by decide +kernel
theorem dX7_chooseLettuces_51 : decode cX7_chooseLettuces 51 = .ok (.iload_n 3, 1) := by decide +kernel
theorem dX7_chooseLettuces_52 : decode cX7_chooseLettuces 52 = .ok (.iload_n 3, 1) := by decide +kernel
theorem dX7_chooseLettuces_53 : decode cX7_chooseLettuces 53 = .ok (.invokevirtual 227, 3) := by decide +kernel
theorem dX7_chooseLettuces_56 : decode cX7_chooseLettuces 56 = .ok (.aload_n 0, 1) := by decide +kernel
theorem dX7_chooseLettuces_57 : decode cX7_chooseLettuces 57 = .ok (.aload_n 0, 1) := by decide +kernel
theorem dX7_chooseLettuces_58 : decode cX7_chooseLettuces 58 = .ok (.getfield 39, 3) := by decide +kernel
theorem dX7_chooseLettuces_61 : decode cX7_chooseLettuces 61 = .ok (.invokevirtual 153, 3) := by decide +kernel
theorem dX7_chooseLettuces_64 : decode cX7_chooseLettuces 64 = .ok (.iload_n 1, 1) := by decide +kernel
theorem dX7_chooseLettuces_65 : decode cX7_chooseLettuces 65 = .ok (.iload_n 2, 1) := by decide +kernel
theorem dX7_chooseLettuces_66 : decode cX7_chooseLettuces 66 = .ok (.invokestatic 223, 3) := by decide +kernel
theorem dX7_chooseLettuces_69 : decode cX7_chooseLettuces 69 = .ok (.ifCond .eq 5, 3) := by decide +kernel
theorem dX7_chooseLettuces_72 : decode cX7_chooseLettuces 72 = .ok (.iconst 1, 1) := by decide +kernel
theorem dX7_chooseLettuces_73 : decode cX7_chooseLettuces 73 = .ok (.ireturn, 1) := by decide +kernel
theorem dX7_chooseLettuces_74 : decode cX7_chooseLettuces 74 = .ok (.iinc 3 1, 3) := by decide +kernel
theorem dX7_chooseLettuces_77 : decode cX7_chooseLettuces 77 = .ok (.goto (-46), 3) := by decide +kernel
theorem dX7_chooseLettuces_80 : decode cX7_chooseLettuces 80 = .ok (.iconst 0, 1) := by decide +kernel
theorem dX7_chooseLettuces_81 : decode cX7_chooseLettuces 81 = .ok (.istore_n 3, 1) := by decide +kernel
theorem dX7_chooseLettuces_82 : decode cX7_chooseLettuces 82 = .ok (.iload_n 3, 1) := by decide +kernel
theorem dX7_chooseLettuces_83 : decode cX7_chooseLettuces 83 = .ok (.aload_n 0, 1) := by decide +kernel
theorem dX7_chooseLettuces_84 : decode cX7_chooseLettuces 84 = .ok (.getfield 68, 3) := by decide +kernel
theorem dX7_chooseLettuces_87 : decode cX7_chooseLettuces 87 = .ok (.getfield 106, 3) := by decide +kernel
theorem dX7_chooseLettuces_90 : decode cX7_chooseLettuces 90 = .ok (.if_icmp .ge 74, 3) := by decide +kernel
theorem dX7_chooseLettuces_93 : decode cX7_chooseLettuces 93 = .ok (.iload_n 3, 1) := by decide +kernel
theorem dX7_chooseLettuces_94 : decode cX7_chooseLettuces 94 = .ok (.iconst 1, 1) := by decide +kernel
theorem dX7_chooseLettuces_95 : decode cX7_chooseLettuces 95 = .ok (.iadd, 1) := by decide +kernel
theorem dX7_chooseLettuces_96 : decode cX7_chooseLettuces 96 = .ok (.istore 4, 2) := by decide +kernel
theorem dX7_chooseLettuces_98 : decode cX7_chooseLettuces 98 = .ok (.iload 4, 2) := by decide +kernel
theorem dX7_chooseLettuces_100 : decode cX7_chooseLettuces 100 = .ok (.aload_n 0, 1) := by decide +kernel
theorem dX7_chooseLettuces_101 : decode cX7_chooseLettuces 101 = .ok (.getfield 68, 3) := by decide +kernel
theorem dX7_chooseLettuces_104 : decode cX7_chooseLettuces 104 = .ok (.getfield 106, 3) := by decide +kernel
theorem dX7_chooseLettuces_107 : decode cX7_chooseLettuces 107 = .ok (.if_icmp .ge 51, 3) := by decide +kernel
theorem dX7_chooseLettuces_110 : decode cX7_chooseLettuces 110 = .ok (.aload_n 0, 1) := by decide +kernel
theorem dX7_chooseLettuces_111 : decode cX7_chooseLettuces 111 = .ok (.iload_n 3, 1) := by decide +kernel
theorem dX7_chooseLettuces_112 : decode cX7_chooseLettuces 112 = .ok (.invokevirtual 133, 3) := by decide +kernel
theorem dX7_chooseLettuces_115 : decode cX7_chooseLettuces 115 = .ok (.ifCond .eq 37, 3) := by decide +kernel
theorem dX7_chooseLettuces_118 : decode cX7_chooseLettuces 118 = .ok (.aload_n 0, 1) := by decide +kernel
theorem dX7_chooseLettuces_119 : decode cX7_chooseLettuces 119 = .ok (.iload 4, 2) := by decide +kernel
theorem dX7_chooseLettuces_121 : decode cX7_chooseLettuces 121 = .ok (.invokevirtual 133, 3) := by decide +kernel
theorem dX7_chooseLettuces_124 : decode cX7_chooseLettuces 124 = .ok (.ifCond .eq 28, 3) := by decide +kernel
theorem dX7_chooseLettuces_127 : decode cX7_chooseLettuces 127 = .ok (.aload_n 0, 1) := by decide +kernel
theorem dX7_chooseLettuces_128 : decode cX7_chooseLettuces 128 = .ok (.iload_n 3, 1) := by decide +kernel
theorem dX7_chooseLettuces_129 : decode cX7_chooseLettuces 129 = .ok (.iload 4, 2) := by decide +kernel
theorem dX7_chooseLettuces_131 : decode cX7_chooseLettuces 131 = .ok (.invokevirtual 227, 3) := by decide +kernel
theorem dX7_chooseLettuces_134 : decode cX7_chooseLettuces 134 = .ok (.aload_n 0, 1) := by decide +kernel
theorem dX7_chooseLettuces_135 : decode cX7_chooseLettuces 135 = .ok (.aload_n 0, 1) := by decide +kernel
theorem dX7_chooseLettuces_136 : decode cX7_chooseLettuces 136 = .ok (.getfield 39, 3) := by decide +kernel
theorem dX7_chooseLettuces_139 : decode cX7_chooseLettuces 139 = .ok (.invokevirtual 153, 3) := by decide +kernel
theorem dX7_chooseLettuces_142 : decode cX7_chooseLettuces 142 = .ok (.iload_n 1, 1) := by decide +kernel
theorem dX7_chooseLettuces_143 : decode cX7_chooseLettuces 143 = .ok (.iload_n 2, 1) := by decide +kernel
theorem dX7_chooseLettuces_144 : decode cX7_chooseLettuces 144 = .ok (.invokestatic 223, 3) := by decide +kernel
theorem dX7_chooseLettuces_147 : decode cX7_chooseLettuces 147 = .ok (.ifCond .eq 5, 3) := by decide +kernel
theorem dX7_chooseLettuces_150 : decode cX7_chooseLettuces 150 = .ok (.iconst 2, 1) := by decide +kernel
theorem dX7_chooseLettuces_151 : decode cX7_chooseLettuces 151 = .ok (.ireturn, 1) := by decide +kernel
theorem dX7_chooseLettuces_152 : decode cX7_chooseLettuces 152 = .ok (.iinc 4 1, 3) := by decide +kernel
theorem dX7_chooseLettuces_155 : decode cX7_chooseLettuces 155 = .ok (.goto (-57), 3) := by decide +kernel
theorem dX7_chooseLettuces_158 : decode cX7_chooseLettuces 158 = .ok (.iinc 3 1, 3) := by decide +kernel
theorem dX7_chooseLettuces_161 : decode cX7_chooseLettuces 161 = .ok (.goto (-79), 3) := by decide +kernel
theorem dX7_chooseLettuces_164 : decode cX7_chooseLettuces 164 = .ok (.bipush (-4), 2) := by decide +kernel
theorem dX7_chooseLettuces_166 : decode cX7_chooseLettuces 166 = .ok (.ireturn, 1) := by decide +kernel
set_option maxRecDepth 20000 in
theorem ggX7_tryLettuces_X3_become : GoodIn wsX7_tryLettuces wsX3_become := goodIn_r _ [8, 9, 10, 11, 12, 13, 14, 15, 16, 32, 33, 34, 35] (by decide +kernel) (by decide +kernel)
set_option maxRecDepth 20000 in
theorem gX7_tryLettuces_X3_become : GoodIn wsX7_tryLettuces (wsV RX7 150 RX3 yX3_become wsX3_become) := goodIn_app (goodIn_of _ (by decide +kernel)) ggX7_tryLettuces_X3_become
set_option maxRecDepth 20000 in
theorem ggX7_tryLettuces_X3_setKind : GoodIn wsX7_tryLettuces wsX3_setKind := goodIn_r _ [20, 9, 32, 33, 34, 35] (by decide +kernel) (by decide +kernel)
set_option maxRecDepth 20000 in
theorem gX7_tryLettuces_X3_setKind : GoodIn wsX7_tryLettuces (wsV RX7 136 RX3 yX3_setKind wsX3_setKind) := goodIn_app (goodIn_of _ (by decide +kernel)) ggX7_tryLettuces_X3_setKind
theorem dX7_tryLettuces_0 : decode cX7_tryLettuces 0 = .ok (.aload_n 0, 1) := by decide +kernel
theorem dX7_tryLettuces_1 : decode cX7_tryLettuces 1 = .ok (.getfield 61, 3) := by decide +kernel
theorem dX7_tryLettuces_4 : decode cX7_tryLettuces 4 = .ok (.iconst 0, 1) := by decide +kernel
theorem dX7_tryLettuces_5 : decode cX7_tryLettuces 5 = .ok (.iload_n 1, 1) := by decide +kernel
theorem dX7_tryLettuces_6 : decode cX7_tryLettuces 6 = .ok (.iastore, 1) := by decide +kernel
theorem dX7_tryLettuces_7 : decode cX7_tryLettuces 7 = .ok (.aload_n 0, 1) := by decide +kernel
theorem dX7_tryLettuces_8 : decode cX7_tryLettuces 8 = .ok (.getfield 61, 3) := by decide +kernel
theorem dX7_tryLettuces_11 : decode cX7_tryLettuces 11 = .ok (.iconst 1, 1) := by decide +kernel
theorem dX7_tryLettuces_12 : decode cX7_tryLettuces 12 = .ok (.iload_n 2, 1) := by decide +kernel
theorem dX7_tryLettuces_13 : decode cX7_tryLettuces 13 = .ok (.iastore, 1) := by decide +kernel
theorem dX7_tryLettuces_14 : decode cX7_tryLettuces 14 = .ok (.aload_n 0, 1) := by decide +kernel
theorem dX7_tryLettuces_15 : decode cX7_tryLettuces 15 = .ok (.getfield 39, 3) := by decide +kernel
theorem dX7_tryLettuces_18 : decode cX7_tryLettuces 18 = .ok (.aload_n 0, 1) := by decide +kernel
theorem dX7_tryLettuces_19 : decode cX7_tryLettuces 19 = .ok (.getfield 35, 3) := by decide +kernel
theorem dX7_tryLettuces_22 : decode cX7_tryLettuces 22 = .ok (.invokevirtual 150, 3) := by decide +kernel
theorem dX7_tryLettuces_25 : decode cX7_tryLettuces 25 = .ok (.aload_n 0, 1) := by decide +kernel
theorem dX7_tryLettuces_26 : decode cX7_tryLettuces 26 = .ok (.getfield 39, 3) := by decide +kernel
theorem dX7_tryLettuces_29 : decode cX7_tryLettuces 29 = .ok (.iload_n 1, 1) := by decide +kernel
theorem dX7_tryLettuces_30 : decode cX7_tryLettuces 30 = .ok (.iconst 3, 1) := by decide +kernel
theorem dX7_tryLettuces_31 : decode cX7_tryLettuces 31 = .ok (.invokevirtual 136, 3) := by decide +kernel
theorem dX7_tryLettuces_34 : decode cX7_tryLettuces 34 = .ok (.aload_n 0, 1) := by decide +kernel
theorem dX7_tryLettuces_35 : decode cX7_tryLettuces 35 = .ok (.getfield 39, 3) := by decide +kernel
theorem dX7_tryLettuces_38 : decode cX7_tryLettuces 38 = .ok (.iload_n 2, 1) := by decide +kernel
theorem dX7_tryLettuces_39 : decode cX7_tryLettuces 39 = .ok (.iconst 3, 1) := by decide +kernel
theorem dX7_tryLettuces_40 : decode cX7_tryLettuces 40 = .ok (.invokevirtual 136, 3) := by decide +kernel
theorem dX7_tryLettuces_43 : decode cX7_tryLettuces 43 = .ok (.return_, 1) := by decide +kernel
theorem dX7_isWithin_0 : decode cX7_isWithin 0 = .ok (.iload_n 0, 1) := by decide +kernel
theorem dX7_isWithin_1 : decode cX7_isWithin 1 = .ok (.iload_n 1, 1) := by decide +kernel
theorem dX7_isWithin_2 : decode cX7_isWithin 2 = .ok (.if_icmp .lt 12, 3) := by decide +kernel
theorem dX7_isWithin_5 : decode cX7_isWithin 5 = .ok (.iload_n 0, 1) := by decide +kernel
theorem dX7_isWithin_6 : decode cX7_isWithin 6 = .ok (.iload_n 2, 1) := by decide +kernel
theorem dX7_isWithin_7 : decode cX7_isWithin 7 = .ok (.if_icmp .gt 7, 3) := by decide +kernel
theorem dX7_isWithin_10 : decode cX7_isWithin 10 = .ok (.iconst 1, 1) := by decide +kernel
theorem dX7_isWithin_11 : decode cX7_isWithin 11 = .ok (.goto 4, 3) := by decide +kernel
theorem dX7_isWithin_14 : decode cX7_isWithin 14 = .ok (.iconst 0, 1) := by decide +kernel
theorem dX7_isWithin_15 : decode cX7_isWithin 15 = .ok (.ireturn, 1) := by decide +kernel
set_option maxRecDepth 20000 in
theorem ggX7_agreesIfSalted_X3_setOut : GoodIn wsX7_agreesIfSalted wsX3_setOut := goodIn_r _ [9, 10, 11, 12, 13, 14, 15, 16, 17, 104, 105, 106, 107, 108, 109, 110, 111, 112, 113, 114, 115, 116, 100, 101, 102, 103] (by decide +kernel) (by decide +kernel)
set_option maxRecDepth 20000 in
theorem gX7_agreesIfSalted_X3_setOut : GoodIn wsX7_agreesIfSalted (wsV RX7 98 RX3 yX3_setOut wsX3_setOut) := goodIn_app (goodIn_of _ (by decide +kernel)) ggX7_agreesIfSalted_X3_setOut
set_option maxRecDepth 20000 in
theorem ggX7_agreesIfSalted_X3_setKind : GoodIn wsX7_agreesIfSalted wsX3_setKind := goodIn_r _ [21, 10, 100, 101, 102, 103] (by decide +kernel) (by decide +kernel)
set_option maxRecDepth 20000 in
theorem gX7_agreesIfSalted_X3_setKind : GoodIn wsX7_agreesIfSalted (wsV RX7 136 RX3 yX3_setKind wsX3_setKind) := goodIn_app (goodIn_of _ (by decide +kernel)) ggX7_agreesIfSalted_X3_setKind
set_option maxRecDepth 20000 in
theorem ggX7_agreesIfSalted_X4_agree : GoodIn wsX7_agreesIfSalted wsX4_agree := goodIn_r _ [26, 27, 28, 29, 117, 118, 119] (by decide +kernel) (by decide +kernel)
set_option maxRecDepth 20000 in
theorem gX7_agreesIfSalted_X4_agree : GoodIn wsX7_agreesIfSalted (wsV RX7 230 RX4 yX4_agree wsX4_agree) := goodIn_app (goodIn_of _ (by decide +kernel)) ggX7_agreesIfSalted_X4_agree
set_option maxRecDepth 20000 in
theorem ggX7_agreesIfSalted_X6_dampOn : GoodIn wsX7_agreesIfSalted wsX6_dampOn := goodIn_r _ [34, 35, 36, 104, 105, 106, 107, 108, 109, 110, 111, 112, 113, 114, 115, 116] (by decide +kernel) (by decide +kernel)
set_option maxRecDepth 20000 in
theorem gX7_agreesIfSalted_X6_dampOn : GoodIn wsX7_agreesIfSalted (wsV RX7 119 RX6 yX6_dampOn wsX6_dampOn) := goodIn_app (goodIn_of _ (by decide +kernel)) ggX7_agreesIfSalted_X6_dampOn
set_option maxRecDepth 20000 in
theorem ggX7_agreesIfSalted_X5_goNight : GoodIn wsX7_agreesIfSalted wsX5_goNight := goodIn_r _ [41, 42, 43, 44, 8, 45, 17, 46, 47, 48, 40, 49, 50, 51, 52, 53, 54, 55, 56, 57, 58, 59, 60, 61, 33, 62, 63, 64, 65, 66, 67, 10, 68, 69, 70, 71, 72, 73, 74, 75, 76, 77, 78, 79, 80, 81, 82, 83, 84, 85, 86, 87, 88, 19, 20, 21, 100, 101, 102, 103, 120, 121, 104, 105, 106, 107, 108, 109, 110, 111, 112, 113, 114, 115, 116] (by decide +kernel) (by decide +kernel)
set_option maxRecDepth 20000 in
theorem gX7_agreesIfSalted_X5_goNight : GoodIn wsX7_agreesIfSalted (wsV RX7 186 RX5 yX5_goNight wsX5_goNight) := goodIn_app (goodIn_of _ (by decide +kernel)) ggX7_agreesIfSalted_X5_goNight
theorem dX7_agreesIfSalted_0 : decode cX7_agreesIfSalted 0 = .ok (.aload_n 0, 1) := by decide +kernel
theorem dX7_agreesIfSalted_1 : decode cX7_agreesIfSalted 1 = .ok (.getfield 39, 3) := by decide +kernel
theorem dX7_agreesIfSalted_4 : decode cX7_agreesIfSalted 4 = .ok (.aload_n 0, 1) := by decide +kernel
theorem dX7_agreesIfSalted_5 : decode cX7_agreesIfSalted 5 = .ok (.getfield 68, 3) := by decide +kernel
theorem dX7_agreesIfSalted_8 : decode cX7_agreesIfSalted 8 = .ok (.invokevirtual 98, 3) := by decide +kernel
theorem dX7_agreesIfSalted_11 : decode cX7_agreesIfSalted 11 = .ok (.aload_n 0, 1) := by decide +kernel
theorem dX7_agreesIfSalted_12 : decode cX7_agreesIfSalted 12 = .ok (.getfield 39, 3) := by decide +kernel
theorem dX7_agreesIfSalted_15 : decode cX7_agreesIfSalted 15 = .ok (.iload_n 1, 1) := by decide +kernel
theorem dX7_agreesIfSalted_16 : decode cX7_agreesIfSalted 16 = .ok (.iconst 2, 1) := by decide +kernel
theorem dX7_agreesIfSalted_17 : decode cX7_agreesIfSalted 17 = .ok (.invokevirtual 136, 3) := by decide +kernel
theorem dX7_agreesIfSalted_20 : decode cX7_agreesIfSalted 20 = .ok (.aload_n 0, 1) := by decide +kernel
theorem dX7_agreesIfSalted_21 : decode cX7_agreesIfSalted 21 = .ok (.getfield 57, 3) := by decide +kernel
theorem dX7_agreesIfSalted_24 : decode cX7_agreesIfSalted 24 = .ok (.aload_n 0, 1) := by decide +kernel
theorem dX7_agreesIfSalted_25 : decode cX7_agreesIfSalted 25 = .ok (.getfield 39, 3) := by decide +kernel
theorem dX7_agreesIfSalted_28 : decode cX7_agreesIfSalted 28 = .ok (.getfield 143, 3) := by decide +kernel
theorem dX7_agreesIfSalted_31 : decode cX7_agreesIfSalted 31 = .ok (.iconst 0, 1) := by decide +kernel
theorem dX7_agreesIfSalted_32 : decode cX7_agreesIfSalted 32 = .ok (.invokevirtual 230, 3) := by decide +kernel
theorem dX7_agreesIfSalted_35 : decode cX7_agreesIfSalted 35 = .ok (.istore_n 2, 1) := by decide +kernel
theorem dX7_agreesIfSalted_36 : decode cX7_agreesIfSalted 36 = .ok (.iconst 1, 1) := by decide +kernel
theorem dX7_agreesIfSalted_37 : decode cX7_agreesIfSalted 37 = .ok (.istore_n 3, 1) := by decide +kernel
theorem dX7_agreesIfSalted_38 : decode cX7_agreesIfSalted 38 = .ok (.iload_n 2, 1) := by decide +kernel
theorem dX7_agreesIfSalted_39 : decode cX7_agreesIfSalted 39 = .ok (.ifCond .eq 57, 3) := by decide +kernel
theorem dX7_agreesIfSalted_42 : decode cX7_agreesIfSalted 42 = .ok (.iload_n 3, 1) := by decide +kernel
theorem dX7_agreesIfSalted_43 : decode cX7_agreesIfSalted 43 = .ok (.bipush 30, 2) := by decide +kernel
theorem dX7_agreesIfSalted_45 : decode cX7_agreesIfSalted 45 = .ok (.if_icmp .gt 51, 3) := by decide +kernel
theorem dX7_agreesIfSalted_48 : decode cX7_agreesIfSalted 48 = .ok (.aload_n 0, 1) := by decide +kernel
theorem dX7_agreesIfSalted_49 : decode cX7_agreesIfSalted 49 = .ok (.getfield 28, 3) := by decide +kernel
theorem dX7_agreesIfSalted_52 : decode cX7_agreesIfSalted 52 = .ok (.aload_n 0, 1) := by decide +kernel
theorem dX7_agreesIfSalted_53 : decode cX7_agreesIfSalted 53 = .ok (.getfield 68, 3) := by decide +kernel
theorem dX7_agreesIfSalted_56 : decode cX7_agreesIfSalted 56 = .ok (.aload_n 0, 1) := by decide +kernel
theorem dX7_agreesIfSalted_57 : decode cX7_agreesIfSalted 57 = .ok (.getfield 39, 3) := by decide +kernel
theorem dX7_agreesIfSalted_60 : decode cX7_agreesIfSalted 60 = .ok (.aload_n 0, 1) := by decide +kernel
theorem dX7_agreesIfSalted_61 : decode cX7_agreesIfSalted 61 = .ok (.getfield 68, 3) := by decide +kernel
theorem dX7_agreesIfSalted_64 : decode cX7_agreesIfSalted 64 = .ok (.iload_n 3, 1) := by decide +kernel
theorem dX7_agreesIfSalted_65 : decode cX7_agreesIfSalted 65 = .ok (.iconst 1, 1) := by decide +kernel
theorem dX7_agreesIfSalted_66 : decode cX7_agreesIfSalted 66 = .ok (.isub, 1) := by decide +kernel
theorem dX7_agreesIfSalted_67 : decode cX7_agreesIfSalted 67 = .ok (.invokevirtual 119, 3) := by decide +kernel
theorem dX7_agreesIfSalted_70 : decode cX7_agreesIfSalted 70 = .ok (.invokevirtual 186, 3) := by decide +kernel
theorem dX7_agreesIfSalted_73 : decode cX7_agreesIfSalted 73 = .ok (.pop, 1) := by decide +kernel
theorem dX7_agreesIfSalted_74 : decode cX7_agreesIfSalted 74 = .ok (.aload_n 0, 1) := by decide +kernel
theorem dX7_agreesIfSalted_75 : decode cX7_agreesIfSalted 75 = .ok (.getfield 57, 3) := by decide +kernel
theorem dX7_agreesIfSalted_78 : decode cX7_agreesIfSalted 78 = .ok (.aload_n 0, 1) := by decide +kernel
theorem dX7_agreesIfSalted_79 : decode cX7_agreesIfSalted 79 = .ok (.getfield 39, 3) := by decide +kernel
theorem dX7_agreesIfSalted_82 : decode cX7_agreesIfSalted 82 = .ok (.getfield 143, 3) := by decide +kernel
theorem dX7_agreesIfSalted_85 : decode cX7_agreesIfSalted 85 = .ok (.iload_n 3, 1) := by decide +kernel
theorem dX7_agreesIfSalted_86 : decode cX7_agreesIfSalted 86 = .ok (.invokevirtual 230, 3) := by decide +kernel
theorem dX7_agreesIfSalted_89 : decode cX7_agreesIfSalted 89 = .ok (.istore_n 2, 1) := by decide +kernel
theorem dX7_agreesIfSalted_90 : decode cX7_agreesIfSalted 90 = .ok (.iinc 3 1, 3) := by decide +kernel
theorem dX7_agreesIfSalted_93 : decode cX7_agreesIfSalted 93 = .ok (.goto (-55), 3) := by decide +kernel
theorem dX7_agreesIfSalted_96 : decode cX7_agreesIfSalted 96 = .ok (.iload_n 2, 1) := by decide +kernel
theorem dX7_agreesIfSalted_97 : decode cX7_agreesIfSalted 97 = .ok (.ireturn, 1) := by decide +kernel
theorem dX7_isNoChance_0 : decode cX7_isNoChance 0 = .ok (.iload_n 0, 1) := by decide +kernel
theorem dX7_isNoChance_1 : decode cX7_isNoChance 1 = .ok (.ifCond .lt 19, 3) := by decide +kernel
theorem dX7_isNoChance_4 : decode cX7_isNoChance 4 = .ok (.iload_n 0, 1) := by decide +kernel
theorem dX7_isNoChance_5 : decode cX7_isNoChance 5 = .ok (.bipush 6, 2) := by decide +kernel
theorem dX7_isNoChance_7 : decode cX7_isNoChance 7 = .ok (.if_icmp .gt 13, 3) := by decide +kernel
theorem dX7_isNoChance_10 : decode cX7_isNoChance 10 = .ok (.iload_n 1, 1) := by decide +kernel
theorem dX7_isNoChance_11 : decode cX7_isNoChance 11 = .ok (.ifCond .lt 9, 3) := by decide +kernel
theorem dX7_isNoChance_14 : decode cX7_isNoChance 14 = .ok (.iload_n 1, 1) := by decide +kernel
theorem dX7_isNoChance_15 : decode cX7_isNoChance 15 = .ok (.bipush 10, 2) := by decide +kernel
theorem dX7_isNoChance_17 : decode cX7_isNoChance 17 = .ok (.if_icmp .le 7, 3) := by decide +kernel
theorem dX7_isNoChance_20 : decode cX7_isNoChance 20 = .ok (.iconst 1, 1) := by decide +kernel
theorem dX7_isNoChance_21 : decode cX7_isNoChance 21 = .ok (.goto 4, 3) := by decide +kernel
theorem dX7_isNoChance_24 : decode cX7_isNoChance 24 = .ok (.iconst 0, 1) := by decide +kernel
theorem dX7_isNoChance_25 : decode cX7_isNoChance 25 = .ok (.ireturn, 1) := by decide +kernel
set_option maxRecDepth 20000 in
theorem ggX7_waysToBegin_X3_become : GoodIn wsX7_waysToBegin wsX3_become := goodIn_r _ [9, 10, 11, 12, 13, 14, 15, 16, 17, 92, 93, 94, 95] (by decide +kernel) (by decide +kernel)
set_option maxRecDepth 20000 in
theorem gX7_waysToBegin_X3_become : GoodIn wsX7_waysToBegin (wsV RX7 150 RX3 yX3_become wsX3_become) := goodIn_app (goodIn_of _ (by decide +kernel)) ggX7_waysToBegin_X3_become
set_option maxRecDepth 20000 in
theorem ggX7_waysToBegin_X3_hasBegun : GoodIn wsX7_waysToBegin wsX3_hasBegun := goodIn_r _ [21, 17, 92, 93, 94, 95] (by decide +kernel) (by decide +kernel)
set_option maxRecDepth 20000 in
theorem gX7_waysToBegin_X3_hasBegun : GoodIn wsX7_waysToBegin (wsV RX7 207 RX3 yX3_hasBegun wsX3_hasBegun) := goodIn_app (goodIn_of _ (by decide +kernel)) ggX7_waysToBegin_X3_hasBegun
set_option maxRecDepth 20000 in
theorem ggX7_waysToBegin_X7_choices : GoodIn wsX7_waysToBegin wsX7_choices := goodIn_r _ [25] (by decide +kernel) (by decide +kernel)
set_option maxRecDepth 20000 in
theorem gX7_waysToBegin_X7_choices : GoodIn wsX7_waysToBegin (va_wsS RX7 233 yX7_choices wsX7_choices) := goodIn_app (goodIn_of _ (by decide +kernel)) ggX7_waysToBegin_X7_choices
set_option maxRecDepth 20000 in
theorem ggX7_waysToBegin_X7_power : GoodIn wsX7_waysToBegin wsX7_power := goodIn_r _ [28] (by decide +kernel) (by decide +kernel)
set_option maxRecDepth 20000 in
theorem gX7_waysToBegin_X7_power : GoodIn wsX7_waysToBegin (va_wsS RX7 196 yX7_power wsX7_power) := goodIn_app (goodIn_of _ (by decide +kernel)) ggX7_waysToBegin_X7_power
set_option maxRecDepth 20000 in
theorem ggX7_waysToBegin_X5_goNight : GoodIn wsX7_waysToBegin wsX5_goNight := goodIn_r _ [33, 34, 19, 20, 8, 21, 17, 35, 36, 37, 32, 38, 39, 40, 41, 42, 43, 44, 45, 46, 47, 48, 49, 50, 51, 52, 53, 54, 55, 56, 57, 10, 58, 24, 59, 60, 61, 62, 63, 64, 65, 66, 67, 68, 69, 70, 71, 72, 73, 74, 75, 76, 77, 78, 79, 80, 92, 93, 94, 95, 96, 97, 98, 99, 100, 101, 102, 103, 104, 105, 106, 107, 108, 109, 110] (by decide +kernel) (by decide +kernel)
set_option maxRecDepth 20000 in
theorem gX7_waysToBegin_X5_goNight : GoodIn wsX7_waysToBegin (wsV RX7 186 RX5 yX5_goNight wsX5_goNight) := goodIn_app (goodIn_of _ (by decide +kernel)) ggX7_waysToBegin_X5_goNight
theorem dX7_waysToBegin_0 : decode cX7_waysToBegin 0 = .ok (.aload_n 0, 1) := by decide +kernel
theorem dX7_waysToBegin_1 : decode cX7_waysToBegin 1 = .ok (.getfield 39, 3) := by decide +kernel
theorem dX7_waysToBegin_4 : decode cX7_waysToBegin 4 = .ok (.aload_n 0, 1) := by decide +kernel
theorem dX7_waysToBegin_5 : decode cX7_waysToBegin 5 = .ok (.getfield 35, 3) := by decide +kernel
theorem dX7_waysToBegin_8 : decode cX7_waysToBegin 8 = .ok (.invokevirtual 150, 3) := by decide +kernel
theorem dX7_waysToBegin_11 : decode cX7_waysToBegin 11 = .ok (.iconst 0, 1) := by decide +kernel
theorem dX7_waysToBegin_12 : decode cX7_waysToBegin 12 = .ok (.istore_n 3, 1) := by decide +kernel
theorem dX7_waysToBegin_13 : decode cX7_waysToBegin 13 = .ok (.iconst 0, 1) := by decide +kernel
theorem dX7_waysToBegin_14 : decode cX7_waysToBegin 14 = .ok (.istore 4, 2) := by decide +kernel
theorem dX7_waysToBegin_16 : decode cX7_waysToBegin 16 = .ok (.iload 4, 2) := by decide +kernel
theorem dX7_waysToBegin_18 : decode cX7_waysToBegin 18 = .ok (.iload_n 1, 1) := by decide +kernel
theorem dX7_waysToBegin_19 : decode cX7_waysToBegin 19 = .ok (.if_icmp .gt 65, 3) := by decide +kernel
theorem dX7_waysToBegin_22 : decode cX7_waysToBegin 22 = .ok (.aload_n 0, 1) := by decide +kernel
theorem dX7_waysToBegin_23 : decode cX7_waysToBegin 23 = .ok (.getfield 39, 3) := by decide +kernel
theorem dX7_waysToBegin_26 : decode cX7_waysToBegin 26 = .ok (.invokevirtual 207, 3) := by decide +kernel
theorem dX7_waysToBegin_29 : decode cX7_waysToBegin 29 = .ok (.ifCond .eq 31, 3) := by decide +kernel
theorem dX7_waysToBegin_32 : decode cX7_waysToBegin 32 = .ok (.iload_n 3, 1) := by decide +kernel
theorem dX7_waysToBegin_33 : decode cX7_waysToBegin 33 = .ok (.iload_n 1, 1) := by decide +kernel
theorem dX7_waysToBegin_34 : decode cX7_waysToBegin 34 = .ok (.iload 4, 2) := by decide +kernel
theorem dX7_waysToBegin_36 : decode cX7_waysToBegin 36 = .ok (.invokestatic 233, 3) := by decide +kernel
theorem dX7_waysToBegin_39 : decode cX7_waysToBegin 39 = .ok (.iload_n 2, 1) := by decide +kernel
theorem dX7_waysToBegin_40 : decode cX7_waysToBegin 40 = .ok (.iload 4, 2) := by decide +kernel
theorem dX7_waysToBegin_42 : decode cX7_waysToBegin 42 = .ok (.invokestatic 196, 3) := by decide +kernel
theorem dX7_waysToBegin_45 : decode cX7_waysToBegin 45 = .ok (.imul, 1) := by decide +kernel
theorem dX7_waysToBegin_46 : decode cX7_waysToBegin 46 = .ok (.bipush 10, 2) := by decide +kernel
theorem dX7_waysToBegin_48 : decode cX7_waysToBegin 48 = .ok (.iload_n 2, 1) := by decide +kernel
theorem dX7_waysToBegin_49 : decode cX7_waysToBegin 49 = .ok (.isub, 1) := by decide +kernel
theorem dX7_waysToBegin_50 : decode cX7_waysToBegin 50 = .ok (.iload_n 1, 1) := by decide +kernel
theorem dX7_waysToBegin_51 : decode cX7_waysToBegin 51 = .ok (.iload 4, 2) := by decide +kernel
theorem dX7_waysToBegin_53 : decode cX7_waysToBegin 53 = .ok (.isub, 1) := by decide +kernel
theorem dX7_waysToBegin_54 : decode cX7_waysToBegin 54 = .ok (.invokestatic 196, 3) := by decide +kernel
theorem dX7_waysToBegin_57 : decode cX7_waysToBegin 57 = .ok (.imul, 1) := by decide +kernel
theorem dX7_waysToBegin_58 : decode cX7_waysToBegin 58 = .ok (.iadd, 1) := by decide +kernel
theorem dX7_waysToBegin_59 : decode cX7_waysToBegin 59 = .ok (.istore_n 3, 1) := by decide +kernel
theorem dX7_waysToBegin_60 : decode cX7_waysToBegin 60 = .ok (.aload_n 0, 1) := by decide +kernel
theorem dX7_waysToBegin_61 : decode cX7_waysToBegin 61 = .ok (.getfield 28, 3) := by decide +kernel
theorem dX7_waysToBegin_64 : decode cX7_waysToBegin 64 = .ok (.aload_n 0, 1) := by decide +kernel
theorem dX7_waysToBegin_65 : decode cX7_waysToBegin 65 = .ok (.getfield 68, 3) := by decide +kernel
theorem dX7_waysToBegin_68 : decode cX7_waysToBegin 68 = .ok (.aload_n 0, 1) := by decide +kernel
theorem dX7_waysToBegin_69 : decode cX7_waysToBegin 69 = .ok (.getfield 39, 3) := by decide +kernel
theorem dX7_waysToBegin_72 : decode cX7_waysToBegin 72 = .ok (.bipush 6, 2) := by decide +kernel
theorem dX7_waysToBegin_74 : decode cX7_waysToBegin 74 = .ok (.invokevirtual 186, 3) := by decide +kernel
theorem dX7_waysToBegin_77 : decode cX7_waysToBegin 77 = .ok (.pop, 1) := by decide +kernel
theorem dX7_waysToBegin_78 : decode cX7_waysToBegin 78 = .ok (.iinc 4 1, 3) := by decide +kernel
theorem dX7_waysToBegin_81 : decode cX7_waysToBegin 81 = .ok (.goto (-65), 3) := by decide +kernel
theorem dX7_waysToBegin_84 : decode cX7_waysToBegin 84 = .ok (.iload_n 3, 1) := by decide +kernel
theorem dX7_waysToBegin_85 : decode cX7_waysToBegin 85 = .ok (.ireturn, 1) := by decide +kernel
theorem dX7_choices_0 : decode cX7_choices 0 = .ok (.iconst 1, 1) := by decide +kernel
theorem dX7_choices_1 : decode cX7_choices 1 = .ok (.istore_n 2, 1) := by decide +kernel
theorem dX7_choices_2 : decode cX7_choices 2 = .ok (.iconst 1, 1) := by decide +kernel
theorem dX7_choices_3 : decode cX7_choices 3 = .ok (.istore_n 3, 1) := by decide +kernel
theorem dX7_choices_4 : decode cX7_choices 4 = .ok (.iload_n 3, 1) := by decide +kernel
theorem dX7_choices_5 : decode cX7_choices 5 = .ok (.iload_n 1, 1) := by decide +kernel
theorem dX7_choices_6 : decode cX7_choices 6 = .ok (.if_icmp .gt 19, 3) := by decide +kernel
theorem dX7_choices_9 : decode cX7_choices 9 = .ok (.iload_n 2, 1) := by decide +kernel
theorem dX7_choices_10 : decode cX7_choices 10 = .ok (.iload_n 0, 1) := by decide +kernel
theorem dX7_choices_11 : decode cX7_choices 11 = .ok (.iload_n 3, 1) := by decide +kernel
theorem dX7_choices_12 : decode cX7_choices 12 = .ok (.isub, 1) := by decide +kernel
theorem dX7_choices_13 : decode cX7_choices 13 = .ok (.iconst 1, 1) := by decide +kernel
theorem dX7_choices_14 : decode cX7_choices 14 = .ok (.iadd, 1) := by decide +kernel
theorem dX7_choices_15 : decode cX7_choices 15 = .ok (.imul, 1) := by decide +kernel
theorem dX7_choices_16 : decode cX7_choices 16 = .ok (.iload_n 3, 1) := by decide +kernel
theorem dX7_choices_17 : decode cX7_choices 17 = .ok (.idiv, 1) := by decide +kernel
theorem dX7_choices_18 : decode cX7_choices 18 = .ok (.istore_n 2, 1) := by decide +kernel
theorem dX7_choices_19 : decode cX7_choices 19 = .ok (.iinc 3 1, 3) := by decide +kernel
theorem dX7_choices_22 : decode cX7_choices 22 = .ok (.goto (-18), 3) := by decide +kernel
theorem dX7_choices_25 : decode cX7_choices 25 = .ok (.iload_n 2, 1) := by decide +kernel
theorem dX7_choices_26 : decode cX7_choices 26 = .ok (.ireturn, 1) := by decide +kernel
theorem dX7_power_0 : decode cX7_power 0 = .ok (.iconst 1, 1) := by decide +kernel
theorem dX7_power_1 : decode cX7_power 1 = .ok (.istore_n 2, 1) := by decide +kernel
theorem dX7_power_2 : decode cX7_power 2 = .ok (.iconst 0, 1) := by decide +kernel
theorem dX7_power_3 : decode cX7_power 3 = .ok (.istore_n 3, 1) := by decide +kernel
theorem dX7_power_4 : decode cX7_power 4 = .ok (.iload_n 3, 1) := by decide +kernel
theorem dX7_power_5 : decode cX7_power 5 = .ok (.iload_n 1, 1) := by decide +kernel
theorem dX7_power_6 : decode cX7_power 6 = .ok (.if_icmp .ge 13, 3) := by decide +kernel
theorem dX7_power_9 : decode cX7_power 9 = .ok (.iload_n 2, 1) := by decide +kernel
theorem dX7_power_10 : decode cX7_power 10 = .ok (.iload_n 0, 1) := by decide +kernel
theorem dX7_power_11 : decode cX7_power 11 = .ok (.imul, 1) := by decide +kernel
theorem dX7_power_12 : decode cX7_power 12 = .ok (.istore_n 2, 1) := by decide +kernel
theorem dX7_power_13 : decode cX7_power 13 = .ok (.iinc 3 1, 3) := by decide +kernel
theorem dX7_power_16 : decode cX7_power 16 = .ok (.goto (-12), 3) := by decide +kernel
theorem dX7_power_19 : decode cX7_power 19 = .ok (.iload_n 2, 1) := by decide +kernel
theorem dX7_power_20 : decode cX7_power 20 = .ok (.ireturn, 1) := by decide +kernel
theorem dX7_commonDivisor_0 : decode cX7_commonDivisor 0 = .ok (.iload_n 0, 1) := by decide +kernel
theorem dX7_commonDivisor_1 : decode cX7_commonDivisor 1 = .ok (.istore_n 2, 1) := by decide +kernel
theorem dX7_commonDivisor_2 : decode cX7_commonDivisor 2 = .ok (.iload_n 1, 1) := by decide +kernel
theorem dX7_commonDivisor_3 : decode cX7_commonDivisor 3 = .ok (.istore_n 3, 1) := by decide +kernel
theorem dX7_commonDivisor_4 : decode cX7_commonDivisor 4 = .ok (.iconst 0, 1) := by decide +kernel
theorem dX7_commonDivisor_5 : decode cX7_commonDivisor 5 = .ok (.istore 4, 2) := by decide +kernel
theorem dX7_commonDivisor_7 : decode cX7_commonDivisor 7 = .ok (.iload_n 3, 1) := by decide +kernel
theorem dX7_commonDivisor_8 : decode cX7_commonDivisor 8 = .ok (.ifCond .le 26, 3) := by decide +kernel
theorem dX7_commonDivisor_11 : decode cX7_commonDivisor 11 = .ok (.iload 4, 2) := by decide +kernel
theorem dX7_commonDivisor_13 : decode cX7_commonDivisor 13 = .ok (.bipush 64, 2) := by decide +kernel
theorem dX7_commonDivisor_15 : decode cX7_commonDivisor 15 = .ok (.if_icmp .ge 19, 3) := by decide +kernel
theorem dX7_commonDivisor_18 : decode cX7_commonDivisor 18 = .ok (.iload_n 2, 1) := by decide +kernel
theorem dX7_commonDivisor_19 : decode cX7_commonDivisor 19 = .ok (.iload_n 3, 1) := by decide +kernel
theorem dX7_commonDivisor_20 : decode cX7_commonDivisor 20 = .ok (.irem, 1) := by decide +kernel
theorem dX7_commonDivisor_21 : decode cX7_commonDivisor 21 = .ok (.istore 5, 2) := by decide +kernel
theorem dX7_commonDivisor_23 : decode cX7_commonDivisor 23 = .ok (.iload_n 3, 1) := by decide +kernel
theorem dX7_commonDivisor_24 : decode cX7_commonDivisor 24 = .ok (.istore_n 2, 1) := by decide +kernel
theorem dX7_commonDivisor_25 : decode cX7_commonDivisor 25 = .ok (.iload 5, 2) := by decide +kernel
theorem dX7_commonDivisor_27 : decode cX7_commonDivisor 27 = .ok (.istore_n 3, 1) := by decide +kernel
theorem dX7_commonDivisor_28 : decode cX7_commonDivisor 28 = .ok (.iinc 4 1, 3) := by decide +kernel
theorem dX7_commonDivisor_31 : decode cX7_commonDivisor 31 = .ok (.goto (-24), 3) := by decide +kernel
theorem dX7_commonDivisor_34 : decode cX7_commonDivisor 34 = .ok (.iload_n 2, 1) := by decide +kernel
theorem dX7_commonDivisor_35 : decode cX7_commonDivisor 35 = .ok (.ireturn, 1) := by decide +kernel
theorem dX7_drawnDamp_0 : decode cX7_drawnDamp 0 = .ok (.ldc2_w 236, 3) := by decide +kernel
theorem dX7_drawnDamp_3 : decode cX7_drawnDamp 3 = .ok (.iload_n 0, 1) := by decide +kernel
theorem dX7_drawnDamp_4 : decode cX7_drawnDamp 4 = .ok (.i2l, 1) := by decide +kernel
theorem dX7_drawnDamp_5 : decode cX7_drawnDamp 5 = .ok (.lmul, 1) := by decide +kernel
theorem dX7_drawnDamp_6 : decode cX7_drawnDamp 6 = .ok (.ldc2_w 238, 3) := by decide +kernel
theorem dX7_drawnDamp_9 : decode cX7_drawnDamp 9 = .ok (.iload_n 1, 1) := by decide +kernel
theorem dX7_drawnDamp_10 : decode cX7_drawnDamp 10 = .ok (.i2l, 1) := by decide +kernel
theorem dX7_drawnDamp_11 : decode cX7_drawnDamp 11 = .ok (.lmul, 1) := by decide +kernel
theorem dX7_drawnDamp_12 : decode cX7_drawnDamp 12 = .ok (.ladd, 1) := by decide +kernel
theorem dX7_drawnDamp_13 : decode cX7_drawnDamp 13 = .ok (.lconst 1, 1) := by decide +kernel
theorem dX7_drawnDamp_14 : decode cX7_drawnDamp 14 = .ok (.ladd, 1) := by decide +kernel
theorem dX7_drawnDamp_15 : decode cX7_drawnDamp 15 = .ok (.lstore_n 2, 1) := by decide +kernel
theorem dX7_drawnDamp_16 : decode cX7_drawnDamp 16 = .ok (.lload_n 2, 1) := by decide +kernel
theorem dX7_drawnDamp_17 : decode cX7_drawnDamp 17 = .ok (.lload_n 2, 1) := by decide +kernel
theorem dX7_drawnDamp_18 : decode cX7_drawnDamp 18 = .ok (.lmul, 1) := by decide +kernel
theorem dX7_drawnDamp_19 : decode cX7_drawnDamp 19 = .ok (.ldc2_w 240, 3) := by decide +kernel
theorem dX7_drawnDamp_22 : decode cX7_drawnDamp 22 = .ok (.lrem, 1) := by decide +kernel
theorem dX7_drawnDamp_23 : decode cX7_drawnDamp 23 = .ok (.ldc2_w 242, 3) := by decide +kernel
theorem dX7_drawnDamp_26 : decode cX7_drawnDamp 26 = .ok (.ldiv, 1) := by decide +kernel
theorem dX7_drawnDamp_27 : decode cX7_drawnDamp 27 = .ok (.ldc2_w 244, 3) := by decide +kernel
theorem dX7_drawnDamp_30 : decode cX7_drawnDamp 30 = .ok (.lrem, 1) := by decide +kernel
theorem dX7_drawnDamp_31 : decode cX7_drawnDamp 31 = .ok (.l2i, 1) := by decide +kernel
theorem dX7_drawnDamp_32 : decode cX7_drawnDamp 32 = .ok (.ireturn, 1) := by decide +kernel
theorem dX7_stepsInto_0 : decode cX7_stepsInto 0 = .ok (.iload_n 0, 1) := by decide +kernel
theorem dX7_stepsInto_1 : decode cX7_stepsInto 1 = .ok (.tableswitch 48 1 4 #[31, 44, 48, 33], 31) := by decide +kernel
theorem dX7_stepsInto_32 : decode cX7_stepsInto 32 = .ok (.iconst 3, 1) := by decide +kernel
theorem dX7_stepsInto_33 : decode cX7_stepsInto 33 = .ok (.ireturn, 1) := by decide +kernel
theorem dX7_stepsInto_34 : decode cX7_stepsInto 34 = .ok (.iload_n 1, 1) := by decide +kernel
theorem dX7_stepsInto_35 : decode cX7_stepsInto 35 = .ok (.iconst 3, 1) := by decide +kernel
theorem dX7_stepsInto_36 : decode cX7_stepsInto 36 = .ok (.if_icmp .ge 7, 3) := by decide +kernel
theorem dX7_stepsInto_39 : decode cX7_stepsInto 39 = .ok (.iconst 1, 1) := by decide +kernel
theorem dX7_stepsInto_40 : decode cX7_stepsInto 40 = .ok (.goto 4, 3) := by decide +kernel
theorem dX7_stepsInto_43 : decode cX7_stepsInto 43 = .ok (.iconst 2, 1) := by decide +kernel
theorem dX7_stepsInto_44 : decode cX7_stepsInto 44 = .ok (.ireturn, 1) := by decide +kernel
theorem dX7_stepsInto_45 : decode cX7_stepsInto 45 = .ok (.sipush 1000, 3) := by decide +kernel
theorem dX7_stepsInto_48 : decode cX7_stepsInto 48 = .ok (.ireturn, 1) := by decide +kernel
theorem dX7_stepsInto_49 : decode cX7_stepsInto 49 = .ok (.iconst 1, 1) := by decide +kernel
theorem dX7_stepsInto_50 : decode cX7_stepsInto 50 = .ok (.ireturn, 1) := by decide +kernel
theorem dX8_in_0 : decode cX8_in 0 = .ok (.lload_n 0, 1) := by decide +kernel
theorem dX8_in_1 : decode cX8_in 1 = .ok (.lload_n 2, 1) := by decide +kernel
theorem dX8_in_2 : decode cX8_in 2 = .ok (.lcmp, 1) := by decide +kernel
theorem dX8_in_3 : decode cX8_in 3 = .ok (.ifCond .lt 14, 3) := by decide +kernel
theorem dX8_in_6 : decode cX8_in 6 = .ok (.lload_n 0, 1) := by decide +kernel
theorem dX8_in_7 : decode cX8_in 7 = .ok (.lload 4, 2) := by decide +kernel
theorem dX8_in_9 : decode cX8_in 9 = .ok (.lcmp, 1) := by decide +kernel
theorem dX8_in_10 : decode cX8_in 10 = .ok (.ifCond .gt 7, 3) := by decide +kernel
theorem dX8_in_13 : decode cX8_in 13 = .ok (.iconst 1, 1) := by decide +kernel
theorem dX8_in_14 : decode cX8_in 14 = .ok (.goto 4, 3) := by decide +kernel
theorem dX8_in_17 : decode cX8_in 17 = .ok (.iconst 0, 1) := by decide +kernel
theorem dX8_in_18 : decode cX8_in 18 = .ok (.ireturn, 1) := by decide +kernel
set_option maxRecDepth 20000 in
theorem ggX8_init_X8_rents : GoodIn wsX8_init wsX8_rents := goodIn_r _ [20, 5, 25, 26, 27, 28, 29, 30, 31, 32, 33, 34, 35, 36, 37, 38, 39, 40, 41, 42, 43, 44, 45, 46, 47, 48] (by decide +kernel) (by decide +kernel)
set_option maxRecDepth 20000 in
theorem gX8_init_X8_rents : GoodIn wsX8_init (wsV RX8 43 RX8 yX8_rents wsX8_rents) := goodIn_app (goodIn_of _ (by decide +kernel)) ggX8_init_X8_rents
set_option maxRecDepth 20000 in
theorem ggX8_init_X8_begins0 : GoodIn wsX8_init wsX8_begins0 := goodIn_r _ [24, 6, 5, 25, 26, 27, 28, 29, 30, 31, 32, 33, 34, 35, 36, 37, 38, 39, 40, 41, 42, 43, 44, 45, 46, 47, 48] (by decide +kernel) (by decide +kernel)
set_option maxRecDepth 20000 in
theorem gX8_init_X8_begins0 : GoodIn wsX8_init (wsV RX8 47 RX8 yX8_begins0 wsX8_begins0) := goodIn_app (goodIn_of _ (by decide +kernel)) ggX8_init_X8_begins0
theorem dX8_init_0 : decode cX8_init 0 = .ok (.aload_n 0, 1) := by decide +kernel
theorem dX8_init_1 : decode cX8_init 1 = .ok (.invokespecial 1, 3) := by decide +kernel
theorem dX8_init_4 : decode cX8_init 4 = .ok (.aload_n 0, 1) := by decide +kernel
theorem dX8_init_5 : decode cX8_init 5 = .ok (.bipush 54, 2) := by decide +kernel
theorem dX8_init_7 : decode cX8_init 7 = .ok (.newarray .int, 2) := by decide +kernel
theorem dX8_init_9 : decode cX8_init 9 = .ok (.putfield 7, 3) := by decide +kernel
theorem dX8_init_12 : decode cX8_init 12 = .ok (.aload_n 0, 1) := by decide +kernel
theorem dX8_init_13 : decode cX8_init 13 = .ok (.bipush 28, 2) := by decide +kernel
theorem dX8_init_15 : decode cX8_init 15 = .ok (.newarray .int, 2) := by decide +kernel
theorem dX8_init_17 : decode cX8_init 17 = .ok (.putfield 13, 3) := by decide +kernel
theorem dX8_init_20 : decode cX8_init 20 = .ok (.aload_n 0, 1) := by decide +kernel
theorem dX8_init_21 : decode cX8_init 21 = .ok (.sipush 200, 3) := by decide +kernel
theorem dX8_init_24 : decode cX8_init 24 = .ok (.newarray .int, 2) := by decide +kernel
theorem dX8_init_26 : decode cX8_init 26 = .ok (.putfield 16, 3) := by decide +kernel
theorem dX8_init_29 : decode cX8_init 29 = .ok (.aload_n 0, 1) := by decide +kernel
theorem dX8_init_30 : decode cX8_init 30 = .ok (.bipush 54, 2) := by decide +kernel
theorem dX8_init_32 : decode cX8_init 32 = .ok (.newarray .int, 2) := by decide +kernel
theorem dX8_init_34 : decode cX8_init 34 = .ok (.putfield 19, 3) := by decide +kernel
theorem dX8_init_37 : decode cX8_init 37 = .ok (.aload_n 0, 1) := by decide +kernel
theorem dX8_init_38 : decode cX8_init 38 = .ok (.bipush 25, 2) := by decide +kernel
theorem dX8_init_40 : decode cX8_init 40 = .ok (.newarray .int, 2) := by decide +kernel
theorem dX8_init_42 : decode cX8_init 42 = .ok (.putfield 22, 3) := by decide +kernel
theorem dX8_init_45 : decode cX8_init 45 = .ok (.aload_n 0, 1) := by decide +kernel
theorem dX8_init_46 : decode cX8_init 46 = .ok (.bipush 25, 2) := by decide +kernel
theorem dX8_init_48 : decode cX8_init 48 = .ok (.newarray .int, 2) := by decide +kernel
theorem dX8_init_50 : decode cX8_init 50 = .ok (.putfield 25, 3) := by decide +kernel
theorem dX8_init_53 : decode cX8_init 53 = .ok (.aload_n 0, 1) := by decide +kernel
theorem dX8_init_54 : decode cX8_init 54 = .ok (.sipush 224, 3) := by decide +kernel
theorem dX8_init_57 : decode cX8_init 57 = .ok (.newarray .int, 2) := by decide +kernel
theorem dX8_init_59 : decode cX8_init 59 = .ok (.putfield 28, 3) := by decide +kernel
theorem dX8_init_62 : decode cX8_init 62 = .ok (.aload_n 0, 1) := by decide +kernel
theorem dX8_init_63 : decode cX8_init 63 = .ok (.bipush 28, 2) := by decide +kernel
theorem dX8_init_65 : decode cX8_init 65 = .ok (.newarray .int, 2) := by decide +kernel
theorem dX8_init_67 : decode cX8_init 67 = .ok (.putfield 31, 3) := by decide +kernel
theorem dX8_init_70 : decode cX8_init 70 = .ok (.aload_n 0, 1) := by decide +kernel
theorem dX8_init_71 : decode cX8_init 71 = .ok (.bipush 8, 2) := by decide +kernel
theorem dX8_init_73 : decode cX8_init 73 = .ok (.newarray .int, 2) := by decide +kernel
theorem dX8_init_75 : decode cX8_init 75 = .ok (.putfield 34, 3) := by decide +kernel
theorem dX8_init_78 : decode cX8_init 78 = .ok (.aload_n 0, 1) := by decide +kernel
theorem dX8_init_79 : decode cX8_init 79 = .ok (.bipush 8, 2) := by decide +kernel
theorem dX8_init_81 : decode cX8_init 81 = .ok (.newarray .int, 2) := by decide +kernel
theorem dX8_init_83 : decode cX8_init 83 = .ok (.putfield 37, 3) := by decide +kernel
theorem dX8_init_86 : decode cX8_init 86 = .ok (.aload_n 0, 1) := by decide +kernel
theorem dX8_init_87 : decode cX8_init 87 = .ok (.bipush 56, 2) := by decide +kernel
theorem dX8_init_89 : decode cX8_init 89 = .ok (.newarray .int, 2) := by decide +kernel
theorem dX8_init_91 : decode cX8_init 91 = .ok (.putfield 40, 3) := by decide +kernel
theorem dX8_init_94 : decode cX8_init 94 = .ok (.aload_n 0, 1) := by decide +kernel
theorem dX8_init_95 : decode cX8_init 95 = .ok (.getfield 7, 3) := by decide +kernel
theorem dX8_init_98 : decode cX8_init 98 = .ok (.iconst 0, 1) := by decide +kernel
theorem dX8_init_99 : decode cX8_init 99 = .ok (.iconst 5, 1) := by decide +kernel
theorem dX8_init_100 : decode cX8_init 100 = .ok (.iastore, 1) := by decide +kernel
theorem dX8_init_101 : decode cX8_init 101 = .ok (.aload_n 0, 1) := by decide +kernel
theorem dX8_init_102 : decode cX8_init 102 = .ok (.getfield 7, 3) := by decide +kernel
theorem dX8_init_105 : decode cX8_init 105 = .ok (.iconst 1, 1) := by decide +kernel
theorem dX8_init_106 : decode cX8_init 106 = .ok (.iconst 4, 1) := by decide +kernel
theorem dX8_init_107 : decode cX8_init 107 = .ok (.iastore, 1) := by decide +kernel
theorem dX8_init_108 : decode cX8_init 108 = .ok (.aload_n 0, 1) := by decide +kernel
theorem dX8_init_109 : decode cX8_init 109 = .ok (.getfield 7, 3) := by decide +kernel
theorem dX8_init_112 : decode cX8_init 112 = .ok (.iconst 2, 1) := by decide +kernel
theorem dX8_init_113 : decode cX8_init 113 = .ok (.iconst 1, 1) := by decide +kernel
theorem dX8_init_114 : decode cX8_init 114 = .ok (.iastore, 1) := by decide +kernel
theorem dX8_init_115 : decode cX8_init 115 = .ok (.aload_n 0, 1) := by decide +kernel
theorem dX8_init_116 : decode cX8_init 116 = .ok (.getfield 7, 3) := by decide +kernel
theorem dX8_init_119 : decode cX8_init 119 = .ok (.bipush 34, 2) := by decide +kernel
theorem dX8_init_121 : decode cX8_init 121 = .ok (.iconst 1, 1) := by decide +kernel
theorem dX8_init_122 : decode cX8_init 122 = .ok (.iastore, 1) := by decide +kernel
theorem dX8_init_123 : decode cX8_init 123 = .ok (.aload_n 0, 1) := by decide +kernel
theorem dX8_init_124 : decode cX8_init 124 = .ok (.getfield 7, 3) := by decide +kernel
theorem dX8_init_127 : decode cX8_init 127 = .ok (.bipush 35, 2) := by decide +kernel
theorem dX8_init_129 : decode cX8_init 129 = .ok (.iconst 2, 1) := by decide +kernel
theorem dX8_init_130 : decode cX8_init 130 = .ok (.iastore, 1) := by decide +kernel
theorem dX8_init_131 : decode cX8_init 131 = .ok (.aload_n 0, 1) := by decide +kernel
theorem dX8_init_132 : decode cX8_init 132 = .ok (.getfield 7, 3) := by decide +kernel
theorem dX8_init_135 : decode cX8_init 135 = .ok (.bipush 38, 2) := by decide +kernel
theorem dX8_init_137 : decode cX8_init 137 = .ok (.iconst 4, 1) := by decide +kernel
theorem dX8_init_138 : decode cX8_init 138 = .ok (.iastore, 1) := by decide +kernel
theorem dX8_init_139 : decode cX8_init 139 = .ok (.aload_n 0, 1) := by decide +kernel
theorem dX8_init_140 : decode cX8_init 140 = .ok (.getfield 7, 3) := by decide +kernel
theorem dX8_init_143 : decode cX8_init 143 = .ok (.bipush 40, 2) := by decide +kernel
theorem dX8_init_145 : decode cX8_init 145 = .ok (.iconst 3, 1) := by decide +kernel
theorem dX8_init_146 : decode cX8_init 146 = .ok (.iastore, 1) := by decide +kernel
theorem dX8_init_147 : decode cX8_init 147 = .ok (.aload_n 0, 1) := by decide +kernel
theorem dX8_init_148 : decode cX8_init 148 = .ok (.getfield 7, 3) := by decide +kernel
theorem dX8_init_151 : decode cX8_init 151 = .ok (.bipush 41, 2) := by decide +kernel
theorem dX8_init_153 : decode cX8_init 153 = .ok (.iconst 1, 1) := by decide +kernel
theorem dX8_init_154 : decode cX8_init 154 = .ok (.iastore, 1) := by decide +kernel
theorem dX8_init_155 : decode cX8_init 155 = .ok (.aload_n 0, 1) := by decide +kernel
theorem dX8_init_156 : decode cX8_init 156 = .ok (.getfield 7, 3) := by decide +kernel
theorem dX8_init_159 : decode cX8_init 159 = .ok (.bipush 43, 2) := by decide +kernel
theorem dX8_init_161 : decode cX8_init 161 = .ok (.iconst 1, 1) := by decide +kernel
theorem dX8_init_162 : decode cX8_init 162 = .ok (.iastore, 1) := by decide +kernel
theorem dX8_init_163 : decode cX8_init 163 = .ok (.aload_n 0, 1) := by decide +kernel
theorem dX8_init_164 : decode cX8_init 164 = .ok (.getfield 7, 3) := by decide +kernel
theorem dX8_init_167 : decode cX8_init 167 = .ok (.iconst 3, 1) := by decide +kernel
theorem dX8_init_168 : decode cX8_init 168 = .ok (.iconst 3, 1) := by decide +kernel
theorem dX8_init_169 : decode cX8_init 169 = .ok (.iastore, 1) := by decide +kernel
theorem dX8_init_170 : decode cX8_init 170 = .ok (.aload_n 0, 1) := by decide +kernel
theorem dX8_init_171 : decode cX8_init 171 = .ok (.getfield 7, 3) := by decide +kernel
theorem dX8_init_174 : decode cX8_init 174 = .ok (.iconst 4, 1) := by decide +kernel
theorem dX8_init_175 : decode cX8_init 175 = .ok (.iconst 4, 1) := by decide +kernel
theorem dX8_init_176 : decode cX8_init 176 = .ok (.iastore, 1) := by decide +kernel
theorem dX8_init_177 : decode cX8_init 177 = .ok (.aload_n 0, 1) := by decide +kernel
theorem dX8_init_178 : decode cX8_init 178 = .ok (.getfield 7, 3) := by decide +kernel
theorem dX8_init_181 : decode cX8_init 181 = .ok (.bipush 6, 2) := by decide +kernel
theorem dX8_init_183 : decode cX8_init 183 = .ok (.iconst 2, 1) := by decide +kernel
theorem dX8_init_184 : decode cX8_init 184 = .ok (.iastore, 1) := by decide +kernel
theorem dX8_init_185 : decode cX8_init 185 = .ok (.aload_n 0, 1) := by decide +kernel
theorem dX8_init_186 : decode cX8_init 186 = .ok (.iconst 0, 1) := by decide +kernel
theorem dX8_init_187 : decode cX8_init 187 = .ok (.iconst 3, 1) := by decide +kernel
theorem dX8_init_188 : decode cX8_init 188 = .ok (.bipush 10, 2) := by decide +kernel
theorem dX8_init_190 : decode cX8_init 190 = .ok (.invokevirtual 43, 3) := by decide +kernel
theorem dX8_init_193 : decode cX8_init 193 = .ok (.aload_n 0, 1) := by decide +kernel
theorem dX8_init_194 : decode cX8_init 194 = .ok (.iconst 1, 1) := by decide +kernel
theorem dX8_init_195 : decode cX8_init 195 = .ok (.iconst 5, 1) := by decide +kernel
theorem dX8_init_196 : decode cX8_init 196 = .ok (.iconst 4, 1) := by decide +kernel
theorem dX8_init_197 : decode cX8_init 197 = .ok (.invokevirtual 43, 3) := by decide +kernel
theorem dX8_init_200 : decode cX8_init 200 = .ok (.aload_n 0, 1) := by decide +kernel
theorem dX8_init_201 : decode cX8_init 201 = .ok (.iconst 2, 1) := by decide +kernel
theorem dX8_init_202 : decode cX8_init 202 = .ok (.bipush 9, 2) := by decide +kernel
theorem dX8_init_204 : decode cX8_init 204 = .ok (.bipush 7, 2) := by decide +kernel
theorem dX8_init_206 : decode cX8_init 206 = .ok (.invokevirtual 43, 3) := by decide +kernel
theorem dX8_init_209 : decode cX8_init 209 = .ok (.aload_n 0, 1) := by decide +kernel
theorem dX8_init_210 : decode cX8_init 210 = .ok (.getfield 7, 3) := by decide +kernel
theorem dX8_init_213 : decode cX8_init 213 = .ok (.bipush 13, 2) := by decide +kernel
theorem dX8_init_215 : decode cX8_init 215 = .ok (.iconst 3, 1) := by decide +kernel
theorem dX8_init_216 : decode cX8_init 216 = .ok (.iastore, 1) := by decide +kernel
theorem dX8_init_217 : decode cX8_init 217 = .ok (.aload_n 0, 1) := by decide +kernel
theorem dX8_init_218 : decode cX8_init 218 = .ok (.getfield 7, 3) := by decide +kernel
theorem dX8_init_221 : decode cX8_init 221 = .ok (.bipush 24, 2) := by decide +kernel
theorem dX8_init_223 : decode cX8_init 223 = .ok (.iconst 2, 1) := by decide +kernel
theorem dX8_init_224 : decode cX8_init 224 = .ok (.iastore, 1) := by decide +kernel
theorem dX8_init_225 : decode cX8_init 225 = .ok (.aload_n 0, 1) := by decide +kernel
theorem dX8_init_226 : decode cX8_init 226 = .ok (.getfield 7, 3) := by decide +kernel
theorem dX8_init_229 : decode cX8_init 229 = .ok (.bipush 26, 2) := by decide +kernel
theorem dX8_init_231 : decode cX8_init 231 = .ok (.iconst 3, 1) := by decide +kernel
theorem dX8_init_232 : decode cX8_init 232 = .ok (.iastore, 1) := by decide +kernel
theorem dX8_init_233 : decode cX8_init 233 = .ok (.aload_n 0, 1) := by decide +kernel
theorem dX8_init_234 : decode cX8_init 234 = .ok (.invokevirtual 47, 3) := by decide +kernel
theorem dX8_init_237 : decode cX8_init 237 = .ok (.return_, 1) := by decide +kernel
theorem dX8_rents_0 : decode cX8_rents 0 = .ok (.aload_n 0, 1) := by decide +kernel
theorem dX8_rents_1 : decode cX8_rents 1 = .ok (.getfield 7, 3) := by decide +kernel
theorem dX8_rents_4 : decode cX8_rents 4 = .ok (.bipush 14, 2) := by decide +kernel
theorem dX8_rents_6 : decode cX8_rents 6 = .ok (.iconst 2, 1) := by decide +kernel
theorem dX8_rents_7 : decode cX8_rents 7 = .ok (.iload_n 1, 1) := by decide +kernel
theorem dX8_rents_8 : decode cX8_rents 8 = .ok (.imul, 1) := by decide +kernel
theorem dX8_rents_9 : decode cX8_rents 9 = .ok (.iadd, 1) := by decide +kernel
theorem dX8_rents_10 : decode cX8_rents 10 = .ok (.iload_n 2, 1) := by decide +kernel
theorem dX8_rents_11 : decode cX8_rents 11 = .ok (.iastore, 1) := by decide +kernel
theorem dX8_rents_12 : decode cX8_rents 12 = .ok (.aload_n 0, 1) := by decide +kernel
theorem dX8_rents_13 : decode cX8_rents 13 = .ok (.getfield 7, 3) := by decide +kernel
theorem dX8_rents_16 : decode cX8_rents 16 = .ok (.bipush 15, 2) := by decide +kernel
theorem dX8_rents_18 : decode cX8_rents 18 = .ok (.iconst 2, 1) := by decide +kernel
theorem dX8_rents_19 : decode cX8_rents 19 = .ok (.iload_n 1, 1) := by decide +kernel
theorem dX8_rents_20 : decode cX8_rents 20 = .ok (.imul, 1) := by decide +kernel
theorem dX8_rents_21 : decode cX8_rents 21 = .ok (.iadd, 1) := by decide +kernel
theorem dX8_rents_22 : decode cX8_rents 22 = .ok (.iload_n 3, 1) := by decide +kernel
theorem dX8_rents_23 : decode cX8_rents 23 = .ok (.iastore, 1) := by decide +kernel
theorem dX8_rents_24 : decode cX8_rents 24 = .ok (.return_, 1) := by decide +kernel
theorem dX8_begins0_0 : decode cX8_begins0 0 = .ok (.aload_n 0, 1) := by decide +kernel
theorem dX8_begins0_1 : decode cX8_begins0 1 = .ok (.getfield 13, 3) := by decide +kernel
theorem dX8_begins0_4 : decode cX8_begins0 4 = .ok (.iconst 0, 1) := by decide +kernel
theorem dX8_begins0_5 : decode cX8_begins0 5 = .ok (.iconst 0, 1) := by decide +kernel
theorem dX8_begins0_6 : decode cX8_begins0 6 = .ok (.iastore, 1) := by decide +kernel
theorem dX8_begins0_7 : decode cX8_begins0 7 = .ok (.aload_n 0, 1) := by decide +kernel
theorem dX8_begins0_8 : decode cX8_begins0 8 = .ok (.getfield 13, 3) := by decide +kernel
theorem dX8_begins0_11 : decode cX8_begins0 11 = .ok (.iconst 1, 1) := by decide +kernel
theorem dX8_begins0_12 : decode cX8_begins0 12 = .ok (.aload_n 0, 1) := by decide +kernel
theorem dX8_begins0_13 : decode cX8_begins0 13 = .ok (.getfield 7, 3) := by decide +kernel
theorem dX8_begins0_16 : decode cX8_begins0 16 = .ok (.iconst 2, 1) := by decide +kernel
theorem dX8_begins0_17 : decode cX8_begins0 17 = .ok (.iaload, 1) := by decide +kernel
theorem dX8_begins0_18 : decode cX8_begins0 18 = .ok (.iastore, 1) := by decide +kernel
theorem dX8_begins0_19 : decode cX8_begins0 19 = .ok (.aload_n 0, 1) := by decide +kernel
theorem dX8_begins0_20 : decode cX8_begins0 20 = .ok (.getfield 13, 3) := by decide +kernel
theorem dX8_begins0_23 : decode cX8_begins0 23 = .ok (.iconst 2, 1) := by decide +kernel
theorem dX8_begins0_24 : decode cX8_begins0 24 = .ok (.iconst (-1), 1) := by decide +kernel
theorem dX8_begins0_25 : decode cX8_begins0 25 = .ok (.iastore, 1) := by decide +kernel
theorem dX8_begins0_26 : decode cX8_begins0 26 = .ok (.iconst 0, 1) := by decide +kernel
theorem dX8_begins0_27 : decode cX8_begins0 27 = .ok (.istore_n 1, 1) := by decide +kernel
theorem dX8_begins0_28 : decode cX8_begins0 28 = .ok (.iload_n 1, 1) := by decide +kernel
theorem dX8_begins0_29 : decode cX8_begins0 29 = .ok (.bipush 25, 2) := by decide +kernel
theorem dX8_begins0_31 : decode cX8_begins0 31 = .ok (.if_icmp .ge 26, 3) := by decide +kernel
theorem dX8_begins0_34 : decode cX8_begins0 34 = .ok (.aload_n 0, 1) := by decide +kernel
theorem dX8_begins0_35 : decode cX8_begins0 35 = .ok (.getfield 13, 3) := by decide +kernel
theorem dX8_begins0_38 : decode cX8_begins0 38 = .ok (.iconst 3, 1) := by decide +kernel
theorem dX8_begins0_39 : decode cX8_begins0 39 = .ok (.iload_n 1, 1) := by decide +kernel
theorem dX8_begins0_40 : decode cX8_begins0 40 = .ok (.iadd, 1) := by decide +kernel
theorem dX8_begins0_41 : decode cX8_begins0 41 = .ok (.aload_n 0, 1) := by decide +kernel
theorem dX8_begins0_42 : decode cX8_begins0 42 = .ok (.getfield 7, 3) := by decide +kernel
theorem dX8_begins0_45 : decode cX8_begins0 45 = .ok (.bipush 29, 2) := by decide +kernel
theorem dX8_begins0_47 : decode cX8_begins0 47 = .ok (.iload_n 1, 1) := by decide +kernel
theorem dX8_begins0_48 : decode cX8_begins0 48 = .ok (.iadd, 1) := by decide +kernel
theorem dX8_begins0_49 : decode cX8_begins0 49 = .ok (.iaload, 1) := by decide +kernel
theorem dX8_begins0_50 : decode cX8_begins0 50 = .ok (.iastore, 1) := by decide +kernel
theorem dX8_begins0_51 : decode cX8_begins0 51 = .ok (.iinc 1 1, 3) := by decide +kernel
theorem dX8_begins0_54 : decode cX8_begins0 54 = .ok (.goto (-26), 3) := by decide +kernel
theorem dX8_begins0_57 : decode cX8_begins0 57 = .ok (.return_, 1) := by decide +kernel
theorem dX8_cells_0 : decode cX8_cells 0 = .ok (.aload_n 0, 1) := by decide +kernel
theorem dX8_cells_1 : decode cX8_cells 1 = .ok (.getfield 7, 3) := by decide +kernel
theorem dX8_cells_4 : decode cX8_cells 4 = .ok (.iconst 0, 1) := by decide +kernel
theorem dX8_cells_5 : decode cX8_cells 5 = .ok (.iaload, 1) := by decide +kernel
theorem dX8_cells_6 : decode cX8_cells 6 = .ok (.aload_n 0, 1) := by decide +kernel
theorem dX8_cells_7 : decode cX8_cells 7 = .ok (.getfield 7, 3) := by decide +kernel
theorem dX8_cells_10 : decode cX8_cells 10 = .ok (.iconst 1, 1) := by decide +kernel
theorem dX8_cells_11 : decode cX8_cells 11 = .ok (.iaload, 1) := by decide +kernel
theorem dX8_cells_12 : decode cX8_cells 12 = .ok (.imul, 1) := by decide +kernel
theorem dX8_cells_13 : decode cX8_cells 13 = .ok (.ireturn, 1) := by decide +kernel
set_option maxRecDepth 20000 in
theorem ggX8_isCell_X8_cells : GoodIn wsX8_isCell wsX8_cells := goodIn_r _ [5, 6, 10, 11, 12, 13, 14, 15, 16, 17, 18, 19, 20, 21, 22, 23, 24, 25, 26, 27, 28, 29, 30, 31, 32, 33] (by decide +kernel) (by decide +kernel)
set_option maxRecDepth 20000 in
theorem gX8_isCell_X8_cells : GoodIn wsX8_isCell (wsV RX8 50 RX8 yX8_cells wsX8_cells) := goodIn_app (goodIn_of _ (by decide +kernel)) ggX8_isCell_X8_cells
set_option maxRecDepth 20000 in
theorem ggX8_isCell_X8_in : GoodIn wsX8_isCell wsX8_in := goodIn_r _ [9] (by decide +kernel) (by decide +kernel)
set_option maxRecDepth 20000 in
theorem gX8_isCell_X8_in : GoodIn wsX8_isCell (va_wsS RX8 54 yX8_in wsX8_in) := goodIn_app (goodIn_of _ (by decide +kernel)) ggX8_isCell_X8_in
theorem dX8_isCell_0 : decode cX8_isCell 0 = .ok (.iload_n 1, 1) := by decide +kernel
theorem dX8_isCell_1 : decode cX8_isCell 1 = .ok (.i2l, 1) := by decide +kernel
theorem dX8_isCell_2 : decode cX8_isCell 2 = .ok (.lconst 0, 1) := by decide +kernel
theorem dX8_isCell_3 : decode cX8_isCell 3 = .ok (.aload_n 0, 1) := by decide +kernel
theorem dX8_isCell_4 : decode cX8_isCell 4 = .ok (.invokevirtual 50, 3) := by decide +kernel
theorem dX8_isCell_7 : decode cX8_isCell 7 = .ok (.iconst 1, 1) := by decide +kernel
theorem dX8_isCell_8 : decode cX8_isCell 8 = .ok (.isub, 1) := by decide +kernel
theorem dX8_isCell_9 : decode cX8_isCell 9 = .ok (.i2l, 1) := by decide +kernel
theorem dX8_isCell_10 : decode cX8_isCell 10 = .ok (.invokestatic 54, 3) := by decide +kernel
theorem dX8_isCell_13 : decode cX8_isCell 13 = .ok (.ireturn, 1) := by decide +kernel
set_option maxRecDepth 20000 in
theorem ggX8_write_X8_in : GoodIn wsX8_write wsX8_in := goodIn_r _ [8] (by decide +kernel) (by decide +kernel)
set_option maxRecDepth 20000 in
theorem gX8_write_X8_in : GoodIn wsX8_write (va_wsS RX8 54 yX8_in wsX8_in) := goodIn_app (goodIn_of _ (by decide +kernel)) ggX8_write_X8_in
theorem dX8_write_0 : decode cX8_write 0 = .ok (.iload_n 1, 1) := by decide +kernel
theorem dX8_write_1 : decode cX8_write 1 = .ok (.i2l, 1) := by decide +kernel
theorem dX8_write_2 : decode cX8_write 2 = .ok (.ldc2_w 58, 3) := by decide +kernel
theorem dX8_write_5 : decode cX8_write 5 = .ok (.ldc2_w 60, 3) := by decide +kernel
theorem dX8_write_8 : decode cX8_write 8 = .ok (.invokestatic 54, 3) := by decide +kernel
theorem dX8_write_11 : decode cX8_write 11 = .ok (.ifCond .ne 5, 3) := by decide +kernel
theorem dX8_write_14 : decode cX8_write 14 = .ok (.iconst (-1), 1) := by decide +kernel
theorem dX8_write_15 : decode cX8_write 15 = .ok (.ireturn, 1) := by decide +kernel
theorem dX8_write_16 : decode cX8_write 16 = .ok (.aload_n 0, 1) := by decide +kernel
theorem dX8_write_17 : decode cX8_write 17 = .ok (.getfield 62, 3) := by decide +kernel
theorem dX8_write_20 : decode cX8_write 20 = .ok (.sipush 200, 3) := by decide +kernel
theorem dX8_write_23 : decode cX8_write 23 = .ok (.if_icmp .ne 6, 3) := by decide +kernel
theorem dX8_write_26 : decode cX8_write 26 = .ok (.bipush (-3), 2) := by decide +kernel
theorem dX8_write_28 : decode cX8_write 28 = .ok (.ireturn, 1) := by decide +kernel
theorem dX8_write_29 : decode cX8_write 29 = .ok (.aload_n 0, 1) := by decide +kernel
theorem dX8_write_30 : decode cX8_write 30 = .ok (.getfield 16, 3) := by decide +kernel
theorem dX8_write_33 : decode cX8_write 33 = .ok (.aload_n 0, 1) := by decide +kernel
theorem dX8_write_34 : decode cX8_write 34 = .ok (.getfield 62, 3) := by decide +kernel
theorem dX8_write_37 : decode cX8_write 37 = .ok (.iload_n 1, 1) := by decide +kernel
theorem dX8_write_38 : decode cX8_write 38 = .ok (.iastore, 1) := by decide +kernel
theorem dX8_write_39 : decode cX8_write 39 = .ok (.aload_n 0, 1) := by decide +kernel
theorem dX8_write_40 : decode cX8_write 40 = .ok (.dup, 1) := by decide +kernel
theorem dX8_write_41 : decode cX8_write 41 = .ok (.getfield 62, 3) := by decide +kernel
theorem dX8_write_44 : decode cX8_write 44 = .ok (.iconst 1, 1) := by decide +kernel
theorem dX8_write_45 : decode cX8_write 45 = .ok (.iadd, 1) := by decide +kernel
theorem dX8_write_46 : decode cX8_write 46 = .ok (.putfield 62, 3) := by decide +kernel
theorem dX8_write_49 : decode cX8_write 49 = .ok (.aload_n 0, 1) := by decide +kernel
theorem dX8_write_50 : decode cX8_write 50 = .ok (.getfield 62, 3) := by decide +kernel
theorem dX8_write_53 : decode cX8_write 53 = .ok (.ireturn, 1) := by decide +kernel
theorem dX8_wipe_0 : decode cX8_wipe 0 = .ok (.aload_n 0, 1) := by decide +kernel
theorem dX8_wipe_1 : decode cX8_wipe 1 = .ok (.getfield 62, 3) := by decide +kernel
theorem dX8_wipe_4 : decode cX8_wipe 4 = .ok (.istore_n 1, 1) := by decide +kernel
theorem dX8_wipe_5 : decode cX8_wipe 5 = .ok (.aload_n 0, 1) := by decide +kernel
theorem dX8_wipe_6 : decode cX8_wipe 6 = .ok (.iconst 0, 1) := by decide +kernel
theorem dX8_wipe_7 : decode cX8_wipe 7 = .ok (.putfield 62, 3) := by decide +kernel
theorem dX8_wipe_10 : decode cX8_wipe 10 = .ok (.iload_n 1, 1) := by decide +kernel
theorem dX8_wipe_11 : decode cX8_wipe 11 = .ok (.ireturn, 1) := by decide +kernel
set_option maxRecDepth 20000 in
theorem ggX8_isFigure_X8_in : GoodIn wsX8_isFigure wsX8_in := goodIn_r _ [9] (by decide +kernel) (by decide +kernel)
set_option maxRecDepth 20000 in
theorem gX8_isFigure_X8_in : GoodIn wsX8_isFigure (va_wsS RX8 54 yX8_in wsX8_in) := goodIn_app (goodIn_of _ (by decide +kernel)) ggX8_isFigure_X8_in
theorem dX8_isFigure_0 : decode cX8_isFigure 0 = .ok (.aload_n 0, 1) := by decide +kernel
theorem dX8_isFigure_1 : decode cX8_isFigure 1 = .ok (.getfield 66, 3) := by decide +kernel
theorem dX8_isFigure_4 : decode cX8_isFigure 4 = .ok (.aload_n 0, 1) := by decide +kernel
theorem dX8_isFigure_5 : decode cX8_isFigure 5 = .ok (.getfield 62, 3) := by decide +kernel
theorem dX8_isFigure_8 : decode cX8_isFigure 8 = .ok (.if_icmp .ge 29, 3) := by decide +kernel
theorem dX8_isFigure_11 : decode cX8_isFigure 11 = .ok (.aload_n 0, 1) := by decide +kernel
theorem dX8_isFigure_12 : decode cX8_isFigure 12 = .ok (.getfield 16, 3) := by decide +kernel
theorem dX8_isFigure_15 : decode cX8_isFigure 15 = .ok (.aload_n 0, 1) := by decide +kernel
theorem dX8_isFigure_16 : decode cX8_isFigure 16 = .ok (.getfield 66, 3) := by decide +kernel
theorem dX8_isFigure_19 : decode cX8_isFigure 19 = .ok (.iaload, 1) := by decide +kernel
theorem dX8_isFigure_20 : decode cX8_isFigure 20 = .ok (.i2l, 1) := by decide +kernel
theorem dX8_isFigure_21 : decode cX8_isFigure 21 = .ok (.ldc2_w 69, 3) := by decide +kernel
theorem dX8_isFigure_24 : decode cX8_isFigure 24 = .ok (.ldc2_w 71, 3) := by decide +kernel
theorem dX8_isFigure_27 : decode cX8_isFigure 27 = .ok (.invokestatic 54, 3) := by decide +kernel
theorem dX8_isFigure_30 : decode cX8_isFigure 30 = .ok (.ifCond .eq 7, 3) := by decide +kernel
theorem dX8_isFigure_33 : decode cX8_isFigure 33 = .ok (.iconst 1, 1) := by decide +kernel
theorem dX8_isFigure_34 : decode cX8_isFigure 34 = .ok (.goto 4, 3) := by decide +kernel
theorem dX8_isFigure_37 : decode cX8_isFigure 37 = .ok (.iconst 0, 1) := by decide +kernel
theorem dX8_isFigure_38 : decode cX8_isFigure 38 = .ok (.ireturn, 1) := by decide +kernel
set_option maxRecDepth 20000 in
theorem ggX8_number_X8_isFigure : GoodIn wsX8_number wsX8_isFigure := goodIn_r _ [9, 2, 4, 1, 10, 11, 12, 13, 8, 14, 15, 16, 17, 18, 19, 20, 21, 22, 23, 24, 25, 26, 27, 28, 29, 30, 31, 32, 33, 34, 35, 36, 37, 38] (by decide +kernel) (by decide +kernel)
set_option maxRecDepth 20000 in
theorem gX8_number_X8_isFigure : GoodIn wsX8_number (wsV RX8 73 RX8 yX8_isFigure wsX8_isFigure) := goodIn_app (goodIn_of _ (by decide +kernel)) ggX8_number_X8_isFigure
set_option maxRecDepth 20000 in
theorem ggX8_number_X8_in : GoodIn wsX8_number wsX8_in := goodIn_r _ [14] (by decide +kernel) (by decide +kernel)
set_option maxRecDepth 20000 in
theorem gX8_number_X8_in : GoodIn wsX8_number (va_wsS RX8 54 yX8_in wsX8_in) := goodIn_app (goodIn_of _ (by decide +kernel)) ggX8_number_X8_in
theorem dX8_number_0 : decode cX8_number 0 = .ok (.aload_n 0, 1) := by decide +kernel
theorem dX8_number_1 : decode cX8_number 1 = .ok (.invokevirtual 73, 3) := by decide +kernel
theorem dX8_number_4 : decode cX8_number 4 = .ok (.ifCond .ne 5, 3) := by decide +kernel
theorem dX8_number_7 : decode cX8_number 7 = .ok (.iconst 0, 1) := by decide +kernel
theorem dX8_number_8 : decode cX8_number 8 = .ok (.ireturn, 1) := by decide +kernel
theorem dX8_number_9 : decode cX8_number 9 = .ok (.aload_n 0, 1) := by decide +kernel
theorem dX8_number_10 : decode cX8_number 10 = .ok (.aload_n 0, 1) := by decide +kernel
theorem dX8_number_11 : decode cX8_number 11 = .ok (.getfield 16, 3) := by decide +kernel
theorem dX8_number_14 : decode cX8_number 14 = .ok (.aload_n 0, 1) := by decide +kernel
theorem dX8_number_15 : decode cX8_number 15 = .ok (.getfield 66, 3) := by decide +kernel
theorem dX8_number_18 : decode cX8_number 18 = .ok (.iaload, 1) := by decide +kernel
theorem dX8_number_19 : decode cX8_number 19 = .ok (.bipush 48, 2) := by decide +kernel
theorem dX8_number_21 : decode cX8_number 21 = .ok (.isub, 1) := by decide +kernel
theorem dX8_number_22 : decode cX8_number 22 = .ok (.putfield 77, 3) := by decide +kernel
theorem dX8_number_25 : decode cX8_number 25 = .ok (.aload_n 0, 1) := by decide +kernel
theorem dX8_number_26 : decode cX8_number 26 = .ok (.dup, 1) := by decide +kernel
theorem dX8_number_27 : decode cX8_number 27 = .ok (.getfield 66, 3) := by decide +kernel
theorem dX8_number_30 : decode cX8_number 30 = .ok (.iconst 1, 1) := by decide +kernel
theorem dX8_number_31 : decode cX8_number 31 = .ok (.iadd, 1) := by decide +kernel
theorem dX8_number_32 : decode cX8_number 32 = .ok (.putfield 66, 3) := by decide +kernel
theorem dX8_number_35 : decode cX8_number 35 = .ok (.aload_n 0, 1) := by decide +kernel
theorem dX8_number_36 : decode cX8_number 36 = .ok (.invokevirtual 73, 3) := by decide +kernel
theorem dX8_number_39 : decode cX8_number 39 = .ok (.ifCond .eq 37, 3) := by decide +kernel
theorem dX8_number_42 : decode cX8_number 42 = .ok (.aload_n 0, 1) := by decide +kernel
theorem dX8_number_43 : decode cX8_number 43 = .ok (.bipush 10, 2) := by decide +kernel
theorem dX8_number_45 : decode cX8_number 45 = .ok (.aload_n 0, 1) := by decide +kernel
theorem dX8_number_46 : decode cX8_number 46 = .ok (.getfield 77, 3) := by decide +kernel
theorem dX8_number_49 : decode cX8_number 49 = .ok (.imul, 1) := by decide +kernel
theorem dX8_number_50 : decode cX8_number 50 = .ok (.aload_n 0, 1) := by decide +kernel
theorem dX8_number_51 : decode cX8_number 51 = .ok (.getfield 16, 3) := by decide +kernel
theorem dX8_number_54 : decode cX8_number 54 = .ok (.aload_n 0, 1) := by decide +kernel
theorem dX8_number_55 : decode cX8_number 55 = .ok (.getfield 66, 3) := by decide +kernel
theorem dX8_number_58 : decode cX8_number 58 = .ok (.iaload, 1) := by decide +kernel
theorem dX8_number_59 : decode cX8_number 59 = .ok (.iadd, 1) := by decide +kernel
theorem dX8_number_60 : decode cX8_number 60 = .ok (.bipush 48, 2) := by decide +kernel
theorem dX8_number_62 : decode cX8_number 62 = .ok (.isub, 1) := by decide +kernel
theorem dX8_number_63 : decode cX8_number 63 = .ok (.putfield 77, 3) := by decide +kernel
theorem dX8_number_66 : decode cX8_number 66 = .ok (.aload_n 0, 1) := by decide +kernel
theorem dX8_number_67 : decode cX8_number 67 = .ok (.dup, 1) := by decide +kernel
theorem dX8_number_68 : decode cX8_number 68 = .ok (.getfield 66, 3) := by decide +kernel
theorem dX8_number_71 : decode cX8_number 71 = .ok (.iconst 1, 1) := by decide +kernel
theorem dX8_number_72 : decode cX8_number 72 = .ok (.iadd, 1) := by decide +kernel
theorem dX8_number_73 : decode cX8_number 73 = .ok (.putfield 66, 3) := by decide +kernel
theorem dX8_number_76 : decode cX8_number 76 = .ok (.aload_n 0, 1) := by decide +kernel
theorem dX8_number_77 : decode cX8_number 77 = .ok (.getfield 77, 3) := by decide +kernel
theorem dX8_number_80 : decode cX8_number 80 = .ok (.i2l, 1) := by decide +kernel
theorem dX8_number_81 : decode cX8_number 81 = .ok (.iload_n 1, 1) := by decide +kernel
theorem dX8_number_82 : decode cX8_number 82 = .ok (.i2l, 1) := by decide +kernel
theorem dX8_number_83 : decode cX8_number 83 = .ok (.iload_n 2, 1) := by decide +kernel
theorem dX8_number_84 : decode cX8_number 84 = .ok (.i2l, 1) := by decide +kernel
theorem dX8_number_85 : decode cX8_number 85 = .ok (.invokestatic 54, 3) := by decide +kernel
theorem dX8_number_88 : decode cX8_number 88 = .ok (.ifCond .eq 31, 3) := by decide +kernel
theorem dX8_number_91 : decode cX8_number 91 = .ok (.aload_n 0, 1) := by decide +kernel
theorem dX8_number_92 : decode cX8_number 92 = .ok (.getfield 66, 3) := by decide +kernel
theorem dX8_number_95 : decode cX8_number 95 = .ok (.aload_n 0, 1) := by decide +kernel
theorem dX8_number_96 : decode cX8_number 96 = .ok (.getfield 62, 3) := by decide +kernel
theorem dX8_number_99 : decode cX8_number 99 = .ok (.if_icmp .ge 20, 3) := by decide +kernel
theorem dX8_number_102 : decode cX8_number 102 = .ok (.aload_n 0, 1) := by decide +kernel
theorem dX8_number_103 : decode cX8_number 103 = .ok (.getfield 16, 3) := by decide +kernel
theorem dX8_number_106 : decode cX8_number 106 = .ok (.aload_n 0, 1) := by decide +kernel
theorem dX8_number_107 : decode cX8_number 107 = .ok (.getfield 66, 3) := by decide +kernel
theorem dX8_number_110 : decode cX8_number 110 = .ok (.iaload, 1) := by decide +kernel
theorem dX8_number_111 : decode cX8_number 111 = .ok (.iload_n 3, 1) := by decide +kernel
theorem dX8_number_112 : decode cX8_number 112 = .ok (.if_icmp .ne 7, 3) := by decide +kernel
theorem dX8_number_115 : decode cX8_number 115 = .ok (.iconst 1, 1) := by decide +kernel
theorem dX8_number_116 : decode cX8_number 116 = .ok (.goto 4, 3) := by decide +kernel
theorem dX8_number_119 : decode cX8_number 119 = .ok (.iconst 0, 1) := by decide +kernel
theorem dX8_number_120 : decode cX8_number 120 = .ok (.istore 4, 2) := by decide +kernel
theorem dX8_number_122 : decode cX8_number 122 = .ok (.aload_n 0, 1) := by decide +kernel
theorem dX8_number_123 : decode cX8_number 123 = .ok (.dup, 1) := by decide +kernel
theorem dX8_number_124 : decode cX8_number 124 = .ok (.getfield 66, 3) := by decide +kernel
theorem dX8_number_127 : decode cX8_number 127 = .ok (.iconst 1, 1) := by decide +kernel
theorem dX8_number_128 : decode cX8_number 128 = .ok (.iadd, 1) := by decide +kernel
theorem dX8_number_129 : decode cX8_number 129 = .ok (.putfield 66, 3) := by decide +kernel
theorem dX8_number_132 : decode cX8_number 132 = .ok (.iload 4, 2) := by decide +kernel
theorem dX8_number_134 : decode cX8_number 134 = .ok (.ireturn, 1) := by decide +kernel
set_option maxRecDepth 20000 in
theorem ggX8_readYard_X8_number : GoodIn wsX8_readYard wsX8_number := goodIn_r _ [8, 9, 10, 2, 11, 12, 13, 14, 7, 15, 16, 17, 18, 19, 20, 21, 22, 23, 24, 25, 26, 27, 28, 29, 30, 31, 32, 33, 34, 35, 36, 37, 38, 39, 40, 41, 42, 43, 44] (by decide +kernel) (by decide +kernel)
set_option maxRecDepth 20000 in
theorem gX8_readYard_X8_number : GoodIn wsX8_readYard (wsV RX8 84 RX8 yX8_number wsX8_number) := goodIn_app (goodIn_of _ (by decide +kernel)) ggX8_readYard_X8_number
theorem dX8_readYard_0 : decode cX8_readYard 0 = .ok (.aload_n 0, 1) := by decide +kernel
theorem dX8_readYard_1 : decode cX8_readYard 1 = .ok (.getfield 80, 3) := by decide +kernel
theorem dX8_readYard_4 : decode cX8_readYard 4 = .ok (.ifCond .ne 14, 3) := by decide +kernel
theorem dX8_readYard_7 : decode cX8_readYard 7 = .ok (.aload_n 0, 1) := by decide +kernel
theorem dX8_readYard_8 : decode cX8_readYard 8 = .ok (.iconst 3, 1) := by decide +kernel
theorem dX8_readYard_9 : decode cX8_readYard 9 = .ok (.iconst 5, 1) := by decide +kernel
theorem dX8_readYard_10 : decode cX8_readYard 10 = .ok (.bipush 44, 2) := by decide +kernel
theorem dX8_readYard_12 : decode cX8_readYard 12 = .ok (.invokevirtual 84, 3) := by decide +kernel
theorem dX8_readYard_15 : decode cX8_readYard 15 = .ok (.ifCond .ne 5, 3) := by decide +kernel
theorem dX8_readYard_18 : decode cX8_readYard 18 = .ok (.iconst 0, 1) := by decide +kernel
theorem dX8_readYard_19 : decode cX8_readYard 19 = .ok (.ireturn, 1) := by decide +kernel
theorem dX8_readYard_20 : decode cX8_readYard 20 = .ok (.aload_n 0, 1) := by decide +kernel
theorem dX8_readYard_21 : decode cX8_readYard 21 = .ok (.getfield 77, 3) := by decide +kernel
theorem dX8_readYard_24 : decode cX8_readYard 24 = .ok (.istore_n 1, 1) := by decide +kernel
theorem dX8_readYard_25 : decode cX8_readYard 25 = .ok (.aload_n 0, 1) := by decide +kernel
theorem dX8_readYard_26 : decode cX8_readYard 26 = .ok (.iconst 2, 1) := by decide +kernel
theorem dX8_readYard_27 : decode cX8_readYard 27 = .ok (.iconst 5, 1) := by decide +kernel
theorem dX8_readYard_28 : decode cX8_readYard 28 = .ok (.bipush 59, 2) := by decide +kernel
theorem dX8_readYard_30 : decode cX8_readYard 30 = .ok (.invokevirtual 84, 3) := by decide +kernel
theorem dX8_readYard_33 : decode cX8_readYard 33 = .ok (.ifCond .ne 5, 3) := by decide +kernel
theorem dX8_readYard_36 : decode cX8_readYard 36 = .ok (.iconst 0, 1) := by decide +kernel
theorem dX8_readYard_37 : decode cX8_readYard 37 = .ok (.ireturn, 1) := by decide +kernel
theorem dX8_readYard_38 : decode cX8_readYard 38 = .ok (.aload_n 0, 1) := by decide +kernel
theorem dX8_readYard_39 : decode cX8_readYard 39 = .ok (.getfield 19, 3) := by decide +kernel
theorem dX8_readYard_42 : decode cX8_readYard 42 = .ok (.iconst 0, 1) := by decide +kernel
theorem dX8_readYard_43 : decode cX8_readYard 43 = .ok (.iload_n 1, 1) := by decide +kernel
theorem dX8_readYard_44 : decode cX8_readYard 44 = .ok (.iastore, 1) := by decide +kernel
theorem dX8_readYard_45 : decode cX8_readYard 45 = .ok (.aload_n 0, 1) := by decide +kernel
theorem dX8_readYard_46 : decode cX8_readYard 46 = .ok (.getfield 19, 3) := by decide +kernel
theorem dX8_readYard_49 : decode cX8_readYard 49 = .ok (.iconst 1, 1) := by decide +kernel
theorem dX8_readYard_50 : decode cX8_readYard 50 = .ok (.aload_n 0, 1) := by decide +kernel
theorem dX8_readYard_51 : decode cX8_readYard 51 = .ok (.getfield 77, 3) := by decide +kernel
theorem dX8_readYard_54 : decode cX8_readYard 54 = .ok (.iastore, 1) := by decide +kernel
theorem dX8_readYard_55 : decode cX8_readYard 55 = .ok (.iconst 1, 1) := by decide +kernel
theorem dX8_readYard_56 : decode cX8_readYard 56 = .ok (.ireturn, 1) := by decide +kernel
set_option maxRecDepth 20000 in
theorem ggX8_readKind_X8_number : GoodIn wsX8_readKind wsX8_number := goodIn_r _ [7, 8, 9, 2, 10, 11, 12, 13, 6, 14, 15, 16, 17, 18, 19, 20, 21, 22, 23, 24, 25, 26, 27, 28, 29, 30, 31, 32, 33, 34, 35, 36, 37, 38, 39, 40, 41, 42, 43] (by decide +kernel) (by decide +kernel)
set_option maxRecDepth 20000 in
theorem gX8_readKind_X8_number : GoodIn wsX8_readKind (wsV RX8 84 RX8 yX8_number wsX8_number) := goodIn_app (goodIn_of _ (by decide +kernel)) ggX8_readKind_X8_number
theorem dX8_readKind_0 : decode cX8_readKind 0 = .ok (.aload_n 0, 1) := by decide +kernel
theorem dX8_readKind_1 : decode cX8_readKind 1 = .ok (.iconst 0, 1) := by decide +kernel
theorem dX8_readKind_2 : decode cX8_readKind 2 = .ok (.aload_n 0, 1) := by decide +kernel
theorem dX8_readKind_3 : decode cX8_readKind 3 = .ok (.getfield 19, 3) := by decide +kernel
theorem dX8_readKind_6 : decode cX8_readKind 6 = .ok (.iconst 0, 1) := by decide +kernel
theorem dX8_readKind_7 : decode cX8_readKind 7 = .ok (.iaload, 1) := by decide +kernel
theorem dX8_readKind_8 : decode cX8_readKind 8 = .ok (.aload_n 0, 1) := by decide +kernel
theorem dX8_readKind_9 : decode cX8_readKind 9 = .ok (.getfield 19, 3) := by decide +kernel
theorem dX8_readKind_12 : decode cX8_readKind 12 = .ok (.iconst 1, 1) := by decide +kernel
theorem dX8_readKind_13 : decode cX8_readKind 13 = .ok (.iaload, 1) := by decide +kernel
theorem dX8_readKind_14 : decode cX8_readKind 14 = .ok (.imul, 1) := by decide +kernel
theorem dX8_readKind_15 : decode cX8_readKind 15 = .ok (.iconst 1, 1) := by decide +kernel
theorem dX8_readKind_16 : decode cX8_readKind 16 = .ok (.isub, 1) := by decide +kernel
theorem dX8_readKind_17 : decode cX8_readKind 17 = .ok (.bipush 44, 2) := by decide +kernel
theorem dX8_readKind_19 : decode cX8_readKind 19 = .ok (.invokevirtual 84, 3) := by decide +kernel
theorem dX8_readKind_22 : decode cX8_readKind 22 = .ok (.ifCond .ne 5, 3) := by decide +kernel
theorem dX8_readKind_25 : decode cX8_readKind 25 = .ok (.iconst 0, 1) := by decide +kernel
theorem dX8_readKind_26 : decode cX8_readKind 26 = .ok (.ireturn, 1) := by decide +kernel
theorem dX8_readKind_27 : decode cX8_readKind 27 = .ok (.aload_n 0, 1) := by decide +kernel
theorem dX8_readKind_28 : decode cX8_readKind 28 = .ok (.getfield 77, 3) := by decide +kernel
theorem dX8_readKind_31 : decode cX8_readKind 31 = .ok (.istore_n 1, 1) := by decide +kernel
theorem dX8_readKind_32 : decode cX8_readKind 32 = .ok (.aload_n 0, 1) := by decide +kernel
theorem dX8_readKind_33 : decode cX8_readKind 33 = .ok (.iconst 0, 1) := by decide +kernel
theorem dX8_readKind_34 : decode cX8_readKind 34 = .ok (.iconst 4, 1) := by decide +kernel
theorem dX8_readKind_35 : decode cX8_readKind 35 = .ok (.bipush 59, 2) := by decide +kernel
theorem dX8_readKind_37 : decode cX8_readKind 37 = .ok (.invokevirtual 84, 3) := by decide +kernel
theorem dX8_readKind_40 : decode cX8_readKind 40 = .ok (.istore_n 2, 1) := by decide +kernel
theorem dX8_readKind_41 : decode cX8_readKind 41 = .ok (.aload_n 0, 1) := by decide +kernel
theorem dX8_readKind_42 : decode cX8_readKind 42 = .ok (.getfield 19, 3) := by decide +kernel
theorem dX8_readKind_45 : decode cX8_readKind 45 = .ok (.bipush 29, 2) := by decide +kernel
theorem dX8_readKind_47 : decode cX8_readKind 47 = .ok (.iload_n 1, 1) := by decide +kernel
theorem dX8_readKind_48 : decode cX8_readKind 48 = .ok (.iadd, 1) := by decide +kernel
theorem dX8_readKind_49 : decode cX8_readKind 49 = .ok (.aload_n 0, 1) := by decide +kernel
theorem dX8_readKind_50 : decode cX8_readKind 50 = .ok (.getfield 77, 3) := by decide +kernel
theorem dX8_readKind_53 : decode cX8_readKind 53 = .ok (.iastore, 1) := by decide +kernel
theorem dX8_readKind_54 : decode cX8_readKind 54 = .ok (.iload_n 2, 1) := by decide +kernel
theorem dX8_readKind_55 : decode cX8_readKind 55 = .ok (.ireturn, 1) := by decide +kernel
set_option maxRecDepth 20000 in
theorem ggX8_readRent_X8_number : GoodIn wsX8_readRent wsX8_number := goodIn_r _ [7, 8, 9, 2, 10, 11, 12, 13, 6, 14, 15, 16, 17, 18, 19, 20, 21, 22, 23, 24, 25, 26, 27, 28, 29, 30, 31, 32, 33, 34, 35, 36, 37, 38, 39, 40, 41, 42, 43] (by decide +kernel) (by decide +kernel)
set_option maxRecDepth 20000 in
theorem gX8_readRent_X8_number : GoodIn wsX8_readRent (wsV RX8 84 RX8 yX8_number wsX8_number) := goodIn_app (goodIn_of _ (by decide +kernel)) ggX8_readRent_X8_number
theorem dX8_readRent_0 : decode cX8_readRent 0 = .ok (.aload_n 0, 1) := by decide +kernel
theorem dX8_readRent_1 : decode cX8_readRent 1 = .ok (.getfield 19, 3) := by decide +kernel
theorem dX8_readRent_4 : decode cX8_readRent 4 = .ok (.bipush 13, 2) := by decide +kernel
theorem dX8_readRent_6 : decode cX8_readRent 6 = .ok (.iaload, 1) := by decide +kernel
theorem dX8_readRent_7 : decode cX8_readRent 7 = .ok (.istore_n 1, 1) := by decide +kernel
theorem dX8_readRent_8 : decode cX8_readRent 8 = .ok (.iload_n 1, 1) := by decide +kernel
theorem dX8_readRent_9 : decode cX8_readRent 9 = .ok (.iconst 5, 1) := by decide +kernel
theorem dX8_readRent_10 : decode cX8_readRent 10 = .ok (.if_icmp .eq 15, 3) := by decide +kernel
theorem dX8_readRent_13 : decode cX8_readRent 13 = .ok (.aload_n 0, 1) := by decide +kernel
theorem dX8_readRent_14 : decode cX8_readRent 14 = .ok (.iconst 0, 1) := by decide +kernel
theorem dX8_readRent_15 : decode cX8_readRent 15 = .ok (.bipush 60, 2) := by decide +kernel
theorem dX8_readRent_17 : decode cX8_readRent 17 = .ok (.bipush 44, 2) := by decide +kernel
theorem dX8_readRent_19 : decode cX8_readRent 19 = .ok (.invokevirtual 84, 3) := by decide +kernel
theorem dX8_readRent_22 : decode cX8_readRent 22 = .ok (.ifCond .ne 5, 3) := by decide +kernel
theorem dX8_readRent_25 : decode cX8_readRent 25 = .ok (.iconst 0, 1) := by decide +kernel
theorem dX8_readRent_26 : decode cX8_readRent 26 = .ok (.ireturn, 1) := by decide +kernel
theorem dX8_readRent_27 : decode cX8_readRent 27 = .ok (.aload_n 0, 1) := by decide +kernel
theorem dX8_readRent_28 : decode cX8_readRent 28 = .ok (.getfield 19, 3) := by decide +kernel
theorem dX8_readRent_31 : decode cX8_readRent 31 = .ok (.bipush 14, 2) := by decide +kernel
theorem dX8_readRent_33 : decode cX8_readRent 33 = .ok (.iconst 2, 1) := by decide +kernel
theorem dX8_readRent_34 : decode cX8_readRent 34 = .ok (.iload_n 1, 1) := by decide +kernel
theorem dX8_readRent_35 : decode cX8_readRent 35 = .ok (.imul, 1) := by decide +kernel
theorem dX8_readRent_36 : decode cX8_readRent 36 = .ok (.iadd, 1) := by decide +kernel
theorem dX8_readRent_37 : decode cX8_readRent 37 = .ok (.aload_n 0, 1) := by decide +kernel
theorem dX8_readRent_38 : decode cX8_readRent 38 = .ok (.getfield 77, 3) := by decide +kernel
theorem dX8_readRent_41 : decode cX8_readRent 41 = .ok (.iastore, 1) := by decide +kernel
theorem dX8_readRent_42 : decode cX8_readRent 42 = .ok (.aload_n 0, 1) := by decide +kernel
theorem dX8_readRent_43 : decode cX8_readRent 43 = .ok (.iconst 1, 1) := by decide +kernel
theorem dX8_readRent_44 : decode cX8_readRent 44 = .ok (.bipush 99, 2) := by decide +kernel
theorem dX8_readRent_46 : decode cX8_readRent 46 = .ok (.bipush 59, 2) := by decide +kernel
theorem dX8_readRent_48 : decode cX8_readRent 48 = .ok (.invokevirtual 84, 3) := by decide +kernel
theorem dX8_readRent_51 : decode cX8_readRent 51 = .ok (.istore_n 2, 1) := by decide +kernel
theorem dX8_readRent_52 : decode cX8_readRent 52 = .ok (.aload_n 0, 1) := by decide +kernel
theorem dX8_readRent_53 : decode cX8_readRent 53 = .ok (.getfield 19, 3) := by decide +kernel
theorem dX8_readRent_56 : decode cX8_readRent 56 = .ok (.bipush 15, 2) := by decide +kernel
theorem dX8_readRent_58 : decode cX8_readRent 58 = .ok (.iconst 2, 1) := by decide +kernel
theorem dX8_readRent_59 : decode cX8_readRent 59 = .ok (.iload_n 1, 1) := by decide +kernel
theorem dX8_readRent_60 : decode cX8_readRent 60 = .ok (.imul, 1) := by decide +kernel
theorem dX8_readRent_61 : decode cX8_readRent 61 = .ok (.iadd, 1) := by decide +kernel
theorem dX8_readRent_62 : decode cX8_readRent 62 = .ok (.aload_n 0, 1) := by decide +kernel
theorem dX8_readRent_63 : decode cX8_readRent 63 = .ok (.getfield 77, 3) := by decide +kernel
theorem dX8_readRent_66 : decode cX8_readRent 66 = .ok (.iastore, 1) := by decide +kernel
theorem dX8_readRent_67 : decode cX8_readRent 67 = .ok (.aload_n 0, 1) := by decide +kernel
theorem dX8_readRent_68 : decode cX8_readRent 68 = .ok (.getfield 19, 3) := by decide +kernel
theorem dX8_readRent_71 : decode cX8_readRent 71 = .ok (.bipush 13, 2) := by decide +kernel
theorem dX8_readRent_73 : decode cX8_readRent 73 = .ok (.dup2, 1) := by decide +kernel
theorem dX8_readRent_74 : decode cX8_readRent 74 = .ok (.iaload, 1) := by decide +kernel
theorem dX8_readRent_75 : decode cX8_readRent 75 = .ok (.iconst 1, 1) := by decide +kernel
theorem dX8_readRent_76 : decode cX8_readRent 76 = .ok (.iadd, 1) := by decide +kernel
theorem dX8_readRent_77 : decode cX8_readRent 77 = .ok (.iastore, 1) := by decide +kernel
theorem dX8_readRent_78 : decode cX8_readRent 78 = .ok (.iload_n 2, 1) := by decide +kernel
theorem dX8_readRent_79 : decode cX8_readRent 79 = .ok (.ireturn, 1) := by decide +kernel
set_option maxRecDepth 20000 in
theorem ggX8_readOne_X8_number : GoodIn wsX8_readOne wsX8_number := goodIn_r _ [7, 8, 9, 2, 10, 11, 12, 13, 6, 14, 15, 16, 17, 18, 19, 20, 21, 22, 23, 24, 25, 26, 27, 28, 29, 30, 31, 32, 33, 34, 35, 36, 37, 38, 39, 40, 41, 42, 43] (by decide +kernel) (by decide +kernel)
set_option maxRecDepth 20000 in
theorem gX8_readOne_X8_number : GoodIn wsX8_readOne (wsV RX8 84 RX8 yX8_number wsX8_number) := goodIn_app (goodIn_of _ (by decide +kernel)) ggX8_readOne_X8_number
theorem dX8_readOne_0 : decode cX8_readOne 0 = .ok (.aload_n 0, 1) := by decide +kernel
theorem dX8_readOne_1 : decode cX8_readOne 1 = .ok (.getfield 19, 3) := by decide +kernel
theorem dX8_readOne_4 : decode cX8_readOne 4 = .ok (.iload_n 1, 1) := by decide +kernel
theorem dX8_readOne_5 : decode cX8_readOne 5 = .ok (.iaload, 1) := by decide +kernel
theorem dX8_readOne_6 : decode cX8_readOne 6 = .ok (.iload_n 2, 1) := by decide +kernel
theorem dX8_readOne_7 : decode cX8_readOne 7 = .ok (.if_icmp .eq 14, 3) := by decide +kernel
theorem dX8_readOne_10 : decode cX8_readOne 10 = .ok (.aload_n 0, 1) := by decide +kernel
theorem dX8_readOne_11 : decode cX8_readOne 11 = .ok (.iconst 0, 1) := by decide +kernel
theorem dX8_readOne_12 : decode cX8_readOne 12 = .ok (.iload_n 3, 1) := by decide +kernel
theorem dX8_readOne_13 : decode cX8_readOne 13 = .ok (.bipush 59, 2) := by decide +kernel
theorem dX8_readOne_15 : decode cX8_readOne 15 = .ok (.invokevirtual 84, 3) := by decide +kernel
theorem dX8_readOne_18 : decode cX8_readOne 18 = .ok (.ifCond .ne 5, 3) := by decide +kernel
theorem dX8_readOne_21 : decode cX8_readOne 21 = .ok (.iconst 0, 1) := by decide +kernel
theorem dX8_readOne_22 : decode cX8_readOne 22 = .ok (.ireturn, 1) := by decide +kernel
theorem dX8_readOne_23 : decode cX8_readOne 23 = .ok (.aload_n 0, 1) := by decide +kernel
theorem dX8_readOne_24 : decode cX8_readOne 24 = .ok (.getfield 19, 3) := by decide +kernel
theorem dX8_readOne_27 : decode cX8_readOne 27 = .ok (.iload_n 1, 1) := by decide +kernel
theorem dX8_readOne_28 : decode cX8_readOne 28 = .ok (.dup2, 1) := by decide +kernel
theorem dX8_readOne_29 : decode cX8_readOne 29 = .ok (.iaload, 1) := by decide +kernel
theorem dX8_readOne_30 : decode cX8_readOne 30 = .ok (.iconst 1, 1) := by decide +kernel
theorem dX8_readOne_31 : decode cX8_readOne 31 = .ok (.iadd, 1) := by decide +kernel
theorem dX8_readOne_32 : decode cX8_readOne 32 = .ok (.iastore, 1) := by decide +kernel
theorem dX8_readOne_33 : decode cX8_readOne 33 = .ok (.aload_n 0, 1) := by decide +kernel
theorem dX8_readOne_34 : decode cX8_readOne 34 = .ok (.getfield 19, 3) := by decide +kernel
theorem dX8_readOne_37 : decode cX8_readOne 37 = .ok (.iload_n 1, 1) := by decide +kernel
theorem dX8_readOne_38 : decode cX8_readOne 38 = .ok (.aload_n 0, 1) := by decide +kernel
theorem dX8_readOne_39 : decode cX8_readOne 39 = .ok (.getfield 19, 3) := by decide +kernel
theorem dX8_readOne_42 : decode cX8_readOne 42 = .ok (.iload_n 1, 1) := by decide +kernel
theorem dX8_readOne_43 : decode cX8_readOne 43 = .ok (.iaload, 1) := by decide +kernel
theorem dX8_readOne_44 : decode cX8_readOne 44 = .ok (.iadd, 1) := by decide +kernel
theorem dX8_readOne_45 : decode cX8_readOne 45 = .ok (.aload_n 0, 1) := by decide +kernel
theorem dX8_readOne_46 : decode cX8_readOne 46 = .ok (.getfield 77, 3) := by decide +kernel
theorem dX8_readOne_49 : decode cX8_readOne 49 = .ok (.iastore, 1) := by decide +kernel
theorem dX8_readOne_50 : decode cX8_readOne 50 = .ok (.iconst 1, 1) := by decide +kernel
theorem dX8_readOne_51 : decode cX8_readOne 51 = .ok (.ireturn, 1) := by decide +kernel
set_option maxRecDepth 20000 in
theorem ggX8_item_X8_readYard : GoodIn wsX8_item wsX8_readYard := goodIn_r _ [10, 3, 5, 4, 11, 12, 13, 9, 14, 1, 2, 15, 16, 17, 18, 19, 20, 21, 22, 23, 24, 37, 38, 39, 40, 41, 42, 43, 44, 45, 46, 47, 48, 49, 50, 51, 52, 53, 54, 55, 56, 57, 58, 59, 60] (by decide +kernel) (by decide +kernel)
set_option maxRecDepth 20000 in
theorem gX8_item_X8_readYard : GoodIn wsX8_item (wsV RX8 88 RX8 yX8_readYard wsX8_readYard) := goodIn_app (goodIn_of _ (by decide +kernel)) ggX8_item_X8_readYard
set_option maxRecDepth 20000 in
theorem ggX8_item_X8_readKind : GoodIn wsX8_item wsX8_readKind := goodIn_r _ [28, 4, 5, 11, 12, 13, 9, 14, 1, 2, 15, 16, 17, 18, 19, 20, 21, 22, 23, 24, 37, 38, 39, 40, 41, 42, 43, 44, 45, 46, 47, 48, 49, 50, 51, 52, 53, 54, 55, 56, 57, 58, 59, 60] (by decide +kernel) (by decide +kernel)
set_option maxRecDepth 20000 in
theorem gX8_item_X8_readKind : GoodIn wsX8_item (wsV RX8 91 RX8 yX8_readKind wsX8_readKind) := goodIn_app (goodIn_of _ (by decide +kernel)) ggX8_item_X8_readKind
set_option maxRecDepth 20000 in
theorem ggX8_item_X8_number : GoodIn wsX8_item wsX8_number := goodIn_r _ [14, 1, 2, 5, 15, 16, 17, 18, 9, 19, 20, 21, 22, 23, 24, 37, 38, 39, 40, 41, 42, 43, 44, 45, 46, 47, 48, 49, 50, 51, 52, 53, 54, 55, 56, 57, 58, 59, 60] (by decide +kernel) (by decide +kernel)
set_option maxRecDepth 20000 in
theorem gX8_item_X8_number : GoodIn wsX8_item (wsV RX8 84 RX8 yX8_number wsX8_number) := goodIn_app (goodIn_of _ (by decide +kernel)) ggX8_item_X8_number
set_option maxRecDepth 20000 in
theorem ggX8_item_X8_readOne : GoodIn wsX8_item wsX8_readOne := goodIn_r _ [32, 4, 5, 11, 12, 13, 9, 14, 1, 2, 15, 16, 17, 18, 19, 20, 21, 22, 23, 24, 37, 38, 39, 40, 41, 42, 43, 44, 45, 46, 47, 48, 49, 50, 51, 52, 53, 54, 55, 56, 57, 58, 59, 60] (by decide +kernel) (by decide +kernel)
set_option maxRecDepth 20000 in
theorem gX8_item_X8_readOne : GoodIn wsX8_item (wsV RX8 94 RX8 yX8_readOne wsX8_readOne) := goodIn_app (goodIn_of _ (by decide +kernel)) ggX8_item_X8_readOne
set_option maxRecDepth 20000 in
theorem ggX8_item_X8_readRent : GoodIn wsX8_item wsX8_readRent := goodIn_r _ [36, 4, 5, 11, 12, 13, 9, 14, 1, 2, 15, 16, 17, 18, 19, 20, 21, 22, 23, 24, 37, 38, 39, 40, 41, 42, 43, 44, 45, 46, 47, 48, 49, 50, 51, 52, 53, 54, 55, 56, 57, 58, 59, 60] (by decide +kernel) (by decide +kernel)
set_option maxRecDepth 20000 in
theorem gX8_item_X8_readRent : GoodIn wsX8_item (wsV RX8 97 RX8 yX8_readRent wsX8_readRent) := goodIn_app (goodIn_of _ (by decide +kernel)) ggX8_item_X8_readRent
theorem dX8_item_0 : decode cX8_item 0 = .ok (.aload_n 0, 1) := by decide +kernel
theorem dX8_item_1 : decode cX8_item 1 = .ok (.getfield 16, 3) := by decide +kernel
theorem dX8_item_4 : decode cX8_item 4 = .ok (.aload_n 0, 1) := by decide +kernel
theorem dX8_item_5 : decode cX8_item 5 = .ok (.getfield 66, 3) := by decide +kernel
theorem dX8_item_8 : decode cX8_item 8 = .ok (.iaload, 1) := by decide +kernel
theorem dX8_item_9 : decode cX8_item 9 = .ok (.istore_n 1, 1) := by decide +kernel
theorem dX8_item_10 : decode cX8_item 10 = .ok (.aload_n 0, 1) := by decide +kernel
theorem dX8_item_11 : decode cX8_item 11 = .ok (.dup, 1) := by decide +kernel
theorem dX8_item_12 : decode cX8_item 12 = .ok (.getfield 66, 3) := by decide +kernel
theorem dX8_item_15 : decode cX8_item 15 = .ok (.iconst 1, 1) := by decide +kernel
theorem dX8_item_16 : decode cX8_item 16 = .ok (.iadd, 1) := by decide +kernel
theorem dX8_item_17 : decode cX8_item 17 = .ok (.putfield 66, 3) := by decide +kernel
theorem dX8_item_20 : decode cX8_item 20 = .ok (.iload_n 1, 1) := by decide +kernel
theorem dX8_item_21 : decode cX8_item 21 = .ok (.bipush 121, 2) := by decide +kernel
theorem dX8_item_23 : decode cX8_item 23 = .ok (.if_icmp .ne 8, 3) := by decide +kernel
theorem dX8_item_26 : decode cX8_item 26 = .ok (.aload_n 0, 1) := by decide +kernel
theorem dX8_item_27 : decode cX8_item 27 = .ok (.invokevirtual 88, 3) := by decide +kernel
theorem dX8_item_30 : decode cX8_item 30 = .ok (.ireturn, 1) := by decide +kernel
theorem dX8_item_31 : decode cX8_item 31 = .ok (.aload_n 0, 1) := by decide +kernel
theorem dX8_item_32 : decode cX8_item 32 = .ok (.iconst 1, 1) := by decide +kernel
theorem dX8_item_33 : decode cX8_item 33 = .ok (.putfield 80, 3) := by decide +kernel
theorem dX8_item_36 : decode cX8_item 36 = .ok (.iload_n 1, 1) := by decide +kernel
theorem dX8_item_37 : decode cX8_item 37 = .ok (.lookupswitch 108 #[(100, 84), (104, 99), (107, 51), (114, 94), (115, 56)], 51) := by decide +kernel
theorem dX8_item_88 : decode cX8_item 88 = .ok (.aload_n 0, 1) := by decide +kernel
theorem dX8_item_89 : decode cX8_item 89 = .ok (.invokevirtual 91, 3) := by decide +kernel
theorem dX8_item_92 : decode cX8_item 92 = .ok (.ireturn, 1) := by decide +kernel
theorem dX8_item_93 : decode cX8_item 93 = .ok (.aload_n 0, 1) := by decide +kernel
theorem dX8_item_94 : decode cX8_item 94 = .ok (.iconst 0, 1) := by decide +kernel
theorem dX8_item_95 : decode cX8_item 95 = .ok (.aload_n 0, 1) := by decide +kernel
theorem dX8_item_96 : decode cX8_item 96 = .ok (.getfield 19, 3) := by decide +kernel
theorem dX8_item_99 : decode cX8_item 99 = .ok (.iconst 1, 1) := by decide +kernel
theorem dX8_item_100 : decode cX8_item 100 = .ok (.iaload, 1) := by decide +kernel
theorem dX8_item_101 : decode cX8_item 101 = .ok (.iconst 1, 1) := by decide +kernel
theorem dX8_item_102 : decode cX8_item 102 = .ok (.isub, 1) := by decide +kernel
theorem dX8_item_103 : decode cX8_item 103 = .ok (.bipush 59, 2) := by decide +kernel
theorem dX8_item_105 : decode cX8_item 105 = .ok (.invokevirtual 84, 3) := by decide +kernel
theorem dX8_item_108 : decode cX8_item 108 = .ok (.istore_n 2, 1) := by decide +kernel
theorem dX8_item_109 : decode cX8_item 109 = .ok (.aload_n 0, 1) := by decide +kernel
theorem dX8_item_110 : decode cX8_item 110 = .ok (.getfield 19, 3) := by decide +kernel
theorem dX8_item_113 : decode cX8_item 113 = .ok (.iconst 2, 1) := by decide +kernel
theorem dX8_item_114 : decode cX8_item 114 = .ok (.aload_n 0, 1) := by decide +kernel
theorem dX8_item_115 : decode cX8_item 115 = .ok (.getfield 77, 3) := by decide +kernel
theorem dX8_item_118 : decode cX8_item 118 = .ok (.iastore, 1) := by decide +kernel
theorem dX8_item_119 : decode cX8_item 119 = .ok (.iload_n 2, 1) := by decide +kernel
theorem dX8_item_120 : decode cX8_item 120 = .ok (.ireturn, 1) := by decide +kernel
theorem dX8_item_121 : decode cX8_item 121 = .ok (.aload_n 0, 1) := by decide +kernel
theorem dX8_item_122 : decode cX8_item 122 = .ok (.iconst 3, 1) := by decide +kernel
theorem dX8_item_123 : decode cX8_item 123 = .ok (.bipush 9, 2) := by decide +kernel
theorem dX8_item_125 : decode cX8_item 125 = .ok (.bipush 9, 2) := by decide +kernel
theorem dX8_item_127 : decode cX8_item 127 = .ok (.invokevirtual 94, 3) := by decide +kernel
theorem dX8_item_130 : decode cX8_item 130 = .ok (.ireturn, 1) := by decide +kernel
theorem dX8_item_131 : decode cX8_item 131 = .ok (.aload_n 0, 1) := by decide +kernel
theorem dX8_item_132 : decode cX8_item 132 = .ok (.invokevirtual 97, 3) := by decide +kernel
theorem dX8_item_135 : decode cX8_item 135 = .ok (.ireturn, 1) := by decide +kernel
theorem dX8_item_136 : decode cX8_item 136 = .ok (.aload_n 0, 1) := by decide +kernel
theorem dX8_item_137 : decode cX8_item 137 = .ok (.bipush 24, 2) := by decide +kernel
theorem dX8_item_139 : decode cX8_item 139 = .ok (.iconst 4, 1) := by decide +kernel
theorem dX8_item_140 : decode cX8_item 140 = .ok (.iconst 4, 1) := by decide +kernel
theorem dX8_item_141 : decode cX8_item 141 = .ok (.invokevirtual 94, 3) := by decide +kernel
theorem dX8_item_144 : decode cX8_item 144 = .ok (.ireturn, 1) := by decide +kernel
theorem dX8_item_145 : decode cX8_item 145 = .ok (.iconst 0, 1) := by decide +kernel
theorem dX8_item_146 : decode cX8_item 146 = .ok (.ireturn, 1) := by decide +kernel
set_option maxRecDepth 20000 in
theorem ggX8_fault_X8_item : GoodIn wsX8_fault wsX8_item := goodIn_r _ [9, 10, 3, 2, 1, 11, 12, 13, 14, 8, 15, 16, 17, 18, 19, 4, 20, 21, 22, 23, 24, 25, 26, 27, 28, 29, 30, 31, 32, 33, 34, 35, 36, 37, 38, 39, 40, 41, 42, 43, 44, 45, 46, 47, 48, 49, 50, 51, 52, 53, 54, 55, 56, 57, 58, 59, 60, 61, 62, 63, 64] (by decide +kernel) (by decide +kernel)
set_option maxRecDepth 20000 in
theorem gX8_fault_X8_item : GoodIn wsX8_fault (wsV RX8 100 RX8 yX8_item wsX8_item) := goodIn_app (goodIn_of _ (by decide +kernel)) ggX8_fault_X8_item
theorem dX8_fault_0 : decode cX8_fault 0 = .ok (.iconst 0, 1) := by decide +kernel
theorem dX8_fault_1 : decode cX8_fault 1 = .ok (.istore_n 1, 1) := by decide +kernel
theorem dX8_fault_2 : decode cX8_fault 2 = .ok (.iload_n 1, 1) := by decide +kernel
theorem dX8_fault_3 : decode cX8_fault 3 = .ok (.bipush 54, 2) := by decide +kernel
theorem dX8_fault_5 : decode cX8_fault 5 = .ok (.if_icmp .ge 16, 3) := by decide +kernel
theorem dX8_fault_8 : decode cX8_fault 8 = .ok (.aload_n 0, 1) := by decide +kernel
theorem dX8_fault_9 : decode cX8_fault 9 = .ok (.getfield 19, 3) := by decide +kernel
theorem dX8_fault_12 : decode cX8_fault 12 = .ok (.iload_n 1, 1) := by decide +kernel
theorem dX8_fault_13 : decode cX8_fault 13 = .ok (.iconst 0, 1) := by decide +kernel
theorem dX8_fault_14 : decode cX8_fault 14 = .ok (.iastore, 1) := by decide +kernel
theorem dX8_fault_15 : decode cX8_fault 15 = .ok (.iinc 1 1, 3) := by decide +kernel
theorem dX8_fault_18 : decode cX8_fault 18 = .ok (.goto (-16), 3) := by decide +kernel
theorem dX8_fault_21 : decode cX8_fault 21 = .ok (.aload_n 0, 1) := by decide +kernel
theorem dX8_fault_22 : decode cX8_fault 22 = .ok (.getfield 19, 3) := by decide +kernel
theorem dX8_fault_25 : decode cX8_fault 25 = .ok (.iconst 0, 1) := by decide +kernel
theorem dX8_fault_26 : decode cX8_fault 26 = .ok (.iconst 5, 1) := by decide +kernel
theorem dX8_fault_27 : decode cX8_fault 27 = .ok (.iastore, 1) := by decide +kernel
theorem dX8_fault_28 : decode cX8_fault 28 = .ok (.aload_n 0, 1) := by decide +kernel
theorem dX8_fault_29 : decode cX8_fault 29 = .ok (.getfield 19, 3) := by decide +kernel
theorem dX8_fault_32 : decode cX8_fault 32 = .ok (.iconst 1, 1) := by decide +kernel
theorem dX8_fault_33 : decode cX8_fault 33 = .ok (.iconst 4, 1) := by decide +kernel
theorem dX8_fault_34 : decode cX8_fault 34 = .ok (.iastore, 1) := by decide +kernel
theorem dX8_fault_35 : decode cX8_fault 35 = .ok (.aload_n 0, 1) := by decide +kernel
theorem dX8_fault_36 : decode cX8_fault 36 = .ok (.iconst 0, 1) := by decide +kernel
theorem dX8_fault_37 : decode cX8_fault 37 = .ok (.putfield 80, 3) := by decide +kernel
theorem dX8_fault_40 : decode cX8_fault 40 = .ok (.aload_n 0, 1) := by decide +kernel
theorem dX8_fault_41 : decode cX8_fault 41 = .ok (.iconst 0, 1) := by decide +kernel
theorem dX8_fault_42 : decode cX8_fault 42 = .ok (.putfield 66, 3) := by decide +kernel
theorem dX8_fault_45 : decode cX8_fault 45 = .ok (.aload_n 0, 1) := by decide +kernel
theorem dX8_fault_46 : decode cX8_fault 46 = .ok (.getfield 66, 3) := by decide +kernel
theorem dX8_fault_49 : decode cX8_fault 49 = .ok (.aload_n 0, 1) := by decide +kernel
theorem dX8_fault_50 : decode cX8_fault 50 = .ok (.getfield 62, 3) := by decide +kernel
theorem dX8_fault_53 : decode cX8_fault 53 = .ok (.if_icmp .ge 20, 3) := by decide +kernel
theorem dX8_fault_56 : decode cX8_fault 56 = .ok (.aload_n 0, 1) := by decide +kernel
theorem dX8_fault_57 : decode cX8_fault 57 = .ok (.getfield 66, 3) := by decide +kernel
theorem dX8_fault_60 : decode cX8_fault 60 = .ok (.istore_n 1, 1) := by decide +kernel
theorem dX8_fault_61 : decode cX8_fault 61 = .ok (.aload_n 0, 1) := by decide +kernel
theorem dX8_fault_62 : decode cX8_fault 62 = .ok (.invokevirtual 100, 3) := by decide +kernel
theorem dX8_fault_65 : decode cX8_fault 65 = .ok (.ifCond .ne 5, 3) := by decide +kernel
theorem dX8_fault_68 : decode cX8_fault 68 = .ok (.iload_n 1, 1) := by decide +kernel
theorem dX8_fault_69 : decode cX8_fault 69 = .ok (.ireturn, 1) := by decide +kernel
theorem dX8_fault_70 : decode cX8_fault 70 = .ok (.goto (-25), 3) := by decide +kernel
theorem dX8_fault_73 : decode cX8_fault 73 = .ok (.bipush (-4), 2) := by decide +kernel
theorem dX8_fault_75 : decode cX8_fault 75 = .ok (.ireturn, 1) := by decide +kernel
set_option maxRecDepth 20000 in
theorem ggX8_lay_X8_fault : GoodIn wsX8_lay wsX8_fault := goodIn_r _ [11, 3, 12, 13, 1, 14, 15, 16, 10, 17, 18, 19, 20, 21, 22, 23, 24, 25, 26, 27, 28, 29, 30, 31, 32, 33, 34, 35, 36, 37, 38, 39, 40, 41, 42, 43, 44, 45, 46, 47, 48, 58, 59, 60, 61, 62, 63, 64, 65, 66, 67, 68, 69, 70, 71, 72, 73, 74, 75, 76, 77, 78, 79, 80, 81] (by decide +kernel) (by decide +kernel)
set_option maxRecDepth 20000 in
theorem gX8_lay_X8_fault : GoodIn wsX8_lay (wsV RX8 103 RX8 yX8_fault wsX8_fault) := goodIn_app (goodIn_of _ (by decide +kernel)) ggX8_lay_X8_fault
set_option maxRecDepth 20000 in
theorem ggX8_lay_X8_begins0 : GoodIn wsX8_lay wsX8_begins0 := goodIn_r _ [52, 53, 2, 58, 59, 60, 61, 62, 63, 64, 65, 66, 67, 68, 69, 70, 71, 72, 73, 74, 75, 76, 77, 78, 79, 80, 81] (by decide +kernel) (by decide +kernel)
set_option maxRecDepth 20000 in
theorem gX8_lay_X8_begins0 : GoodIn wsX8_lay (wsV RX8 47 RX8 yX8_begins0 wsX8_begins0) := goodIn_app (goodIn_of _ (by decide +kernel)) ggX8_lay_X8_begins0
set_option maxRecDepth 20000 in
theorem ggX8_lay_X8_cells : GoodIn wsX8_lay wsX8_cells := goodIn_r _ [57, 2, 58, 59, 60, 61, 62, 63, 64, 65, 66, 67, 68, 69, 70, 71, 72, 73, 74, 75, 76, 77, 78, 79, 80, 81] (by decide +kernel) (by decide +kernel)
set_option maxRecDepth 20000 in
theorem gX8_lay_X8_cells : GoodIn wsX8_lay (wsV RX8 50 RX8 yX8_cells wsX8_cells) := goodIn_app (goodIn_of _ (by decide +kernel)) ggX8_lay_X8_cells
theorem dX8_lay_0 : decode cX8_lay 0 = .ok (.aload_n 0, 1) := by decide +kernel
theorem dX8_lay_1 : decode cX8_lay 1 = .ok (.getfield 62, 3) := by decide +kernel
theorem dX8_lay_4 : decode cX8_lay 4 = .ok (.ifCond .eq 12, 3) := by decide +kernel
theorem dX8_lay_7 : decode cX8_lay 7 = .ok (.aload_n 0, 1) := by decide +kernel
theorem dX8_lay_8 : decode cX8_lay 8 = .ok (.invokevirtual 103, 3) := by decide +kernel
theorem dX8_lay_11 : decode cX8_lay 11 = .ok (.bipush (-4), 2) := by decide +kernel
theorem dX8_lay_13 : decode cX8_lay 13 = .ok (.if_icmp .eq 6, 3) := by decide +kernel
theorem dX8_lay_16 : decode cX8_lay 16 = .ok (.bipush (-2), 2) := by decide +kernel
theorem dX8_lay_18 : decode cX8_lay 18 = .ok (.ireturn, 1) := by decide +kernel
theorem dX8_lay_19 : decode cX8_lay 19 = .ok (.iconst 0, 1) := by decide +kernel
theorem dX8_lay_20 : decode cX8_lay 20 = .ok (.istore_n 1, 1) := by decide +kernel
theorem dX8_lay_21 : decode cX8_lay 21 = .ok (.iload_n 1, 1) := by decide +kernel
theorem dX8_lay_22 : decode cX8_lay 22 = .ok (.bipush 54, 2) := by decide +kernel
theorem dX8_lay_24 : decode cX8_lay 24 = .ok (.if_icmp .ge 21, 3) := by decide +kernel
theorem dX8_lay_27 : decode cX8_lay 27 = .ok (.aload_n 0, 1) := by decide +kernel
theorem dX8_lay_28 : decode cX8_lay 28 = .ok (.getfield 7, 3) := by decide +kernel
theorem dX8_lay_31 : decode cX8_lay 31 = .ok (.iload_n 1, 1) := by decide +kernel
theorem dX8_lay_32 : decode cX8_lay 32 = .ok (.aload_n 0, 1) := by decide +kernel
theorem dX8_lay_33 : decode cX8_lay 33 = .ok (.getfield 19, 3) := by decide +kernel
theorem dX8_lay_36 : decode cX8_lay 36 = .ok (.iload_n 1, 1) := by decide +kernel
theorem dX8_lay_37 : decode cX8_lay 37 = .ok (.iaload, 1) := by decide +kernel
theorem dX8_lay_38 : decode cX8_lay 38 = .ok (.iastore, 1) := by decide +kernel
theorem dX8_lay_39 : decode cX8_lay 39 = .ok (.iinc 1 1, 3) := by decide +kernel
theorem dX8_lay_42 : decode cX8_lay 42 = .ok (.goto (-21), 3) := by decide +kernel
theorem dX8_lay_45 : decode cX8_lay 45 = .ok (.aload_n 0, 1) := by decide +kernel
theorem dX8_lay_46 : decode cX8_lay 46 = .ok (.getfield 7, 3) := by decide +kernel
theorem dX8_lay_49 : decode cX8_lay 49 = .ok (.bipush 29, 2) := by decide +kernel
theorem dX8_lay_51 : decode cX8_lay 51 = .ok (.aload_n 0, 1) := by decide +kernel
theorem dX8_lay_52 : decode cX8_lay 52 = .ok (.getfield 7, 3) := by decide +kernel
theorem dX8_lay_55 : decode cX8_lay 55 = .ok (.iconst 2, 1) := by decide +kernel
theorem dX8_lay_56 : decode cX8_lay 56 = .ok (.iaload, 1) := by decide +kernel
theorem dX8_lay_57 : decode cX8_lay 57 = .ok (.iadd, 1) := by decide +kernel
theorem dX8_lay_58 : decode cX8_lay 58 = .ok (.iconst 0, 1) := by decide +kernel
theorem dX8_lay_59 : decode cX8_lay 59 = .ok (.iastore, 1) := by decide +kernel
theorem dX8_lay_60 : decode cX8_lay 60 = .ok (.aload_n 0, 1) := by decide +kernel
theorem dX8_lay_61 : decode cX8_lay 61 = .ok (.invokevirtual 47, 3) := by decide +kernel
theorem dX8_lay_64 : decode cX8_lay 64 = .ok (.aload_n 0, 1) := by decide +kernel
theorem dX8_lay_65 : decode cX8_lay 65 = .ok (.iconst 0, 1) := by decide +kernel
theorem dX8_lay_66 : decode cX8_lay 66 = .ok (.putfield 106, 3) := by decide +kernel
theorem dX8_lay_69 : decode cX8_lay 69 = .ok (.aload_n 0, 1) := by decide +kernel
theorem dX8_lay_70 : decode cX8_lay 70 = .ok (.iconst 0, 1) := by decide +kernel
theorem dX8_lay_71 : decode cX8_lay 71 = .ok (.putfield 109, 3) := by decide +kernel
theorem dX8_lay_74 : decode cX8_lay 74 = .ok (.aload_n 0, 1) := by decide +kernel
theorem dX8_lay_75 : decode cX8_lay 75 = .ok (.iconst 0, 1) := by decide +kernel
theorem dX8_lay_76 : decode cX8_lay 76 = .ok (.putfield 112, 3) := by decide +kernel
theorem dX8_lay_79 : decode cX8_lay 79 = .ok (.aload_n 0, 1) := by decide +kernel
theorem dX8_lay_80 : decode cX8_lay 80 = .ok (.invokevirtual 50, 3) := by decide +kernel
theorem dX8_lay_83 : decode cX8_lay 83 = .ok (.ireturn, 1) := by decide +kernel
theorem dX8_kind_0 : decode cX8_kind 0 = .ok (.aload_n 0, 1) := by decide +kernel
theorem dX8_kind_1 : decode cX8_kind 1 = .ok (.getfield 13, 3) := by decide +kernel
theorem dX8_kind_4 : decode cX8_kind 4 = .ok (.iconst 3, 1) := by decide +kernel
theorem dX8_kind_5 : decode cX8_kind 5 = .ok (.iload_n 1, 1) := by decide +kernel
theorem dX8_kind_6 : decode cX8_kind 6 = .ok (.iadd, 1) := by decide +kernel
theorem dX8_kind_7 : decode cX8_kind 7 = .ok (.iaload, 1) := by decide +kernel
theorem dX8_kind_8 : decode cX8_kind 8 = .ok (.ireturn, 1) := by decide +kernel
set_option maxRecDepth 20000 in
theorem ggX8_beside_X8_cells : GoodIn wsX8_beside wsX8_cells := goodIn_r _ [6, 1, 7, 8, 9, 10, 11, 12, 13, 14, 15, 16, 17, 18, 19, 20, 21, 22, 23, 24, 25, 26, 27, 28, 29, 30] (by decide +kernel) (by decide +kernel)
set_option maxRecDepth 20000 in
theorem gX8_beside_X8_cells : GoodIn wsX8_beside (wsV RX8 50 RX8 yX8_cells wsX8_cells) := goodIn_app (goodIn_of _ (by decide +kernel)) ggX8_beside_X8_cells
theorem dX8_beside_0 : decode cX8_beside 0 = .ok (.aload_n 0, 1) := by decide +kernel
theorem dX8_beside_1 : decode cX8_beside 1 = .ok (.getfield 7, 3) := by decide +kernel
theorem dX8_beside_4 : decode cX8_beside 4 = .ok (.iconst 1, 1) := by decide +kernel
theorem dX8_beside_5 : decode cX8_beside 5 = .ok (.iaload, 1) := by decide +kernel
theorem dX8_beside_6 : decode cX8_beside 6 = .ok (.istore_n 3, 1) := by decide +kernel
theorem dX8_beside_7 : decode cX8_beside 7 = .ok (.iload_n 2, 1) := by decide +kernel
theorem dX8_beside_8 : decode cX8_beside 8 = .ok (.tableswitch 75 0 2 #[28, 42, 57], 28) := by decide +kernel
theorem dX8_beside_36 : decode cX8_beside 36 = .ok (.iload_n 1, 1) := by decide +kernel
theorem dX8_beside_37 : decode cX8_beside 37 = .ok (.iload_n 3, 1) := by decide +kernel
theorem dX8_beside_38 : decode cX8_beside 38 = .ok (.if_icmp .ge 8, 3) := by decide +kernel
theorem dX8_beside_41 : decode cX8_beside 41 = .ok (.bipush (-4), 2) := by decide +kernel
theorem dX8_beside_43 : decode cX8_beside 43 = .ok (.goto 6, 3) := by decide +kernel
theorem dX8_beside_46 : decode cX8_beside 46 = .ok (.iload_n 1, 1) := by decide +kernel
theorem dX8_beside_47 : decode cX8_beside 47 = .ok (.iload_n 3, 1) := by decide +kernel
theorem dX8_beside_48 : decode cX8_beside 48 = .ok (.isub, 1) := by decide +kernel
theorem dX8_beside_49 : decode cX8_beside 49 = .ok (.ireturn, 1) := by decide +kernel
theorem dX8_beside_50 : decode cX8_beside 50 = .ok (.iload_n 1, 1) := by decide +kernel
theorem dX8_beside_51 : decode cX8_beside 51 = .ok (.iload_n 3, 1) := by decide +kernel
theorem dX8_beside_52 : decode cX8_beside 52 = .ok (.irem, 1) := by decide +kernel
theorem dX8_beside_53 : decode cX8_beside 53 = .ok (.ifCond .ne 8, 3) := by decide +kernel
theorem dX8_beside_56 : decode cX8_beside 56 = .ok (.bipush (-4), 2) := by decide +kernel
theorem dX8_beside_58 : decode cX8_beside 58 = .ok (.goto 6, 3) := by decide +kernel
theorem dX8_beside_61 : decode cX8_beside 61 = .ok (.iload_n 1, 1) := by decide +kernel
theorem dX8_beside_62 : decode cX8_beside 62 = .ok (.iconst 1, 1) := by decide +kernel
theorem dX8_beside_63 : decode cX8_beside 63 = .ok (.isub, 1) := by decide +kernel
theorem dX8_beside_64 : decode cX8_beside 64 = .ok (.ireturn, 1) := by decide +kernel
theorem dX8_beside_65 : decode cX8_beside 65 = .ok (.iload_n 1, 1) := by decide +kernel
theorem dX8_beside_66 : decode cX8_beside 66 = .ok (.iload_n 3, 1) := by decide +kernel
theorem dX8_beside_67 : decode cX8_beside 67 = .ok (.irem, 1) := by decide +kernel
theorem dX8_beside_68 : decode cX8_beside 68 = .ok (.iload_n 3, 1) := by decide +kernel
theorem dX8_beside_69 : decode cX8_beside 69 = .ok (.iconst 1, 1) := by decide +kernel
theorem dX8_beside_70 : decode cX8_beside 70 = .ok (.isub, 1) := by decide +kernel
theorem dX8_beside_71 : decode cX8_beside 71 = .ok (.if_icmp .ne 8, 3) := by decide +kernel
theorem dX8_beside_74 : decode cX8_beside 74 = .ok (.bipush (-4), 2) := by decide +kernel
theorem dX8_beside_76 : decode cX8_beside 76 = .ok (.goto 6, 3) := by decide +kernel
theorem dX8_beside_79 : decode cX8_beside 79 = .ok (.iload_n 1, 1) := by decide +kernel
theorem dX8_beside_80 : decode cX8_beside 80 = .ok (.iconst 1, 1) := by decide +kernel
theorem dX8_beside_81 : decode cX8_beside 81 = .ok (.iadd, 1) := by decide +kernel
theorem dX8_beside_82 : decode cX8_beside 82 = .ok (.ireturn, 1) := by decide +kernel
theorem dX8_beside_83 : decode cX8_beside 83 = .ok (.iload_n 1, 1) := by decide +kernel
theorem dX8_beside_84 : decode cX8_beside 84 = .ok (.iload_n 3, 1) := by decide +kernel
theorem dX8_beside_85 : decode cX8_beside 85 = .ok (.iadd, 1) := by decide +kernel
theorem dX8_beside_86 : decode cX8_beside 86 = .ok (.aload_n 0, 1) := by decide +kernel
theorem dX8_beside_87 : decode cX8_beside 87 = .ok (.invokevirtual 50, 3) := by decide +kernel
theorem dX8_beside_90 : decode cX8_beside 90 = .ok (.if_icmp .lt 8, 3) := by decide +kernel
theorem dX8_beside_93 : decode cX8_beside 93 = .ok (.bipush (-4), 2) := by decide +kernel
theorem dX8_beside_95 : decode cX8_beside 95 = .ok (.goto 6, 3) := by decide +kernel
theorem dX8_beside_98 : decode cX8_beside 98 = .ok (.iload_n 1, 1) := by decide +kernel
theorem dX8_beside_99 : decode cX8_beside 99 = .ok (.iload_n 3, 1) := by decide +kernel
theorem dX8_beside_100 : decode cX8_beside 100 = .ok (.iadd, 1) := by decide +kernel
theorem dX8_beside_101 : decode cX8_beside 101 = .ok (.ireturn, 1) := by decide +kernel
set_option maxRecDepth 20000 in
theorem ggX8_into_X8_kind : GoodIn wsX8_into wsX8_kind := goodIn_r _ [5, 6, 7, 8, 9, 10, 11, 12, 13, 14, 15, 16, 17, 18, 19, 20, 21, 22, 23, 24, 25, 26, 27, 28, 29, 30] (by decide +kernel) (by decide +kernel)
set_option maxRecDepth 20000 in
theorem gX8_into_X8_kind : GoodIn wsX8_into (wsV RX8 115 RX8 yX8_kind wsX8_kind) := goodIn_app (goodIn_of _ (by decide +kernel)) ggX8_into_X8_kind
theorem dX8_into_0 : decode cX8_into 0 = .ok (.aload_n 0, 1) := by decide +kernel
theorem dX8_into_1 : decode cX8_into 1 = .ok (.iload_n 1, 1) := by decide +kernel
theorem dX8_into_2 : decode cX8_into 2 = .ok (.invokevirtual 115, 3) := by decide +kernel
theorem dX8_into_5 : decode cX8_into 5 = .ok (.istore_n 3, 1) := by decide +kernel
theorem dX8_into_6 : decode cX8_into 6 = .ok (.iload_n 3, 1) := by decide +kernel
theorem dX8_into_7 : decode cX8_into 7 = .ok (.iconst 2, 1) := by decide +kernel
theorem dX8_into_8 : decode cX8_into 8 = .ok (.if_icmp .ne 9, 3) := by decide +kernel
theorem dX8_into_11 : decode cX8_into 11 = .ok (.sipush 9999, 3) := by decide +kernel
theorem dX8_into_14 : decode cX8_into 14 = .ok (.goto 22, 3) := by decide +kernel
theorem dX8_into_17 : decode cX8_into 17 = .ok (.iload_n 3, 1) := by decide +kernel
theorem dX8_into_18 : decode cX8_into 18 = .ok (.iconst 1, 1) := by decide +kernel
theorem dX8_into_19 : decode cX8_into 19 = .ok (.if_icmp .ne 7, 3) := by decide +kernel
theorem dX8_into_22 : decode cX8_into 22 = .ok (.iconst 3, 1) := by decide +kernel
theorem dX8_into_23 : decode cX8_into 23 = .ok (.goto 13, 3) := by decide +kernel
theorem dX8_into_26 : decode cX8_into 26 = .ok (.iload_n 3, 1) := by decide +kernel
theorem dX8_into_27 : decode cX8_into 27 = .ok (.iconst 4, 1) := by decide +kernel
theorem dX8_into_28 : decode cX8_into 28 = .ok (.if_icmp .ne 7, 3) := by decide +kernel
theorem dX8_into_31 : decode cX8_into 31 = .ok (.iload_n 2, 1) := by decide +kernel
theorem dX8_into_32 : decode cX8_into 32 = .ok (.goto 4, 3) := by decide +kernel
theorem dX8_into_35 : decode cX8_into 35 = .ok (.iconst 1, 1) := by decide +kernel
theorem dX8_into_36 : decode cX8_into 36 = .ok (.ireturn, 1) := by decide +kernel
set_option maxRecDepth 20000 in
theorem ggX8_seeks_X8_cells : GoodIn wsX8_seeks wsX8_cells := goodIn_r _ [7, 8, 21, 22, 23, 24, 25, 26, 27, 28, 29, 30, 31, 32, 33, 34, 35, 36, 37, 38, 39, 40, 41, 42, 43, 44] (by decide +kernel) (by decide +kernel)
set_option maxRecDepth 20000 in
theorem gX8_seeks_X8_cells : GoodIn wsX8_seeks (wsV RX8 50 RX8 yX8_cells wsX8_cells) := goodIn_app (goodIn_of _ (by decide +kernel)) ggX8_seeks_X8_cells
set_option maxRecDepth 20000 in
theorem ggX8_seeks_X8_beside : GoodIn wsX8_seeks wsX8_beside := goodIn_r _ [12, 8, 3, 4, 5, 6, 7, 21, 22, 23, 24, 25, 26, 27, 28, 29, 30, 31, 32, 33, 34, 35, 36, 37, 38, 39, 40, 41, 42, 43, 44] (by decide +kernel) (by decide +kernel)
set_option maxRecDepth 20000 in
theorem gX8_seeks_X8_beside : GoodIn wsX8_seeks (wsV RX8 119 RX8 yX8_beside wsX8_beside) := goodIn_app (goodIn_of _ (by decide +kernel)) ggX8_seeks_X8_beside
set_option maxRecDepth 20000 in
theorem ggX8_seeks_X8_into : GoodIn wsX8_seeks wsX8_into := goodIn_r _ [16, 17, 18, 19, 6, 20, 2, 21, 22, 23, 24, 25, 26, 27, 28, 29, 30, 31, 32, 33, 34, 35, 36, 37, 38, 39, 40, 41, 42, 43, 44] (by decide +kernel) (by decide +kernel)
set_option maxRecDepth 20000 in
theorem gX8_seeks_X8_into : GoodIn wsX8_seeks (wsV RX8 123 RX8 yX8_into wsX8_into) := goodIn_app (goodIn_of _ (by decide +kernel)) ggX8_seeks_X8_into
theorem dX8_seeks_0 : decode cX8_seeks 0 = .ok (.iconst 0, 1) := by decide +kernel
theorem dX8_seeks_1 : decode cX8_seeks 1 = .ok (.istore_n 1, 1) := by decide +kernel
theorem dX8_seeks_2 : decode cX8_seeks 2 = .ok (.iload_n 1, 1) := by decide +kernel
theorem dX8_seeks_3 : decode cX8_seeks 3 = .ok (.aload_n 0, 1) := by decide +kernel
theorem dX8_seeks_4 : decode cX8_seeks 4 = .ok (.invokevirtual 50, 3) := by decide +kernel
theorem dX8_seeks_7 : decode cX8_seeks 7 = .ok (.if_icmp .ge 32, 3) := by decide +kernel
theorem dX8_seeks_10 : decode cX8_seeks 10 = .ok (.aload_n 0, 1) := by decide +kernel
theorem dX8_seeks_11 : decode cX8_seeks 11 = .ok (.getfield 22, 3) := by decide +kernel
theorem dX8_seeks_14 : decode cX8_seeks 14 = .ok (.iload_n 1, 1) := by decide +kernel
theorem dX8_seeks_15 : decode cX8_seeks 15 = .ok (.iload_n 1, 1) := by decide +kernel
theorem dX8_seeks_16 : decode cX8_seeks 16 = .ok (.aload_n 0, 1) := by decide +kernel
theorem dX8_seeks_17 : decode cX8_seeks 17 = .ok (.getfield 13, 3) := by decide +kernel
theorem dX8_seeks_20 : decode cX8_seeks 20 = .ok (.iconst 1, 1) := by decide +kernel
theorem dX8_seeks_21 : decode cX8_seeks 21 = .ok (.iaload, 1) := by decide +kernel
theorem dX8_seeks_22 : decode cX8_seeks 22 = .ok (.if_icmp .ne 7, 3) := by decide +kernel
theorem dX8_seeks_25 : decode cX8_seeks 25 = .ok (.iconst 0, 1) := by decide +kernel
theorem dX8_seeks_26 : decode cX8_seeks 26 = .ok (.goto 6, 3) := by decide +kernel
theorem dX8_seeks_29 : decode cX8_seeks 29 = .ok (.sipush 9999, 3) := by decide +kernel
theorem dX8_seeks_32 : decode cX8_seeks 32 = .ok (.iastore, 1) := by decide +kernel
theorem dX8_seeks_33 : decode cX8_seeks 33 = .ok (.iinc 1 1, 3) := by decide +kernel
theorem dX8_seeks_36 : decode cX8_seeks 36 = .ok (.goto (-34), 3) := by decide +kernel
theorem dX8_seeks_39 : decode cX8_seeks 39 = .ok (.iconst 1, 1) := by decide +kernel
theorem dX8_seeks_40 : decode cX8_seeks 40 = .ok (.istore_n 1, 1) := by decide +kernel
theorem dX8_seeks_41 : decode cX8_seeks 41 = .ok (.iload_n 1, 1) := by decide +kernel
theorem dX8_seeks_42 : decode cX8_seeks 42 = .ok (.ifCond .eq 117, 3) := by decide +kernel
theorem dX8_seeks_45 : decode cX8_seeks 45 = .ok (.iconst 0, 1) := by decide +kernel
theorem dX8_seeks_46 : decode cX8_seeks 46 = .ok (.istore_n 1, 1) := by decide +kernel
theorem dX8_seeks_47 : decode cX8_seeks 47 = .ok (.iconst 0, 1) := by decide +kernel
theorem dX8_seeks_48 : decode cX8_seeks 48 = .ok (.istore_n 2, 1) := by decide +kernel
theorem dX8_seeks_49 : decode cX8_seeks 49 = .ok (.iload_n 2, 1) := by decide +kernel
theorem dX8_seeks_50 : decode cX8_seeks 50 = .ok (.aload_n 0, 1) := by decide +kernel
theorem dX8_seeks_51 : decode cX8_seeks 51 = .ok (.invokevirtual 50, 3) := by decide +kernel
theorem dX8_seeks_54 : decode cX8_seeks 54 = .ok (.if_icmp .ge 102, 3) := by decide +kernel
theorem dX8_seeks_57 : decode cX8_seeks 57 = .ok (.iconst 0, 1) := by decide +kernel
theorem dX8_seeks_58 : decode cX8_seeks 58 = .ok (.istore_n 3, 1) := by decide +kernel
theorem dX8_seeks_59 : decode cX8_seeks 59 = .ok (.iload_n 3, 1) := by decide +kernel
theorem dX8_seeks_60 : decode cX8_seeks 60 = .ok (.iconst 4, 1) := by decide +kernel
theorem dX8_seeks_61 : decode cX8_seeks 61 = .ok (.if_icmp .ge 89, 3) := by decide +kernel
theorem dX8_seeks_64 : decode cX8_seeks 64 = .ok (.aload_n 0, 1) := by decide +kernel
theorem dX8_seeks_65 : decode cX8_seeks 65 = .ok (.getfield 22, 3) := by decide +kernel
theorem dX8_seeks_68 : decode cX8_seeks 68 = .ok (.iload_n 2, 1) := by decide +kernel
theorem dX8_seeks_69 : decode cX8_seeks 69 = .ok (.iaload, 1) := by decide +kernel
theorem dX8_seeks_70 : decode cX8_seeks 70 = .ok (.sipush 9999, 3) := by decide +kernel
theorem dX8_seeks_73 : decode cX8_seeks 73 = .ok (.if_icmp .ge 77, 3) := by decide +kernel
theorem dX8_seeks_76 : decode cX8_seeks 76 = .ok (.aload_n 0, 1) := by decide +kernel
theorem dX8_seeks_77 : decode cX8_seeks 77 = .ok (.iload_n 2, 1) := by decide +kernel
theorem dX8_seeks_78 : decode cX8_seeks 78 = .ok (.iload_n 3, 1) := by decide +kernel
theorem dX8_seeks_79 : decode cX8_seeks 79 = .ok (.invokevirtual 119, 3) := by decide +kernel
theorem dX8_seeks_82 : decode cX8_seeks 82 = .ok (.istore 4, 2) := by decide +kernel
theorem dX8_seeks_84 : decode cX8_seeks 84 = .ok (.iload 4, 2) := by decide +kernel
theorem dX8_seeks_86 : decode cX8_seeks 86 = .ok (.bipush (-4), 2) := by decide +kernel
theorem dX8_seeks_88 : decode cX8_seeks 88 = .ok (.if_icmp .ne 9, 3) := by decide +kernel
theorem dX8_seeks_91 : decode cX8_seeks 91 = .ok (.sipush 9999, 3) := by decide +kernel
theorem dX8_seeks_94 : decode cX8_seeks 94 = .ok (.goto 17, 3) := by decide +kernel
theorem dX8_seeks_97 : decode cX8_seeks 97 = .ok (.aload_n 0, 1) := by decide +kernel
theorem dX8_seeks_98 : decode cX8_seeks 98 = .ok (.getfield 22, 3) := by decide +kernel
theorem dX8_seeks_101 : decode cX8_seeks 101 = .ok (.iload_n 2, 1) := by decide +kernel
theorem dX8_seeks_102 : decode cX8_seeks 102 = .ok (.iaload, 1) := by decide +kernel
theorem dX8_seeks_103 : decode cX8_seeks 103 = .ok (.aload_n 0, 1) := by decide +kernel
theorem dX8_seeks_104 : decode cX8_seeks 104 = .ok (.iload 4, 2) := by decide +kernel
theorem dX8_seeks_106 : decode cX8_seeks 106 = .ok (.iconst 2, 1) := by decide +kernel
theorem dX8_seeks_107 : decode cX8_seeks 107 = .ok (.invokevirtual 123, 3) := by decide +kernel
theorem dX8_seeks_110 : decode cX8_seeks 110 = .ok (.iadd, 1) := by decide +kernel
theorem dX8_seeks_111 : decode cX8_seeks 111 = .ok (.istore 5, 2) := by decide +kernel
theorem dX8_seeks_113 : decode cX8_seeks 113 = .ok (.iload 5, 2) := by decide +kernel
theorem dX8_seeks_115 : decode cX8_seeks 115 = .ok (.sipush 9999, 3) := by decide +kernel
theorem dX8_seeks_118 : decode cX8_seeks 118 = .ok (.if_icmp .ge 26, 3) := by decide +kernel
theorem dX8_seeks_121 : decode cX8_seeks 121 = .ok (.iload 5, 2) := by decide +kernel
theorem dX8_seeks_123 : decode cX8_seeks 123 = .ok (.aload_n 0, 1) := by decide +kernel
theorem dX8_seeks_124 : decode cX8_seeks 124 = .ok (.getfield 22, 3) := by decide +kernel
theorem dX8_seeks_127 : decode cX8_seeks 127 = .ok (.iload 4, 2) := by decide +kernel
theorem dX8_seeks_129 : decode cX8_seeks 129 = .ok (.iaload, 1) := by decide +kernel
theorem dX8_seeks_130 : decode cX8_seeks 130 = .ok (.if_icmp .ge 14, 3) := by decide +kernel
theorem dX8_seeks_133 : decode cX8_seeks 133 = .ok (.aload_n 0, 1) := by decide +kernel
theorem dX8_seeks_134 : decode cX8_seeks 134 = .ok (.getfield 22, 3) := by decide +kernel
theorem dX8_seeks_137 : decode cX8_seeks 137 = .ok (.iload 4, 2) := by decide +kernel
theorem dX8_seeks_139 : decode cX8_seeks 139 = .ok (.iload 5, 2) := by decide +kernel
theorem dX8_seeks_141 : decode cX8_seeks 141 = .ok (.iastore, 1) := by decide +kernel
theorem dX8_seeks_142 : decode cX8_seeks 142 = .ok (.iconst 1, 1) := by decide +kernel
theorem dX8_seeks_143 : decode cX8_seeks 143 = .ok (.istore_n 1, 1) := by decide +kernel
theorem dX8_seeks_144 : decode cX8_seeks 144 = .ok (.iinc 3 1, 3) := by decide +kernel
theorem dX8_seeks_147 : decode cX8_seeks 147 = .ok (.goto (-88), 3) := by decide +kernel
theorem dX8_seeks_150 : decode cX8_seeks 150 = .ok (.iinc 2 1, 3) := by decide +kernel
theorem dX8_seeks_153 : decode cX8_seeks 153 = .ok (.goto (-104), 3) := by decide +kernel
theorem dX8_seeks_156 : decode cX8_seeks 156 = .ok (.goto (-115), 3) := by decide +kernel
theorem dX8_seeks_159 : decode cX8_seeks 159 = .ok (.return_, 1) := by decide +kernel
set_option maxRecDepth 20000 in
theorem ggX8_goesTo_X8_cells : GoodIn wsX8_goesTo wsX8_cells := goodIn_r _ [6, 7, 21, 22, 23, 24, 25, 26, 27, 28, 29, 30, 31, 32, 33, 34, 35, 36, 37, 38, 39, 40, 41, 42, 43, 44] (by decide +kernel) (by decide +kernel)
set_option maxRecDepth 20000 in
theorem gX8_goesTo_X8_cells : GoodIn wsX8_goesTo (wsV RX8 50 RX8 yX8_cells wsX8_cells) := goodIn_app (goodIn_of _ (by decide +kernel)) ggX8_goesTo_X8_cells
set_option maxRecDepth 20000 in
theorem ggX8_goesTo_X8_into : GoodIn wsX8_goesTo wsX8_into := goodIn_r _ [11, 12, 13, 14, 5, 15, 16, 21, 22, 23, 24, 25, 26, 27, 28, 29, 30, 31, 32, 33, 34, 35, 36, 37, 38, 39, 40, 41, 42, 43, 44] (by decide +kernel) (by decide +kernel)
set_option maxRecDepth 20000 in
theorem gX8_goesTo_X8_into : GoodIn wsX8_goesTo (wsV RX8 123 RX8 yX8_into wsX8_into) := goodIn_app (goodIn_of _ (by decide +kernel)) ggX8_goesTo_X8_into
set_option maxRecDepth 20000 in
theorem ggX8_goesTo_X8_beside : GoodIn wsX8_goesTo wsX8_beside := goodIn_r _ [20, 7, 2, 3, 4, 5, 6, 21, 22, 23, 24, 25, 26, 27, 28, 29, 30, 31, 32, 33, 34, 35, 36, 37, 38, 39, 40, 41, 42, 43, 44] (by decide +kernel) (by decide +kernel)
set_option maxRecDepth 20000 in
theorem gX8_goesTo_X8_beside : GoodIn wsX8_goesTo (wsV RX8 119 RX8 yX8_beside wsX8_beside) := goodIn_app (goodIn_of _ (by decide +kernel)) ggX8_goesTo_X8_beside
theorem dX8_goesTo_0 : decode cX8_goesTo 0 = .ok (.iconst 0, 1) := by decide +kernel
theorem dX8_goesTo_1 : decode cX8_goesTo 1 = .ok (.istore_n 2, 1) := by decide +kernel
theorem dX8_goesTo_2 : decode cX8_goesTo 2 = .ok (.iload_n 2, 1) := by decide +kernel
theorem dX8_goesTo_3 : decode cX8_goesTo 3 = .ok (.aload_n 0, 1) := by decide +kernel
theorem dX8_goesTo_4 : decode cX8_goesTo 4 = .ok (.invokevirtual 50, 3) := by decide +kernel
theorem dX8_goesTo_7 : decode cX8_goesTo 7 = .ok (.if_icmp .ge 27, 3) := by decide +kernel
theorem dX8_goesTo_10 : decode cX8_goesTo 10 = .ok (.aload_n 0, 1) := by decide +kernel
theorem dX8_goesTo_11 : decode cX8_goesTo 11 = .ok (.getfield 25, 3) := by decide +kernel
theorem dX8_goesTo_14 : decode cX8_goesTo 14 = .ok (.iload_n 2, 1) := by decide +kernel
theorem dX8_goesTo_15 : decode cX8_goesTo 15 = .ok (.iload_n 2, 1) := by decide +kernel
theorem dX8_goesTo_16 : decode cX8_goesTo 16 = .ok (.iload_n 1, 1) := by decide +kernel
theorem dX8_goesTo_17 : decode cX8_goesTo 17 = .ok (.if_icmp .ne 7, 3) := by decide +kernel
theorem dX8_goesTo_20 : decode cX8_goesTo 20 = .ok (.iconst 0, 1) := by decide +kernel
theorem dX8_goesTo_21 : decode cX8_goesTo 21 = .ok (.goto 6, 3) := by decide +kernel
theorem dX8_goesTo_24 : decode cX8_goesTo 24 = .ok (.sipush 9999, 3) := by decide +kernel
theorem dX8_goesTo_27 : decode cX8_goesTo 27 = .ok (.iastore, 1) := by decide +kernel
theorem dX8_goesTo_28 : decode cX8_goesTo 28 = .ok (.iinc 2 1, 3) := by decide +kernel
theorem dX8_goesTo_31 : decode cX8_goesTo 31 = .ok (.goto (-29), 3) := by decide +kernel
theorem dX8_goesTo_34 : decode cX8_goesTo 34 = .ok (.iconst 1, 1) := by decide +kernel
theorem dX8_goesTo_35 : decode cX8_goesTo 35 = .ok (.istore_n 2, 1) := by decide +kernel
theorem dX8_goesTo_36 : decode cX8_goesTo 36 = .ok (.iload_n 2, 1) := by decide +kernel
theorem dX8_goesTo_37 : decode cX8_goesTo 37 = .ok (.ifCond .eq 121, 3) := by decide +kernel
theorem dX8_goesTo_40 : decode cX8_goesTo 40 = .ok (.iconst 0, 1) := by decide +kernel
theorem dX8_goesTo_41 : decode cX8_goesTo 41 = .ok (.istore_n 2, 1) := by decide +kernel
theorem dX8_goesTo_42 : decode cX8_goesTo 42 = .ok (.aload_n 0, 1) := by decide +kernel
theorem dX8_goesTo_43 : decode cX8_goesTo 43 = .ok (.invokevirtual 50, 3) := by decide +kernel
theorem dX8_goesTo_46 : decode cX8_goesTo 46 = .ok (.iconst 1, 1) := by decide +kernel
theorem dX8_goesTo_47 : decode cX8_goesTo 47 = .ok (.isub, 1) := by decide +kernel
theorem dX8_goesTo_48 : decode cX8_goesTo 48 = .ok (.istore_n 3, 1) := by decide +kernel
theorem dX8_goesTo_49 : decode cX8_goesTo 49 = .ok (.iload_n 3, 1) := by decide +kernel
theorem dX8_goesTo_50 : decode cX8_goesTo 50 = .ok (.ifCond .lt 105, 3) := by decide +kernel
theorem dX8_goesTo_53 : decode cX8_goesTo 53 = .ok (.aload_n 0, 1) := by decide +kernel
theorem dX8_goesTo_54 : decode cX8_goesTo 54 = .ok (.iload_n 3, 1) := by decide +kernel
theorem dX8_goesTo_55 : decode cX8_goesTo 55 = .ok (.iconst 2, 1) := by decide +kernel
theorem dX8_goesTo_56 : decode cX8_goesTo 56 = .ok (.invokevirtual 123, 3) := by decide +kernel
theorem dX8_goesTo_59 : decode cX8_goesTo 59 = .ok (.istore 4, 2) := by decide +kernel
theorem dX8_goesTo_61 : decode cX8_goesTo 61 = .ok (.iconst 0, 1) := by decide +kernel
theorem dX8_goesTo_62 : decode cX8_goesTo 62 = .ok (.istore 5, 2) := by decide +kernel
theorem dX8_goesTo_64 : decode cX8_goesTo 64 = .ok (.iload 5, 2) := by decide +kernel
theorem dX8_goesTo_66 : decode cX8_goesTo 66 = .ok (.iconst 4, 1) := by decide +kernel
theorem dX8_goesTo_67 : decode cX8_goesTo 67 = .ok (.if_icmp .ge 82, 3) := by decide +kernel
theorem dX8_goesTo_70 : decode cX8_goesTo 70 = .ok (.aload_n 0, 1) := by decide +kernel
theorem dX8_goesTo_71 : decode cX8_goesTo 71 = .ok (.getfield 25, 3) := by decide +kernel
theorem dX8_goesTo_74 : decode cX8_goesTo 74 = .ok (.iload_n 3, 1) := by decide +kernel
theorem dX8_goesTo_75 : decode cX8_goesTo 75 = .ok (.iaload, 1) := by decide +kernel
theorem dX8_goesTo_76 : decode cX8_goesTo 76 = .ok (.sipush 9999, 3) := by decide +kernel
theorem dX8_goesTo_79 : decode cX8_goesTo 79 = .ok (.if_icmp .ge 70, 3) := by decide +kernel
theorem dX8_goesTo_82 : decode cX8_goesTo 82 = .ok (.iload 4, 2) := by decide +kernel
theorem dX8_goesTo_84 : decode cX8_goesTo 84 = .ok (.sipush 9999, 3) := by decide +kernel
theorem dX8_goesTo_87 : decode cX8_goesTo 87 = .ok (.if_icmp .ge 62, 3) := by decide +kernel
theorem dX8_goesTo_90 : decode cX8_goesTo 90 = .ok (.aload_n 0, 1) := by decide +kernel
theorem dX8_goesTo_91 : decode cX8_goesTo 91 = .ok (.iload_n 3, 1) := by decide +kernel
theorem dX8_goesTo_92 : decode cX8_goesTo 92 = .ok (.iload 5, 2) := by decide +kernel
theorem dX8_goesTo_94 : decode cX8_goesTo 94 = .ok (.invokevirtual 119, 3) := by decide +kernel
theorem dX8_goesTo_97 : decode cX8_goesTo 97 = .ok (.istore 6, 2) := by decide +kernel
theorem dX8_goesTo_99 : decode cX8_goesTo 99 = .ok (.iload 6, 2) := by decide +kernel
theorem dX8_goesTo_101 : decode cX8_goesTo 101 = .ok (.bipush (-4), 2) := by decide +kernel
theorem dX8_goesTo_103 : decode cX8_goesTo 103 = .ok (.if_icmp .eq 40, 3) := by decide +kernel
theorem dX8_goesTo_106 : decode cX8_goesTo 106 = .ok (.aload_n 0, 1) := by decide +kernel
theorem dX8_goesTo_107 : decode cX8_goesTo 107 = .ok (.getfield 25, 3) := by decide +kernel
theorem dX8_goesTo_110 : decode cX8_goesTo 110 = .ok (.iload_n 3, 1) := by decide +kernel
theorem dX8_goesTo_111 : decode cX8_goesTo 111 = .ok (.iaload, 1) := by decide +kernel
theorem dX8_goesTo_112 : decode cX8_goesTo 112 = .ok (.iload 4, 2) := by decide +kernel
theorem dX8_goesTo_114 : decode cX8_goesTo 114 = .ok (.iadd, 1) := by decide +kernel
theorem dX8_goesTo_115 : decode cX8_goesTo 115 = .ok (.aload_n 0, 1) := by decide +kernel
theorem dX8_goesTo_116 : decode cX8_goesTo 116 = .ok (.getfield 25, 3) := by decide +kernel
theorem dX8_goesTo_119 : decode cX8_goesTo 119 = .ok (.iload 6, 2) := by decide +kernel
theorem dX8_goesTo_121 : decode cX8_goesTo 121 = .ok (.iaload, 1) := by decide +kernel
theorem dX8_goesTo_122 : decode cX8_goesTo 122 = .ok (.if_icmp .ge 21, 3) := by decide +kernel
theorem dX8_goesTo_125 : decode cX8_goesTo 125 = .ok (.aload_n 0, 1) := by decide +kernel
theorem dX8_goesTo_126 : decode cX8_goesTo 126 = .ok (.getfield 25, 3) := by decide +kernel
theorem dX8_goesTo_129 : decode cX8_goesTo 129 = .ok (.iload 6, 2) := by decide +kernel
theorem dX8_goesTo_131 : decode cX8_goesTo 131 = .ok (.aload_n 0, 1) := by decide +kernel
theorem dX8_goesTo_132 : decode cX8_goesTo 132 = .ok (.getfield 25, 3) := by decide +kernel
theorem dX8_goesTo_135 : decode cX8_goesTo 135 = .ok (.iload_n 3, 1) := by decide +kernel
theorem dX8_goesTo_136 : decode cX8_goesTo 136 = .ok (.iaload, 1) := by decide +kernel
theorem dX8_goesTo_137 : decode cX8_goesTo 137 = .ok (.iload 4, 2) := by decide +kernel
theorem dX8_goesTo_139 : decode cX8_goesTo 139 = .ok (.iadd, 1) := by decide +kernel
theorem dX8_goesTo_140 : decode cX8_goesTo 140 = .ok (.iastore, 1) := by decide +kernel
theorem dX8_goesTo_141 : decode cX8_goesTo 141 = .ok (.iconst 1, 1) := by decide +kernel
theorem dX8_goesTo_142 : decode cX8_goesTo 142 = .ok (.istore_n 2, 1) := by decide +kernel
theorem dX8_goesTo_143 : decode cX8_goesTo 143 = .ok (.iinc 5 1, 3) := by decide +kernel
theorem dX8_goesTo_146 : decode cX8_goesTo 146 = .ok (.goto (-82), 3) := by decide +kernel
theorem dX8_goesTo_149 : decode cX8_goesTo 149 = .ok (.iinc 3 (-1), 3) := by decide +kernel
theorem dX8_goesTo_152 : decode cX8_goesTo 152 = .ok (.goto (-103), 3) := by decide +kernel
theorem dX8_goesTo_155 : decode cX8_goesTo 155 = .ok (.goto (-119), 3) := by decide +kernel
theorem dX8_goesTo_158 : decode cX8_goesTo 158 = .ok (.return_, 1) := by decide +kernel
set_option maxRecDepth 20000 in
theorem ggX8_target_X8_seeks : GoodIn wsX8_target wsX8_seeks := goodIn_r _ [7, 1, 8, 9, 10, 11, 6, 12, 2, 13, 14, 15, 16, 17, 18, 19, 20, 21, 22, 23, 24, 25, 26, 27, 28, 29, 30, 31, 32, 33, 34, 35, 36, 37, 38, 39, 40, 41, 42, 43, 44, 45, 46, 47, 48] (by decide +kernel) (by decide +kernel)
set_option maxRecDepth 20000 in
theorem gX8_target_X8_seeks : GoodIn wsX8_target (wsV RX8 126 RX8 yX8_seeks wsX8_seeks) := goodIn_app (goodIn_of _ (by decide +kernel)) ggX8_target_X8_seeks
set_option maxRecDepth 20000 in
theorem ggX8_target_X8_cells : GoodIn wsX8_target wsX8_cells := goodIn_r _ [12, 2, 25, 26, 27, 28, 29, 30, 31, 32, 33, 34, 35, 36, 37, 38, 39, 40, 41, 42, 43, 44, 45, 46, 47, 48] (by decide +kernel) (by decide +kernel)
set_option maxRecDepth 20000 in
theorem gX8_target_X8_cells : GoodIn wsX8_target (wsV RX8 50 RX8 yX8_cells wsX8_cells) := goodIn_app (goodIn_of _ (by decide +kernel)) ggX8_target_X8_cells
set_option maxRecDepth 20000 in
theorem ggX8_target_X8_kind : GoodIn wsX8_target wsX8_kind := goodIn_r _ [24, 8, 25, 26, 27, 28, 29, 30, 31, 32, 33, 34, 35, 36, 37, 38, 39, 40, 41, 42, 43, 44, 45, 46, 47, 48] (by decide +kernel) (by decide +kernel)
set_option maxRecDepth 20000 in
theorem gX8_target_X8_kind : GoodIn wsX8_target (wsV RX8 115 RX8 yX8_kind wsX8_kind) := goodIn_app (goodIn_of _ (by decide +kernel)) ggX8_target_X8_kind
theorem dX8_target_0 : decode cX8_target 0 = .ok (.aload_n 0, 1) := by decide +kernel
theorem dX8_target_1 : decode cX8_target 1 = .ok (.invokevirtual 126, 3) := by decide +kernel
theorem dX8_target_4 : decode cX8_target 4 = .ok (.bipush (-4), 2) := by decide +kernel
theorem dX8_target_6 : decode cX8_target 6 = .ok (.istore_n 1, 1) := by decide +kernel
theorem dX8_target_7 : decode cX8_target 7 = .ok (.iconst 0, 1) := by decide +kernel
theorem dX8_target_8 : decode cX8_target 8 = .ok (.istore_n 2, 1) := by decide +kernel
theorem dX8_target_9 : decode cX8_target 9 = .ok (.iload_n 2, 1) := by decide +kernel
theorem dX8_target_10 : decode cX8_target 10 = .ok (.aload_n 0, 1) := by decide +kernel
theorem dX8_target_11 : decode cX8_target 11 = .ok (.invokevirtual 50, 3) := by decide +kernel
theorem dX8_target_14 : decode cX8_target 14 = .ok (.if_icmp .ge 65, 3) := by decide +kernel
theorem dX8_target_17 : decode cX8_target 17 = .ok (.aload_n 0, 1) := by decide +kernel
theorem dX8_target_18 : decode cX8_target 18 = .ok (.iload_n 2, 1) := by decide +kernel
theorem dX8_target_19 : decode cX8_target 19 = .ok (.invokevirtual 115, 3) := by decide +kernel
theorem dX8_target_22 : decode cX8_target 22 = .ok (.iconst 3, 1) := by decide +kernel
theorem dX8_target_23 : decode cX8_target 23 = .ok (.if_icmp .ne 17, 3) := by decide +kernel
theorem dX8_target_26 : decode cX8_target 26 = .ok (.aload_n 0, 1) := by decide +kernel
theorem dX8_target_27 : decode cX8_target 27 = .ok (.getfield 22, 3) := by decide +kernel
theorem dX8_target_30 : decode cX8_target 30 = .ok (.iload_n 2, 1) := by decide +kernel
theorem dX8_target_31 : decode cX8_target 31 = .ok (.iaload, 1) := by decide +kernel
theorem dX8_target_32 : decode cX8_target 32 = .ok (.iconst 5, 1) := by decide +kernel
theorem dX8_target_33 : decode cX8_target 33 = .ok (.if_icmp .ge 7, 3) := by decide +kernel
theorem dX8_target_36 : decode cX8_target 36 = .ok (.iconst 1, 1) := by decide +kernel
theorem dX8_target_37 : decode cX8_target 37 = .ok (.goto 4, 3) := by decide +kernel
theorem dX8_target_40 : decode cX8_target 40 = .ok (.iconst 0, 1) := by decide +kernel
theorem dX8_target_41 : decode cX8_target 41 = .ok (.istore_n 3, 1) := by decide +kernel
theorem dX8_target_42 : decode cX8_target 42 = .ok (.iload_n 3, 1) := by decide +kernel
theorem dX8_target_43 : decode cX8_target 43 = .ok (.ifCond .eq 28, 3) := by decide +kernel
theorem dX8_target_46 : decode cX8_target 46 = .ok (.iload_n 1, 1) := by decide +kernel
theorem dX8_target_47 : decode cX8_target 47 = .ok (.bipush (-4), 2) := by decide +kernel
theorem dX8_target_49 : decode cX8_target 49 = .ok (.if_icmp .eq 18, 3) := by decide +kernel
theorem dX8_target_52 : decode cX8_target 52 = .ok (.aload_n 0, 1) := by decide +kernel
theorem dX8_target_53 : decode cX8_target 53 = .ok (.getfield 22, 3) := by decide +kernel
theorem dX8_target_56 : decode cX8_target 56 = .ok (.iload_n 2, 1) := by decide +kernel
theorem dX8_target_57 : decode cX8_target 57 = .ok (.iaload, 1) := by decide +kernel
theorem dX8_target_58 : decode cX8_target 58 = .ok (.aload_n 0, 1) := by decide +kernel
theorem dX8_target_59 : decode cX8_target 59 = .ok (.getfield 22, 3) := by decide +kernel
theorem dX8_target_62 : decode cX8_target 62 = .ok (.iload_n 1, 1) := by decide +kernel
theorem dX8_target_63 : decode cX8_target 63 = .ok (.iaload, 1) := by decide +kernel
theorem dX8_target_64 : decode cX8_target 64 = .ok (.if_icmp .ge 7, 3) := by decide +kernel
theorem dX8_target_67 : decode cX8_target 67 = .ok (.iload_n 2, 1) := by decide +kernel
theorem dX8_target_68 : decode cX8_target 68 = .ok (.goto 4, 3) := by decide +kernel
theorem dX8_target_71 : decode cX8_target 71 = .ok (.iload_n 1, 1) := by decide +kernel
theorem dX8_target_72 : decode cX8_target 72 = .ok (.istore_n 1, 1) := by decide +kernel
theorem dX8_target_73 : decode cX8_target 73 = .ok (.iinc 2 1, 3) := by decide +kernel
theorem dX8_target_76 : decode cX8_target 76 = .ok (.goto (-67), 3) := by decide +kernel
theorem dX8_target_79 : decode cX8_target 79 = .ok (.iload_n 1, 1) := by decide +kernel
theorem dX8_target_80 : decode cX8_target 80 = .ok (.bipush (-4), 2) := by decide +kernel
theorem dX8_target_82 : decode cX8_target 82 = .ok (.if_icmp .eq 5, 3) := by decide +kernel
theorem dX8_target_85 : decode cX8_target 85 = .ok (.iload_n 1, 1) := by decide +kernel
theorem dX8_target_86 : decode cX8_target 86 = .ok (.ireturn, 1) := by decide +kernel
theorem dX8_target_87 : decode cX8_target 87 = .ok (.aload_n 0, 1) := by decide +kernel
theorem dX8_target_88 : decode cX8_target 88 = .ok (.invokevirtual 50, 3) := by decide +kernel
theorem dX8_target_91 : decode cX8_target 91 = .ok (.aload_n 0, 1) := by decide +kernel
theorem dX8_target_92 : decode cX8_target 92 = .ok (.getfield 7, 3) := by decide +kernel
theorem dX8_target_95 : decode cX8_target 95 = .ok (.iconst 1, 1) := by decide +kernel
theorem dX8_target_96 : decode cX8_target 96 = .ok (.iaload, 1) := by decide +kernel
theorem dX8_target_97 : decode cX8_target 97 = .ok (.isub, 1) := by decide +kernel
theorem dX8_target_98 : decode cX8_target 98 = .ok (.istore_n 2, 1) := by decide +kernel
theorem dX8_target_99 : decode cX8_target 99 = .ok (.iload_n 2, 1) := by decide +kernel
theorem dX8_target_100 : decode cX8_target 100 = .ok (.aload_n 0, 1) := by decide +kernel
theorem dX8_target_101 : decode cX8_target 101 = .ok (.invokevirtual 50, 3) := by decide +kernel
theorem dX8_target_104 : decode cX8_target 104 = .ok (.if_icmp .ge 48, 3) := by decide +kernel
theorem dX8_target_107 : decode cX8_target 107 = .ok (.aload_n 0, 1) := by decide +kernel
theorem dX8_target_108 : decode cX8_target 108 = .ok (.getfield 22, 3) := by decide +kernel
theorem dX8_target_111 : decode cX8_target 111 = .ok (.iload_n 2, 1) := by decide +kernel
theorem dX8_target_112 : decode cX8_target 112 = .ok (.iaload, 1) := by decide +kernel
theorem dX8_target_113 : decode cX8_target 113 = .ok (.sipush 9999, 3) := by decide +kernel
theorem dX8_target_116 : decode cX8_target 116 = .ok (.if_icmp .ge 28, 3) := by decide +kernel
theorem dX8_target_119 : decode cX8_target 119 = .ok (.iload_n 1, 1) := by decide +kernel
theorem dX8_target_120 : decode cX8_target 120 = .ok (.bipush (-4), 2) := by decide +kernel
theorem dX8_target_122 : decode cX8_target 122 = .ok (.if_icmp .eq 18, 3) := by decide +kernel
theorem dX8_target_125 : decode cX8_target 125 = .ok (.aload_n 0, 1) := by decide +kernel
theorem dX8_target_126 : decode cX8_target 126 = .ok (.getfield 22, 3) := by decide +kernel
theorem dX8_target_129 : decode cX8_target 129 = .ok (.iload_n 2, 1) := by decide +kernel
theorem dX8_target_130 : decode cX8_target 130 = .ok (.iaload, 1) := by decide +kernel
theorem dX8_target_131 : decode cX8_target 131 = .ok (.aload_n 0, 1) := by decide +kernel
theorem dX8_target_132 : decode cX8_target 132 = .ok (.getfield 22, 3) := by decide +kernel
theorem dX8_target_135 : decode cX8_target 135 = .ok (.iload_n 1, 1) := by decide +kernel
theorem dX8_target_136 : decode cX8_target 136 = .ok (.iaload, 1) := by decide +kernel
theorem dX8_target_137 : decode cX8_target 137 = .ok (.if_icmp .ge 7, 3) := by decide +kernel
theorem dX8_target_140 : decode cX8_target 140 = .ok (.iload_n 2, 1) := by decide +kernel
theorem dX8_target_141 : decode cX8_target 141 = .ok (.goto 4, 3) := by decide +kernel
theorem dX8_target_144 : decode cX8_target 144 = .ok (.iload_n 1, 1) := by decide +kernel
theorem dX8_target_145 : decode cX8_target 145 = .ok (.istore_n 1, 1) := by decide +kernel
theorem dX8_target_146 : decode cX8_target 146 = .ok (.iinc 2 1, 3) := by decide +kernel
theorem dX8_target_149 : decode cX8_target 149 = .ok (.goto (-50), 3) := by decide +kernel
theorem dX8_target_152 : decode cX8_target 152 = .ok (.iload_n 1, 1) := by decide +kernel
theorem dX8_target_153 : decode cX8_target 153 = .ok (.ireturn, 1) := by decide +kernel
set_option maxRecDepth 20000 in
theorem ggX8_next_X8_target : GoodIn wsX8_next wsX8_target := goodIn_r _ [7, 8, 9, 10, 11, 12, 6, 13, 1, 14, 15, 16, 17, 18, 19, 20, 21, 22, 23, 24, 25, 26, 27, 28, 29, 34, 35, 36, 37, 38, 39, 40, 41, 42, 43, 44, 45, 46, 47, 48, 49, 50, 51, 52, 53, 54, 55, 56, 57] (by decide +kernel) (by decide +kernel)
set_option maxRecDepth 20000 in
theorem gX8_next_X8_target : GoodIn wsX8_next (wsV RX8 129 RX8 yX8_target wsX8_target) := goodIn_app (goodIn_of _ (by decide +kernel)) ggX8_next_X8_target
set_option maxRecDepth 20000 in
theorem ggX8_next_X8_goesTo : GoodIn wsX8_next wsX8_goesTo := goodIn_r _ [33, 2, 14, 15, 16, 6, 17, 9, 22, 23, 24, 25, 26, 27, 28, 29, 1, 18, 19, 20, 21, 34, 35, 36, 37, 38, 39, 40, 41, 42, 43, 44, 45, 46, 47, 48, 49, 50, 51, 52, 53, 54, 55, 56, 57] (by decide +kernel) (by decide +kernel)
set_option maxRecDepth 20000 in
theorem gX8_next_X8_goesTo : GoodIn wsX8_next (wsV RX8 132 RX8 yX8_goesTo wsX8_goesTo) := goodIn_app (goodIn_of _ (by decide +kernel)) ggX8_next_X8_goesTo
set_option maxRecDepth 20000 in
theorem ggX8_next_X8_beside : GoodIn wsX8_next wsX8_beside := goodIn_r _ [21, 9, 14, 15, 16, 6, 17, 34, 35, 36, 37, 38, 39, 40, 41, 42, 43, 44, 45, 46, 47, 48, 49, 50, 51, 52, 53, 54, 55, 56, 57] (by decide +kernel) (by decide +kernel)
set_option maxRecDepth 20000 in
theorem gX8_next_X8_beside : GoodIn wsX8_next (wsV RX8 119 RX8 yX8_beside wsX8_beside) := goodIn_app (goodIn_of _ (by decide +kernel)) ggX8_next_X8_beside
set_option maxRecDepth 20000 in
theorem ggX8_next_X8_into : GoodIn wsX8_next wsX8_into := goodIn_r _ [25, 26, 27, 28, 6, 29, 1, 34, 35, 36, 37, 38, 39, 40, 41, 42, 43, 44, 45, 46, 47, 48, 49, 50, 51, 52, 53, 54, 55, 56, 57] (by decide +kernel) (by decide +kernel)
set_option maxRecDepth 20000 in
theorem gX8_next_X8_into : GoodIn wsX8_next (wsV RX8 123 RX8 yX8_into wsX8_into) := goodIn_app (goodIn_of _ (by decide +kernel)) ggX8_next_X8_into
theorem dX8_next_0 : decode cX8_next 0 = .ok (.aload_n 0, 1) := by decide +kernel
theorem dX8_next_1 : decode cX8_next 1 = .ok (.invokevirtual 129, 3) := by decide +kernel
theorem dX8_next_4 : decode cX8_next 4 = .ok (.istore_n 1, 1) := by decide +kernel
theorem dX8_next_5 : decode cX8_next 5 = .ok (.iload_n 1, 1) := by decide +kernel
theorem dX8_next_6 : decode cX8_next 6 = .ok (.bipush (-4), 2) := by decide +kernel
theorem dX8_next_8 : decode cX8_next 8 = .ok (.if_icmp .ne 6, 3) := by decide +kernel
theorem dX8_next_11 : decode cX8_next 11 = .ok (.bipush (-4), 2) := by decide +kernel
theorem dX8_next_13 : decode cX8_next 13 = .ok (.ireturn, 1) := by decide +kernel
theorem dX8_next_14 : decode cX8_next 14 = .ok (.aload_n 0, 1) := by decide +kernel
theorem dX8_next_15 : decode cX8_next 15 = .ok (.iload_n 1, 1) := by decide +kernel
theorem dX8_next_16 : decode cX8_next 16 = .ok (.invokevirtual 132, 3) := by decide +kernel
theorem dX8_next_19 : decode cX8_next 19 = .ok (.bipush (-4), 2) := by decide +kernel
theorem dX8_next_21 : decode cX8_next 21 = .ok (.istore_n 2, 1) := by decide +kernel
theorem dX8_next_22 : decode cX8_next 22 = .ok (.iconst 0, 1) := by decide +kernel
theorem dX8_next_23 : decode cX8_next 23 = .ok (.istore_n 3, 1) := by decide +kernel
theorem dX8_next_24 : decode cX8_next 24 = .ok (.iload_n 3, 1) := by decide +kernel
theorem dX8_next_25 : decode cX8_next 25 = .ok (.iconst 4, 1) := by decide +kernel
theorem dX8_next_26 : decode cX8_next 26 = .ok (.if_icmp .ge 91, 3) := by decide +kernel
theorem dX8_next_29 : decode cX8_next 29 = .ok (.aload_n 0, 1) := by decide +kernel
theorem dX8_next_30 : decode cX8_next 30 = .ok (.aload_n 0, 1) := by decide +kernel
theorem dX8_next_31 : decode cX8_next 31 = .ok (.getfield 13, 3) := by decide +kernel
theorem dX8_next_34 : decode cX8_next 34 = .ok (.iconst 1, 1) := by decide +kernel
theorem dX8_next_35 : decode cX8_next 35 = .ok (.iaload, 1) := by decide +kernel
theorem dX8_next_36 : decode cX8_next 36 = .ok (.iload_n 3, 1) := by decide +kernel
theorem dX8_next_37 : decode cX8_next 37 = .ok (.invokevirtual 119, 3) := by decide +kernel
theorem dX8_next_40 : decode cX8_next 40 = .ok (.istore 4, 2) := by decide +kernel
theorem dX8_next_42 : decode cX8_next 42 = .ok (.iload 4, 2) := by decide +kernel
theorem dX8_next_44 : decode cX8_next 44 = .ok (.bipush (-4), 2) := by decide +kernel
theorem dX8_next_46 : decode cX8_next 46 = .ok (.if_icmp .ne 9, 3) := by decide +kernel
theorem dX8_next_49 : decode cX8_next 49 = .ok (.sipush 9999, 3) := by decide +kernel
theorem dX8_next_52 : decode cX8_next 52 = .ok (.goto 18, 3) := by decide +kernel
theorem dX8_next_55 : decode cX8_next 55 = .ok (.aload_n 0, 1) := by decide +kernel
theorem dX8_next_56 : decode cX8_next 56 = .ok (.iload 4, 2) := by decide +kernel
theorem dX8_next_58 : decode cX8_next 58 = .ok (.iconst 2, 1) := by decide +kernel
theorem dX8_next_59 : decode cX8_next 59 = .ok (.invokevirtual 123, 3) := by decide +kernel
theorem dX8_next_62 : decode cX8_next 62 = .ok (.aload_n 0, 1) := by decide +kernel
theorem dX8_next_63 : decode cX8_next 63 = .ok (.getfield 25, 3) := by decide +kernel
theorem dX8_next_66 : decode cX8_next 66 = .ok (.iload 4, 2) := by decide +kernel
theorem dX8_next_68 : decode cX8_next 68 = .ok (.iaload, 1) := by decide +kernel
theorem dX8_next_69 : decode cX8_next 69 = .ok (.iadd, 1) := by decide +kernel
theorem dX8_next_70 : decode cX8_next 70 = .ok (.istore 5, 2) := by decide +kernel
theorem dX8_next_72 : decode cX8_next 72 = .ok (.iload 5, 2) := by decide +kernel
theorem dX8_next_74 : decode cX8_next 74 = .ok (.sipush 9999, 3) := by decide +kernel
theorem dX8_next_77 : decode cX8_next 77 = .ok (.if_icmp .ge 32, 3) := by decide +kernel
theorem dX8_next_80 : decode cX8_next 80 = .ok (.iload_n 2, 1) := by decide +kernel
theorem dX8_next_81 : decode cX8_next 81 = .ok (.bipush (-4), 2) := by decide +kernel
theorem dX8_next_83 : decode cX8_next 83 = .ok (.if_icmp .eq 21, 3) := by decide +kernel
theorem dX8_next_86 : decode cX8_next 86 = .ok (.iload 5, 2) := by decide +kernel
theorem dX8_next_88 : decode cX8_next 88 = .ok (.aload_n 0, 1) := by decide +kernel
theorem dX8_next_89 : decode cX8_next 89 = .ok (.iload_n 2, 1) := by decide +kernel
theorem dX8_next_90 : decode cX8_next 90 = .ok (.iconst 2, 1) := by decide +kernel
theorem dX8_next_91 : decode cX8_next 91 = .ok (.invokevirtual 123, 3) := by decide +kernel
theorem dX8_next_94 : decode cX8_next 94 = .ok (.aload_n 0, 1) := by decide +kernel
theorem dX8_next_95 : decode cX8_next 95 = .ok (.getfield 25, 3) := by decide +kernel
theorem dX8_next_98 : decode cX8_next 98 = .ok (.iload_n 2, 1) := by decide +kernel
theorem dX8_next_99 : decode cX8_next 99 = .ok (.iaload, 1) := by decide +kernel
theorem dX8_next_100 : decode cX8_next 100 = .ok (.iadd, 1) := by decide +kernel
theorem dX8_next_101 : decode cX8_next 101 = .ok (.if_icmp .ge 8, 3) := by decide +kernel
theorem dX8_next_104 : decode cX8_next 104 = .ok (.iload 4, 2) := by decide +kernel
theorem dX8_next_106 : decode cX8_next 106 = .ok (.goto 4, 3) := by decide +kernel
theorem dX8_next_109 : decode cX8_next 109 = .ok (.iload_n 2, 1) := by decide +kernel
theorem dX8_next_110 : decode cX8_next 110 = .ok (.istore_n 2, 1) := by decide +kernel
theorem dX8_next_111 : decode cX8_next 111 = .ok (.iinc 3 1, 3) := by decide +kernel
theorem dX8_next_114 : decode cX8_next 114 = .ok (.goto (-90), 3) := by decide +kernel
theorem dX8_next_117 : decode cX8_next 117 = .ok (.iload_n 2, 1) := by decide +kernel
theorem dX8_next_118 : decode cX8_next 118 = .ok (.ireturn, 1) := by decide +kernel
theorem dX8_dampOf_0 : decode cX8_dampOf 0 = .ok (.aload_n 0, 1) := by decide +kernel
theorem dX8_dampOf_1 : decode cX8_dampOf 1 = .ok (.getfield 7, 3) := by decide +kernel
theorem dX8_dampOf_4 : decode cX8_dampOf 4 = .ok (.iconst 3, 1) := by decide +kernel
theorem dX8_dampOf_5 : decode cX8_dampOf 5 = .ok (.iaload, 1) := by decide +kernel
theorem dX8_dampOf_6 : decode cX8_dampOf 6 = .ok (.istore_n 2, 1) := by decide +kernel
theorem dX8_dampOf_7 : decode cX8_dampOf 7 = .ok (.iload_n 2, 1) := by decide +kernel
theorem dX8_dampOf_8 : decode cX8_dampOf 8 = .ok (.ifCond .ne 7, 3) := by decide +kernel
theorem dX8_dampOf_11 : decode cX8_dampOf 11 = .ok (.iconst 3, 1) := by decide +kernel
theorem dX8_dampOf_12 : decode cX8_dampOf 12 = .ok (.goto 13, 3) := by decide +kernel
theorem dX8_dampOf_15 : decode cX8_dampOf 15 = .ok (.aload_n 0, 1) := by decide +kernel
theorem dX8_dampOf_16 : decode cX8_dampOf 16 = .ok (.getfield 7, 3) := by decide +kernel
theorem dX8_dampOf_19 : decode cX8_dampOf 19 = .ok (.iconst 4, 1) := by decide +kernel
theorem dX8_dampOf_20 : decode cX8_dampOf 20 = .ok (.iload_n 1, 1) := by decide +kernel
theorem dX8_dampOf_21 : decode cX8_dampOf 21 = .ok (.iload_n 2, 1) := by decide +kernel
theorem dX8_dampOf_22 : decode cX8_dampOf 22 = .ok (.irem, 1) := by decide +kernel
theorem dX8_dampOf_23 : decode cX8_dampOf 23 = .ok (.iadd, 1) := by decide +kernel
theorem dX8_dampOf_24 : decode cX8_dampOf 24 = .ok (.iaload, 1) := by decide +kernel
theorem dX8_dampOf_25 : decode cX8_dampOf 25 = .ok (.ireturn, 1) := by decide +kernel
set_option maxRecDepth 20000 in
theorem ggX8_goesBy_X8_next : GoodIn wsX8_goesBy wsX8_next := goodIn_r _ [7, 1, 8, 9, 10, 11, 6, 12, 13, 2, 14, 15, 16, 17, 18, 19, 20, 21, 22, 23, 24, 25, 26, 27, 28, 29, 30, 31, 32, 33, 34, 35, 36, 37, 38, 39, 40, 41, 42, 43, 44, 45, 46, 47, 48, 49, 50, 51, 52, 53, 54, 55, 56, 57, 58, 59, 60, 61] (by decide +kernel) (by decide +kernel)
set_option maxRecDepth 20000 in
theorem gX8_goesBy_X8_next : GoodIn wsX8_goesBy (wsV RX8 136 RX8 yX8_next wsX8_next) := goodIn_app (goodIn_of _ (by decide +kernel)) ggX8_goesBy_X8_next
set_option maxRecDepth 20000 in
theorem ggX8_goesBy_X8_into : GoodIn wsX8_goesBy wsX8_into := goodIn_r _ [29, 30, 31, 32, 6, 33, 1, 38, 39, 40, 41, 42, 43, 44, 45, 46, 47, 48, 49, 50, 51, 52, 53, 54, 55, 56, 57, 58, 59, 60, 61] (by decide +kernel) (by decide +kernel)
set_option maxRecDepth 20000 in
theorem gX8_goesBy_X8_into : GoodIn wsX8_goesBy (wsV RX8 123 RX8 yX8_into wsX8_into) := goodIn_app (goodIn_of _ (by decide +kernel)) ggX8_goesBy_X8_into
set_option maxRecDepth 20000 in
theorem ggX8_goesBy_X8_kind : GoodIn wsX8_goesBy wsX8_kind := goodIn_r _ [33, 1, 38, 39, 40, 41, 42, 43, 44, 45, 46, 47, 48, 49, 50, 51, 52, 53, 54, 55, 56, 57, 58, 59, 60, 61] (by decide +kernel) (by decide +kernel)
set_option maxRecDepth 20000 in
theorem gX8_goesBy_X8_kind : GoodIn wsX8_goesBy (wsV RX8 115 RX8 yX8_kind wsX8_kind) := goodIn_app (goodIn_of _ (by decide +kernel)) ggX8_goesBy_X8_kind
set_option maxRecDepth 20000 in
theorem ggX8_goesBy_X8_cells : GoodIn wsX8_goesBy wsX8_cells := goodIn_r _ [21, 2, 38, 39, 40, 41, 42, 43, 44, 45, 46, 47, 48, 49, 50, 51, 52, 53, 54, 55, 56, 57, 58, 59, 60, 61] (by decide +kernel) (by decide +kernel)
set_option maxRecDepth 20000 in
theorem gX8_goesBy_X8_cells : GoodIn wsX8_goesBy (wsV RX8 50 RX8 yX8_cells wsX8_cells) := goodIn_app (goodIn_of _ (by decide +kernel)) ggX8_goesBy_X8_cells
theorem dX8_goesBy_0 : decode cX8_goesBy 0 = .ok (.iload_n 1, 1) := by decide +kernel
theorem dX8_goesBy_1 : decode cX8_goesBy 1 = .ok (.istore_n 2, 1) := by decide +kernel
theorem dX8_goesBy_2 : decode cX8_goesBy 2 = .ok (.iconst 0, 1) := by decide +kernel
theorem dX8_goesBy_3 : decode cX8_goesBy 3 = .ok (.istore_n 3, 1) := by decide +kernel
theorem dX8_goesBy_4 : decode cX8_goesBy 4 = .ok (.aload_n 0, 1) := by decide +kernel
theorem dX8_goesBy_5 : decode cX8_goesBy 5 = .ok (.getfield 13, 3) := by decide +kernel
theorem dX8_goesBy_8 : decode cX8_goesBy 8 = .ok (.iconst 2, 1) := by decide +kernel
theorem dX8_goesBy_9 : decode cX8_goesBy 9 = .ok (.iaload, 1) := by decide +kernel
theorem dX8_goesBy_10 : decode cX8_goesBy 10 = .ok (.ifCond .ge 7, 3) := by decide +kernel
theorem dX8_goesBy_13 : decode cX8_goesBy 13 = .ok (.iconst 1, 1) := by decide +kernel
theorem dX8_goesBy_14 : decode cX8_goesBy 14 = .ok (.goto 4, 3) := by decide +kernel
theorem dX8_goesBy_17 : decode cX8_goesBy 17 = .ok (.iconst 0, 1) := by decide +kernel
theorem dX8_goesBy_18 : decode cX8_goesBy 18 = .ok (.istore 4, 2) := by decide +kernel
theorem dX8_goesBy_20 : decode cX8_goesBy 20 = .ok (.iconst 1, 1) := by decide +kernel
theorem dX8_goesBy_21 : decode cX8_goesBy 21 = .ok (.istore 5, 2) := by decide +kernel
theorem dX8_goesBy_23 : decode cX8_goesBy 23 = .ok (.iload 4, 2) := by decide +kernel
theorem dX8_goesBy_25 : decode cX8_goesBy 25 = .ok (.ifCond .eq 178, 3) := by decide +kernel
theorem dX8_goesBy_28 : decode cX8_goesBy 28 = .ok (.aload_n 0, 1) := by decide +kernel
theorem dX8_goesBy_29 : decode cX8_goesBy 29 = .ok (.invokevirtual 136, 3) := by decide +kernel
theorem dX8_goesBy_32 : decode cX8_goesBy 32 = .ok (.istore 6, 2) := by decide +kernel
theorem dX8_goesBy_34 : decode cX8_goesBy 34 = .ok (.iload 6, 2) := by decide +kernel
theorem dX8_goesBy_36 : decode cX8_goesBy 36 = .ok (.bipush (-4), 2) := by decide +kernel
theorem dX8_goesBy_38 : decode cX8_goesBy 38 = .ok (.if_icmp .ne 9, 3) := by decide +kernel
theorem dX8_goesBy_41 : decode cX8_goesBy 41 = .ok (.sipush 9999, 3) := by decide +kernel
theorem dX8_goesBy_44 : decode cX8_goesBy 44 = .ok (.goto 19, 3) := by decide +kernel
theorem dX8_goesBy_47 : decode cX8_goesBy 47 = .ok (.aload_n 0, 1) := by decide +kernel
theorem dX8_goesBy_48 : decode cX8_goesBy 48 = .ok (.iload 6, 2) := by decide +kernel
theorem dX8_goesBy_50 : decode cX8_goesBy 50 = .ok (.iload_n 1, 1) := by decide +kernel
theorem dX8_goesBy_51 : decode cX8_goesBy 51 = .ok (.iconst 3, 1) := by decide +kernel
theorem dX8_goesBy_52 : decode cX8_goesBy 52 = .ok (.if_icmp .ge 7, 3) := by decide +kernel
theorem dX8_goesBy_55 : decode cX8_goesBy 55 = .ok (.iconst 1, 1) := by decide +kernel
theorem dX8_goesBy_56 : decode cX8_goesBy 56 = .ok (.goto 4, 3) := by decide +kernel
theorem dX8_goesBy_59 : decode cX8_goesBy 59 = .ok (.iconst 2, 1) := by decide +kernel
theorem dX8_goesBy_60 : decode cX8_goesBy 60 = .ok (.invokevirtual 123, 3) := by decide +kernel
theorem dX8_goesBy_63 : decode cX8_goesBy 63 = .ok (.istore 7, 2) := by decide +kernel
theorem dX8_goesBy_65 : decode cX8_goesBy 65 = .ok (.iload 5, 2) := by decide +kernel
theorem dX8_goesBy_67 : decode cX8_goesBy 67 = .ok (.ifCond .eq 20, 3) := by decide +kernel
theorem dX8_goesBy_70 : decode cX8_goesBy 70 = .ok (.iload 6, 2) := by decide +kernel
theorem dX8_goesBy_72 : decode cX8_goesBy 72 = .ok (.bipush (-4), 2) := by decide +kernel
theorem dX8_goesBy_74 : decode cX8_goesBy 74 = .ok (.if_icmp .eq 13, 3) := by decide +kernel
theorem dX8_goesBy_77 : decode cX8_goesBy 77 = .ok (.iload 7, 2) := by decide +kernel
theorem dX8_goesBy_79 : decode cX8_goesBy 79 = .ok (.iload_n 2, 1) := by decide +kernel
theorem dX8_goesBy_80 : decode cX8_goesBy 80 = .ok (.if_icmp .le 7, 3) := by decide +kernel
theorem dX8_goesBy_83 : decode cX8_goesBy 83 = .ok (.iconst 1, 1) := by decide +kernel
theorem dX8_goesBy_84 : decode cX8_goesBy 84 = .ok (.goto 4, 3) := by decide +kernel
theorem dX8_goesBy_87 : decode cX8_goesBy 87 = .ok (.iconst 0, 1) := by decide +kernel
theorem dX8_goesBy_88 : decode cX8_goesBy 88 = .ok (.istore_n 3, 1) := by decide +kernel
theorem dX8_goesBy_89 : decode cX8_goesBy 89 = .ok (.iload 7, 2) := by decide +kernel
theorem dX8_goesBy_91 : decode cX8_goesBy 91 = .ok (.iload_n 2, 1) := by decide +kernel
theorem dX8_goesBy_92 : decode cX8_goesBy 92 = .ok (.if_icmp .gt 7, 3) := by decide +kernel
theorem dX8_goesBy_95 : decode cX8_goesBy 95 = .ok (.iconst 1, 1) := by decide +kernel
theorem dX8_goesBy_96 : decode cX8_goesBy 96 = .ok (.goto 4, 3) := by decide +kernel
theorem dX8_goesBy_99 : decode cX8_goesBy 99 = .ok (.iconst 0, 1) := by decide +kernel
theorem dX8_goesBy_100 : decode cX8_goesBy 100 = .ok (.istore 4, 2) := by decide +kernel
theorem dX8_goesBy_102 : decode cX8_goesBy 102 = .ok (.iload 4, 2) := by decide +kernel
theorem dX8_goesBy_104 : decode cX8_goesBy 104 = .ok (.ifCond .eq 93, 3) := by decide +kernel
theorem dX8_goesBy_107 : decode cX8_goesBy 107 = .ok (.iload_n 2, 1) := by decide +kernel
theorem dX8_goesBy_108 : decode cX8_goesBy 108 = .ok (.iload 7, 2) := by decide +kernel
theorem dX8_goesBy_110 : decode cX8_goesBy 110 = .ok (.isub, 1) := by decide +kernel
theorem dX8_goesBy_111 : decode cX8_goesBy 111 = .ok (.istore_n 2, 1) := by decide +kernel
theorem dX8_goesBy_112 : decode cX8_goesBy 112 = .ok (.aload_n 0, 1) := by decide +kernel
theorem dX8_goesBy_113 : decode cX8_goesBy 113 = .ok (.getfield 13, 3) := by decide +kernel
theorem dX8_goesBy_116 : decode cX8_goesBy 116 = .ok (.iconst 1, 1) := by decide +kernel
theorem dX8_goesBy_117 : decode cX8_goesBy 117 = .ok (.iload 6, 2) := by decide +kernel
theorem dX8_goesBy_119 : decode cX8_goesBy 119 = .ok (.iastore, 1) := by decide +kernel
theorem dX8_goesBy_120 : decode cX8_goesBy 120 = .ok (.aload_n 0, 1) := by decide +kernel
theorem dX8_goesBy_121 : decode cX8_goesBy 121 = .ok (.iload 6, 2) := by decide +kernel
theorem dX8_goesBy_123 : decode cX8_goesBy 123 = .ok (.invokevirtual 115, 3) := by decide +kernel
theorem dX8_goesBy_126 : decode cX8_goesBy 126 = .ok (.iconst 3, 1) := by decide +kernel
theorem dX8_goesBy_127 : decode cX8_goesBy 127 = .ok (.if_icmp .eq 7, 3) := by decide +kernel
theorem dX8_goesBy_130 : decode cX8_goesBy 130 = .ok (.iconst 1, 1) := by decide +kernel
theorem dX8_goesBy_131 : decode cX8_goesBy 131 = .ok (.goto 4, 3) := by decide +kernel
theorem dX8_goesBy_134 : decode cX8_goesBy 134 = .ok (.iconst 0, 1) := by decide +kernel
theorem dX8_goesBy_135 : decode cX8_goesBy 135 = .ok (.istore 4, 2) := by decide +kernel
theorem dX8_goesBy_137 : decode cX8_goesBy 137 = .ok (.aload_n 0, 1) := by decide +kernel
theorem dX8_goesBy_138 : decode cX8_goesBy 138 = .ok (.getfield 13, 3) := by decide +kernel
theorem dX8_goesBy_141 : decode cX8_goesBy 141 = .ok (.iconst 3, 1) := by decide +kernel
theorem dX8_goesBy_142 : decode cX8_goesBy 142 = .ok (.iload 6, 2) := by decide +kernel
theorem dX8_goesBy_144 : decode cX8_goesBy 144 = .ok (.iadd, 1) := by decide +kernel
theorem dX8_goesBy_145 : decode cX8_goesBy 145 = .ok (.aload_n 0, 1) := by decide +kernel
theorem dX8_goesBy_146 : decode cX8_goesBy 146 = .ok (.iload 6, 2) := by decide +kernel
theorem dX8_goesBy_148 : decode cX8_goesBy 148 = .ok (.invokevirtual 115, 3) := by decide +kernel
theorem dX8_goesBy_151 : decode cX8_goesBy 151 = .ok (.iconst 3, 1) := by decide +kernel
theorem dX8_goesBy_152 : decode cX8_goesBy 152 = .ok (.if_icmp .ne 7, 3) := by decide +kernel
theorem dX8_goesBy_155 : decode cX8_goesBy 155 = .ok (.iconst 0, 1) := by decide +kernel
theorem dX8_goesBy_156 : decode cX8_goesBy 156 = .ok (.goto 9, 3) := by decide +kernel
theorem dX8_goesBy_159 : decode cX8_goesBy 159 = .ok (.aload_n 0, 1) := by decide +kernel
theorem dX8_goesBy_160 : decode cX8_goesBy 160 = .ok (.iload 6, 2) := by decide +kernel
theorem dX8_goesBy_162 : decode cX8_goesBy 162 = .ok (.invokevirtual 115, 3) := by decide +kernel
theorem dX8_goesBy_165 : decode cX8_goesBy 165 = .ok (.iastore, 1) := by decide +kernel
theorem dX8_goesBy_166 : decode cX8_goesBy 166 = .ok (.iload 6, 2) := by decide +kernel
theorem dX8_goesBy_168 : decode cX8_goesBy 168 = .ok (.aload_n 0, 1) := by decide +kernel
theorem dX8_goesBy_169 : decode cX8_goesBy 169 = .ok (.invokevirtual 50, 3) := by decide +kernel
theorem dX8_goesBy_172 : decode cX8_goesBy 172 = .ok (.aload_n 0, 1) := by decide +kernel
theorem dX8_goesBy_173 : decode cX8_goesBy 173 = .ok (.getfield 7, 3) := by decide +kernel
theorem dX8_goesBy_176 : decode cX8_goesBy 176 = .ok (.iconst 1, 1) := by decide +kernel
theorem dX8_goesBy_177 : decode cX8_goesBy 177 = .ok (.iaload, 1) := by decide +kernel
theorem dX8_goesBy_178 : decode cX8_goesBy 178 = .ok (.isub, 1) := by decide +kernel
theorem dX8_goesBy_179 : decode cX8_goesBy 179 = .ok (.if_icmp .lt 18, 3) := by decide +kernel
theorem dX8_goesBy_182 : decode cX8_goesBy 182 = .ok (.aload_n 0, 1) := by decide +kernel
theorem dX8_goesBy_183 : decode cX8_goesBy 183 = .ok (.getfield 13, 3) := by decide +kernel
theorem dX8_goesBy_186 : decode cX8_goesBy 186 = .ok (.iconst 2, 1) := by decide +kernel
theorem dX8_goesBy_187 : decode cX8_goesBy 187 = .ok (.aload_n 0, 1) := by decide +kernel
theorem dX8_goesBy_188 : decode cX8_goesBy 188 = .ok (.getfield 13, 3) := by decide +kernel
theorem dX8_goesBy_191 : decode cX8_goesBy 191 = .ok (.iconst 0, 1) := by decide +kernel
theorem dX8_goesBy_192 : decode cX8_goesBy 192 = .ok (.iaload, 1) := by decide +kernel
theorem dX8_goesBy_193 : decode cX8_goesBy 193 = .ok (.iastore, 1) := by decide +kernel
theorem dX8_goesBy_194 : decode cX8_goesBy 194 = .ok (.iconst 0, 1) := by decide +kernel
theorem dX8_goesBy_195 : decode cX8_goesBy 195 = .ok (.istore 4, 2) := by decide +kernel
theorem dX8_goesBy_197 : decode cX8_goesBy 197 = .ok (.iconst 0, 1) := by decide +kernel
theorem dX8_goesBy_198 : decode cX8_goesBy 198 = .ok (.istore 5, 2) := by decide +kernel
theorem dX8_goesBy_200 : decode cX8_goesBy 200 = .ok (.goto (-177), 3) := by decide +kernel
theorem dX8_goesBy_203 : decode cX8_goesBy 203 = .ok (.aload_n 0, 1) := by decide +kernel
theorem dX8_goesBy_204 : decode cX8_goesBy 204 = .ok (.getfield 13, 3) := by decide +kernel
theorem dX8_goesBy_207 : decode cX8_goesBy 207 = .ok (.iconst 0, 1) := by decide +kernel
theorem dX8_goesBy_208 : decode cX8_goesBy 208 = .ok (.dup2, 1) := by decide +kernel
theorem dX8_goesBy_209 : decode cX8_goesBy 209 = .ok (.iaload, 1) := by decide +kernel
theorem dX8_goesBy_210 : decode cX8_goesBy 210 = .ok (.iconst 1, 1) := by decide +kernel
theorem dX8_goesBy_211 : decode cX8_goesBy 211 = .ok (.iadd, 1) := by decide +kernel
theorem dX8_goesBy_212 : decode cX8_goesBy 212 = .ok (.iastore, 1) := by decide +kernel
theorem dX8_goesBy_213 : decode cX8_goesBy 213 = .ok (.iload_n 3, 1) := by decide +kernel
theorem dX8_goesBy_214 : decode cX8_goesBy 214 = .ok (.ireturn, 1) := by decide +kernel
set_option maxRecDepth 20000 in
theorem ggX8_goesOn_X8_dampOf : GoodIn wsX8_goesOn wsX8_dampOf := goodIn_r _ [6, 7, 46, 47, 48, 49, 50, 51, 52, 53, 54, 55, 56, 57, 58, 59, 60, 61, 62, 63, 64, 65, 66, 67, 68, 69] (by decide +kernel) (by decide +kernel)
set_option maxRecDepth 20000 in
theorem gX8_goesOn_X8_dampOf : GoodIn wsX8_goesOn (wsV RX8 139 RX8 yX8_dampOf wsX8_dampOf) := goodIn_app (goodIn_of _ (by decide +kernel)) ggX8_goesOn_X8_dampOf
set_option maxRecDepth 20000 in
theorem ggX8_goesOn_X8_goesBy : GoodIn wsX8_goesOn wsX8_goesBy := goodIn_r _ [11, 1, 7, 12, 13, 14, 5, 15, 16, 17, 18, 19, 20, 21, 22, 23, 24, 25, 26, 27, 28, 29, 30, 31, 32, 33, 34, 35, 36, 37, 38, 39, 40, 41, 42, 43, 44, 45, 46, 47, 48, 49, 50, 51, 52, 53, 54, 55, 56, 57, 58, 59, 60, 61, 62, 63, 64, 65, 66, 67, 68, 69] (by decide +kernel) (by decide +kernel)
set_option maxRecDepth 20000 in
theorem gX8_goesOn_X8_goesBy : GoodIn wsX8_goesOn (wsV RX8 142 RX8 yX8_goesBy wsX8_goesBy) := goodIn_app (goodIn_of _ (by decide +kernel)) ggX8_goesOn_X8_goesBy
theorem dX8_goesOn_0 : decode cX8_goesOn 0 = .ok (.iconst 0, 1) := by decide +kernel
theorem dX8_goesOn_1 : decode cX8_goesOn 1 = .ok (.istore_n 2, 1) := by decide +kernel
theorem dX8_goesOn_2 : decode cX8_goesOn 2 = .ok (.iload_n 2, 1) := by decide +kernel
theorem dX8_goesOn_3 : decode cX8_goesOn 3 = .ok (.iload_n 1, 1) := by decide +kernel
theorem dX8_goesOn_4 : decode cX8_goesOn 4 = .ok (.if_icmp .ge 24, 3) := by decide +kernel
theorem dX8_goesOn_7 : decode cX8_goesOn 7 = .ok (.aload_n 0, 1) := by decide +kernel
theorem dX8_goesOn_8 : decode cX8_goesOn 8 = .ok (.aload_n 0, 1) := by decide +kernel
theorem dX8_goesOn_9 : decode cX8_goesOn 9 = .ok (.aload_n 0, 1) := by decide +kernel
theorem dX8_goesOn_10 : decode cX8_goesOn 10 = .ok (.getfield 13, 3) := by decide +kernel
theorem dX8_goesOn_13 : decode cX8_goesOn 13 = .ok (.iconst 0, 1) := by decide +kernel
theorem dX8_goesOn_14 : decode cX8_goesOn 14 = .ok (.iaload, 1) := by decide +kernel
theorem dX8_goesOn_15 : decode cX8_goesOn 15 = .ok (.invokevirtual 139, 3) := by decide +kernel
theorem dX8_goesOn_18 : decode cX8_goesOn 18 = .ok (.invokevirtual 142, 3) := by decide +kernel
theorem dX8_goesOn_21 : decode cX8_goesOn 21 = .ok (.pop, 1) := by decide +kernel
theorem dX8_goesOn_22 : decode cX8_goesOn 22 = .ok (.iinc 2 1, 3) := by decide +kernel
theorem dX8_goesOn_25 : decode cX8_goesOn 25 = .ok (.goto (-23), 3) := by decide +kernel
theorem dX8_goesOn_28 : decode cX8_goesOn 28 = .ok (.return_, 1) := by decide +kernel
set_option maxRecDepth 20000 in
theorem ggX8_cell_X8_isCell : GoodIn wsX8_cell wsX8_isCell := goodIn_r _ [6, 7, 8, 9, 5, 10, 11, 12, 13, 14, 27, 28, 29, 30, 31, 32, 33, 34, 35, 36, 37, 38, 39, 40, 41, 42, 43, 44, 45, 46, 47, 48, 49, 50] (by decide +kernel) (by decide +kernel)
set_option maxRecDepth 20000 in
theorem gX8_cell_X8_isCell : GoodIn wsX8_cell (wsV RX8 146 RX8 yX8_isCell wsX8_isCell) := goodIn_app (goodIn_of _ (by decide +kernel)) ggX8_cell_X8_isCell
set_option maxRecDepth 20000 in
theorem ggX8_cell_X8_in : GoodIn wsX8_cell wsX8_in := goodIn_r _ [14] (by decide +kernel) (by decide +kernel)
set_option maxRecDepth 20000 in
theorem gX8_cell_X8_in : GoodIn wsX8_cell (va_wsS RX8 54 yX8_in wsX8_in) := goodIn_app (goodIn_of _ (by decide +kernel)) ggX8_cell_X8_in
set_option maxRecDepth 20000 in
theorem ggX8_cell_X8_kind : GoodIn wsX8_cell wsX8_kind := goodIn_r _ [18, 1, 27, 28, 29, 30, 31, 32, 33, 34, 35, 36, 37, 38, 39, 40, 41, 42, 43, 44, 45, 46, 47, 48, 49, 50] (by decide +kernel) (by decide +kernel)
set_option maxRecDepth 20000 in
theorem gX8_cell_X8_kind : GoodIn wsX8_cell (wsV RX8 115 RX8 yX8_kind wsX8_kind) := goodIn_app (goodIn_of _ (by decide +kernel)) ggX8_cell_X8_kind
set_option maxRecDepth 20000 in
theorem ggX8_cell_X8_dampOf : GoodIn wsX8_cell wsX8_dampOf := goodIn_r _ [22, 11, 27, 28, 29, 30, 31, 32, 33, 34, 35, 36, 37, 38, 39, 40, 41, 42, 43, 44, 45, 46, 47, 48, 49, 50] (by decide +kernel) (by decide +kernel)
set_option maxRecDepth 20000 in
theorem gX8_cell_X8_dampOf : GoodIn wsX8_cell (wsV RX8 139 RX8 yX8_dampOf wsX8_dampOf) := goodIn_app (goodIn_of _ (by decide +kernel)) ggX8_cell_X8_dampOf
set_option maxRecDepth 20000 in
theorem ggX8_cell_X8_into : GoodIn wsX8_cell wsX8_into := goodIn_r _ [26, 15, 16, 17, 5, 18, 1, 27, 28, 29, 30, 31, 32, 33, 34, 35, 36, 37, 38, 39, 40, 41, 42, 43, 44, 45, 46, 47, 48, 49, 50] (by decide +kernel) (by decide +kernel)
set_option maxRecDepth 20000 in
theorem gX8_cell_X8_into : GoodIn wsX8_cell (wsV RX8 123 RX8 yX8_into wsX8_into) := goodIn_app (goodIn_of _ (by decide +kernel)) ggX8_cell_X8_into
theorem dX8_cell_0 : decode cX8_cell 0 = .ok (.aload_n 0, 1) := by decide +kernel
theorem dX8_cell_1 : decode cX8_cell 1 = .ok (.iload_n 1, 1) := by decide +kernel
theorem dX8_cell_2 : decode cX8_cell 2 = .ok (.invokevirtual 146, 3) := by decide +kernel
theorem dX8_cell_5 : decode cX8_cell 5 = .ok (.ifCond .eq 13, 3) := by decide +kernel
theorem dX8_cell_8 : decode cX8_cell 8 = .ok (.iload_n 2, 1) := by decide +kernel
theorem dX8_cell_9 : decode cX8_cell 9 = .ok (.i2l, 1) := by decide +kernel
theorem dX8_cell_10 : decode cX8_cell 10 = .ok (.lconst 0, 1) := by decide +kernel
theorem dX8_cell_11 : decode cX8_cell 11 = .ok (.lconst 1, 1) := by decide +kernel
theorem dX8_cell_12 : decode cX8_cell 12 = .ok (.invokestatic 54, 3) := by decide +kernel
theorem dX8_cell_15 : decode cX8_cell 15 = .ok (.ifCond .ne 5, 3) := by decide +kernel
theorem dX8_cell_18 : decode cX8_cell 18 = .ok (.iconst (-1), 1) := by decide +kernel
theorem dX8_cell_19 : decode cX8_cell 19 = .ok (.ireturn, 1) := by decide +kernel
theorem dX8_cell_20 : decode cX8_cell 20 = .ok (.iload_n 2, 1) := by decide +kernel
theorem dX8_cell_21 : decode cX8_cell 21 = .ok (.ifCond .ne 9, 3) := by decide +kernel
theorem dX8_cell_24 : decode cX8_cell 24 = .ok (.aload_n 0, 1) := by decide +kernel
theorem dX8_cell_25 : decode cX8_cell 25 = .ok (.iload_n 1, 1) := by decide +kernel
theorem dX8_cell_26 : decode cX8_cell 26 = .ok (.invokevirtual 115, 3) := by decide +kernel
theorem dX8_cell_29 : decode cX8_cell 29 = .ok (.ireturn, 1) := by decide +kernel
theorem dX8_cell_30 : decode cX8_cell 30 = .ok (.aload_n 0, 1) := by decide +kernel
theorem dX8_cell_31 : decode cX8_cell 31 = .ok (.iload_n 1, 1) := by decide +kernel
theorem dX8_cell_32 : decode cX8_cell 32 = .ok (.invokevirtual 115, 3) := by decide +kernel
theorem dX8_cell_35 : decode cX8_cell 35 = .ok (.iconst 2, 1) := by decide +kernel
theorem dX8_cell_36 : decode cX8_cell 36 = .ok (.if_icmp .ne 8, 3) := by decide +kernel
theorem dX8_cell_39 : decode cX8_cell 39 = .ok (.bipush (-4), 2) := by decide +kernel
theorem dX8_cell_41 : decode cX8_cell 41 = .ok (.goto 27, 3) := by decide +kernel
theorem dX8_cell_44 : decode cX8_cell 44 = .ok (.aload_n 0, 1) := by decide +kernel
theorem dX8_cell_45 : decode cX8_cell 45 = .ok (.iload_n 1, 1) := by decide +kernel
theorem dX8_cell_46 : decode cX8_cell 46 = .ok (.aload_n 0, 1) := by decide +kernel
theorem dX8_cell_47 : decode cX8_cell 47 = .ok (.aload_n 0, 1) := by decide +kernel
theorem dX8_cell_48 : decode cX8_cell 48 = .ok (.getfield 13, 3) := by decide +kernel
theorem dX8_cell_51 : decode cX8_cell 51 = .ok (.iconst 0, 1) := by decide +kernel
theorem dX8_cell_52 : decode cX8_cell 52 = .ok (.iaload, 1) := by decide +kernel
theorem dX8_cell_53 : decode cX8_cell 53 = .ok (.invokevirtual 139, 3) := by decide +kernel
theorem dX8_cell_56 : decode cX8_cell 56 = .ok (.iconst 3, 1) := by decide +kernel
theorem dX8_cell_57 : decode cX8_cell 57 = .ok (.if_icmp .ge 7, 3) := by decide +kernel
theorem dX8_cell_60 : decode cX8_cell 60 = .ok (.iconst 1, 1) := by decide +kernel
theorem dX8_cell_61 : decode cX8_cell 61 = .ok (.goto 4, 3) := by decide +kernel
theorem dX8_cell_64 : decode cX8_cell 64 = .ok (.iconst 2, 1) := by decide +kernel
theorem dX8_cell_65 : decode cX8_cell 65 = .ok (.invokevirtual 123, 3) := by decide +kernel
theorem dX8_cell_68 : decode cX8_cell 68 = .ok (.ireturn, 1) := by decide +kernel
set_option maxRecDepth 20000 in
theorem ggX8_damp_X8_in : GoodIn wsX8_damp wsX8_in := goodIn_r _ [5] (by decide +kernel) (by decide +kernel)
set_option maxRecDepth 20000 in
theorem gX8_damp_X8_in : GoodIn wsX8_damp (va_wsS RX8 54 yX8_in wsX8_in) := goodIn_app (goodIn_of _ (by decide +kernel)) ggX8_damp_X8_in
set_option maxRecDepth 20000 in
theorem ggX8_damp_X8_dampOf : GoodIn wsX8_damp wsX8_dampOf := goodIn_r _ [9, 10, 11, 12, 13, 14, 15, 16, 17, 18, 19, 20, 21, 22, 23, 24, 25, 26, 27, 28, 29, 30, 31, 32, 33, 34] (by decide +kernel) (by decide +kernel)
set_option maxRecDepth 20000 in
theorem gX8_damp_X8_dampOf : GoodIn wsX8_damp (wsV RX8 139 RX8 yX8_dampOf wsX8_dampOf) := goodIn_app (goodIn_of _ (by decide +kernel)) ggX8_damp_X8_dampOf
theorem dX8_damp_0 : decode cX8_damp 0 = .ok (.iload_n 1, 1) := by decide +kernel
theorem dX8_damp_1 : decode cX8_damp 1 = .ok (.i2l, 1) := by decide +kernel
theorem dX8_damp_2 : decode cX8_damp 2 = .ok (.lconst 0, 1) := by decide +kernel
theorem dX8_damp_3 : decode cX8_damp 3 = .ok (.ldc2_w 149, 3) := by decide +kernel
theorem dX8_damp_6 : decode cX8_damp 6 = .ok (.invokestatic 54, 3) := by decide +kernel
theorem dX8_damp_9 : decode cX8_damp 9 = .ok (.ifCond .eq 11, 3) := by decide +kernel
theorem dX8_damp_12 : decode cX8_damp 12 = .ok (.aload_n 0, 1) := by decide +kernel
theorem dX8_damp_13 : decode cX8_damp 13 = .ok (.iload_n 1, 1) := by decide +kernel
theorem dX8_damp_14 : decode cX8_damp 14 = .ok (.invokevirtual 139, 3) := by decide +kernel
theorem dX8_damp_17 : decode cX8_damp 17 = .ok (.goto 4, 3) := by decide +kernel
theorem dX8_damp_20 : decode cX8_damp 20 = .ok (.iconst (-1), 1) := by decide +kernel
theorem dX8_damp_21 : decode cX8_damp 21 = .ok (.ireturn, 1) := by decide +kernel
theorem dX8_notes_0 : decode cX8_notes 0 = .ok (.aload_n 0, 1) := by decide +kernel
theorem dX8_notes_1 : decode cX8_notes 1 = .ok (.getfield 109, 3) := by decide +kernel
theorem dX8_notes_4 : decode cX8_notes 4 = .ok (.bipush 8, 2) := by decide +kernel
theorem dX8_notes_6 : decode cX8_notes 6 = .ok (.if_icmp .ne 40, 3) := by decide +kernel
theorem dX8_notes_9 : decode cX8_notes 9 = .ok (.bipush 28, 2) := by decide +kernel
theorem dX8_notes_11 : decode cX8_notes 11 = .ok (.istore_n 1, 1) := by decide +kernel
theorem dX8_notes_12 : decode cX8_notes 12 = .ok (.iload_n 1, 1) := by decide +kernel
theorem dX8_notes_13 : decode cX8_notes 13 = .ok (.sipush 224, 3) := by decide +kernel
theorem dX8_notes_16 : decode cX8_notes 16 = .ok (.if_icmp .ge 24, 3) := by decide +kernel
theorem dX8_notes_19 : decode cX8_notes 19 = .ok (.aload_n 0, 1) := by decide +kernel
theorem dX8_notes_20 : decode cX8_notes 20 = .ok (.getfield 28, 3) := by decide +kernel
theorem dX8_notes_23 : decode cX8_notes 23 = .ok (.iload_n 1, 1) := by decide +kernel
theorem dX8_notes_24 : decode cX8_notes 24 = .ok (.bipush 28, 2) := by decide +kernel
theorem dX8_notes_26 : decode cX8_notes 26 = .ok (.isub, 1) := by decide +kernel
theorem dX8_notes_27 : decode cX8_notes 27 = .ok (.aload_n 0, 1) := by decide +kernel
theorem dX8_notes_28 : decode cX8_notes 28 = .ok (.getfield 28, 3) := by decide +kernel
theorem dX8_notes_31 : decode cX8_notes 31 = .ok (.iload_n 1, 1) := by decide +kernel
theorem dX8_notes_32 : decode cX8_notes 32 = .ok (.iaload, 1) := by decide +kernel
theorem dX8_notes_33 : decode cX8_notes 33 = .ok (.iastore, 1) := by decide +kernel
theorem dX8_notes_34 : decode cX8_notes 34 = .ok (.iinc 1 1, 3) := by decide +kernel
theorem dX8_notes_37 : decode cX8_notes 37 = .ok (.goto (-25), 3) := by decide +kernel
theorem dX8_notes_40 : decode cX8_notes 40 = .ok (.aload_n 0, 1) := by decide +kernel
theorem dX8_notes_41 : decode cX8_notes 41 = .ok (.bipush 7, 2) := by decide +kernel
theorem dX8_notes_43 : decode cX8_notes 43 = .ok (.putfield 109, 3) := by decide +kernel
theorem dX8_notes_46 : decode cX8_notes 46 = .ok (.iconst 0, 1) := by decide +kernel
theorem dX8_notes_47 : decode cX8_notes 47 = .ok (.istore_n 1, 1) := by decide +kernel
theorem dX8_notes_48 : decode cX8_notes 48 = .ok (.iload_n 1, 1) := by decide +kernel
theorem dX8_notes_49 : decode cX8_notes 49 = .ok (.bipush 28, 2) := by decide +kernel
theorem dX8_notes_51 : decode cX8_notes 51 = .ok (.if_icmp .ge 29, 3) := by decide +kernel
theorem dX8_notes_54 : decode cX8_notes 54 = .ok (.aload_n 0, 1) := by decide +kernel
theorem dX8_notes_55 : decode cX8_notes 55 = .ok (.getfield 28, 3) := by decide +kernel
theorem dX8_notes_58 : decode cX8_notes 58 = .ok (.bipush 28, 2) := by decide +kernel
theorem dX8_notes_60 : decode cX8_notes 60 = .ok (.aload_n 0, 1) := by decide +kernel
theorem dX8_notes_61 : decode cX8_notes 61 = .ok (.getfield 109, 3) := by decide +kernel
theorem dX8_notes_64 : decode cX8_notes 64 = .ok (.imul, 1) := by decide +kernel
theorem dX8_notes_65 : decode cX8_notes 65 = .ok (.iload_n 1, 1) := by decide +kernel
theorem dX8_notes_66 : decode cX8_notes 66 = .ok (.iadd, 1) := by decide +kernel
theorem dX8_notes_67 : decode cX8_notes 67 = .ok (.aload_n 0, 1) := by decide +kernel
theorem dX8_notes_68 : decode cX8_notes 68 = .ok (.getfield 13, 3) := by decide +kernel
theorem dX8_notes_71 : decode cX8_notes 71 = .ok (.iload_n 1, 1) := by decide +kernel
theorem dX8_notes_72 : decode cX8_notes 72 = .ok (.iaload, 1) := by decide +kernel
theorem dX8_notes_73 : decode cX8_notes 73 = .ok (.iastore, 1) := by decide +kernel
theorem dX8_notes_74 : decode cX8_notes 74 = .ok (.iinc 1 1, 3) := by decide +kernel
theorem dX8_notes_77 : decode cX8_notes 77 = .ok (.goto (-29), 3) := by decide +kernel
theorem dX8_notes_80 : decode cX8_notes 80 = .ok (.aload_n 0, 1) := by decide +kernel
theorem dX8_notes_81 : decode cX8_notes 81 = .ok (.dup, 1) := by decide +kernel
theorem dX8_notes_82 : decode cX8_notes 82 = .ok (.getfield 109, 3) := by decide +kernel
theorem dX8_notes_85 : decode cX8_notes 85 = .ok (.iconst 1, 1) := by decide +kernel
theorem dX8_notes_86 : decode cX8_notes 86 = .ok (.iadd, 1) := by decide +kernel
theorem dX8_notes_87 : decode cX8_notes 87 = .ok (.putfield 109, 3) := by decide +kernel
theorem dX8_notes_90 : decode cX8_notes 90 = .ok (.return_, 1) := by decide +kernel
set_option maxRecDepth 20000 in
theorem ggX8_many_X8_cells : GoodIn wsX8_many wsX8_cells := goodIn_r _ [5, 6, 12, 13, 14, 15, 16, 17, 18, 19, 20, 21, 22, 23, 24, 25, 26, 27, 28, 29, 30, 31, 32, 33, 34, 35] (by decide +kernel) (by decide +kernel)
set_option maxRecDepth 20000 in
theorem gX8_many_X8_cells : GoodIn wsX8_many (wsV RX8 50 RX8 yX8_cells wsX8_cells) := goodIn_app (goodIn_of _ (by decide +kernel)) ggX8_many_X8_cells
set_option maxRecDepth 20000 in
theorem ggX8_many_X8_kind : GoodIn wsX8_many wsX8_kind := goodIn_r _ [10, 11, 12, 13, 14, 15, 16, 17, 18, 19, 20, 21, 22, 23, 24, 25, 26, 27, 28, 29, 30, 31, 32, 33, 34, 35] (by decide +kernel) (by decide +kernel)
set_option maxRecDepth 20000 in
theorem gX8_many_X8_kind : GoodIn wsX8_many (wsV RX8 115 RX8 yX8_kind wsX8_kind) := goodIn_app (goodIn_of _ (by decide +kernel)) ggX8_many_X8_kind
theorem dX8_many_0 : decode cX8_many 0 = .ok (.iconst 0, 1) := by decide +kernel
theorem dX8_many_1 : decode cX8_many 1 = .ok (.istore_n 2, 1) := by decide +kernel
theorem dX8_many_2 : decode cX8_many 2 = .ok (.iconst 0, 1) := by decide +kernel
theorem dX8_many_3 : decode cX8_many 3 = .ok (.istore_n 3, 1) := by decide +kernel
theorem dX8_many_4 : decode cX8_many 4 = .ok (.iload_n 3, 1) := by decide +kernel
theorem dX8_many_5 : decode cX8_many 5 = .ok (.aload_n 0, 1) := by decide +kernel
theorem dX8_many_6 : decode cX8_many 6 = .ok (.invokevirtual 50, 3) := by decide +kernel
theorem dX8_many_9 : decode cX8_many 9 = .ok (.if_icmp .ge 26, 3) := by decide +kernel
theorem dX8_many_12 : decode cX8_many 12 = .ok (.iload_n 2, 1) := by decide +kernel
theorem dX8_many_13 : decode cX8_many 13 = .ok (.aload_n 0, 1) := by decide +kernel
theorem dX8_many_14 : decode cX8_many 14 = .ok (.iload_n 3, 1) := by decide +kernel
theorem dX8_many_15 : decode cX8_many 15 = .ok (.invokevirtual 115, 3) := by decide +kernel
theorem dX8_many_18 : decode cX8_many 18 = .ok (.iload_n 1, 1) := by decide +kernel
theorem dX8_many_19 : decode cX8_many 19 = .ok (.if_icmp .ne 7, 3) := by decide +kernel
theorem dX8_many_22 : decode cX8_many 22 = .ok (.iconst 1, 1) := by decide +kernel
theorem dX8_many_23 : decode cX8_many 23 = .ok (.goto 4, 3) := by decide +kernel
theorem dX8_many_26 : decode cX8_many 26 = .ok (.iconst 0, 1) := by decide +kernel
theorem dX8_many_27 : decode cX8_many 27 = .ok (.iadd, 1) := by decide +kernel
theorem dX8_many_28 : decode cX8_many 28 = .ok (.istore_n 2, 1) := by decide +kernel
theorem dX8_many_29 : decode cX8_many 29 = .ok (.iinc 3 1, 3) := by decide +kernel
theorem dX8_many_32 : decode cX8_many 32 = .ok (.goto (-28), 3) := by decide +kernel
theorem dX8_many_35 : decode cX8_many 35 = .ok (.iload_n 2, 1) := by decide +kernel
theorem dX8_many_36 : decode cX8_many 36 = .ok (.ireturn, 1) := by decide +kernel
set_option maxRecDepth 20000 in
theorem ggX8_pass_X8_in : GoodIn wsX8_pass wsX8_in := goodIn_r _ [6] (by decide +kernel) (by decide +kernel)
set_option maxRecDepth 20000 in
theorem gX8_pass_X8_in : GoodIn wsX8_pass (va_wsS RX8 54 yX8_in wsX8_in) := goodIn_app (goodIn_of _ (by decide +kernel)) ggX8_pass_X8_in
set_option maxRecDepth 20000 in
theorem ggX8_pass_X8_notes : GoodIn wsX8_pass wsX8_notes := goodIn_r _ [10, 11, 12, 2, 60, 61, 62, 63, 64, 65, 66, 67, 68, 69, 70, 71, 72, 73, 74, 75, 76, 77, 78, 79, 80, 81, 82, 83] (by decide +kernel) (by decide +kernel)
set_option maxRecDepth 20000 in
theorem gX8_pass_X8_notes : GoodIn wsX8_pass (wsV RX8 153 RX8 yX8_notes wsX8_notes) := goodIn_app (goodIn_of _ (by decide +kernel)) ggX8_pass_X8_notes
set_option maxRecDepth 20000 in
theorem ggX8_pass_X8_goesOn : GoodIn wsX8_pass wsX8_goesOn := goodIn_r _ [16, 2, 17, 18, 19, 5, 20, 21, 22, 23, 24, 25, 26, 27, 28, 29, 30, 31, 32, 33, 34, 35, 36, 37, 38, 39, 40, 41, 42, 43, 44, 45, 46, 47, 48, 49, 50, 51, 52, 53, 54, 55, 56, 57, 58, 59, 60, 61, 62, 63, 64, 65, 66, 67, 68, 69, 70, 71, 72, 73, 74, 75, 76, 77, 78, 79, 80, 81, 82, 83] (by decide +kernel) (by decide +kernel)
set_option maxRecDepth 20000 in
theorem gX8_pass_X8_goesOn : GoodIn wsX8_pass (wsV RX8 156 RX8 yX8_goesOn wsX8_goesOn) := goodIn_app (goodIn_of _ (by decide +kernel)) ggX8_pass_X8_goesOn
theorem dX8_pass_0 : decode cX8_pass 0 = .ok (.iload_n 1, 1) := by decide +kernel
theorem dX8_pass_1 : decode cX8_pass 1 = .ok (.i2l, 1) := by decide +kernel
theorem dX8_pass_2 : decode cX8_pass 2 = .ok (.lconst 1, 1) := by decide +kernel
theorem dX8_pass_3 : decode cX8_pass 3 = .ok (.ldc2_w 151, 3) := by decide +kernel
theorem dX8_pass_6 : decode cX8_pass 6 = .ok (.invokestatic 54, 3) := by decide +kernel
theorem dX8_pass_9 : decode cX8_pass 9 = .ok (.ifCond .ne 5, 3) := by decide +kernel
theorem dX8_pass_12 : decode cX8_pass 12 = .ok (.iconst (-1), 1) := by decide +kernel
theorem dX8_pass_13 : decode cX8_pass 13 = .ok (.ireturn, 1) := by decide +kernel
theorem dX8_pass_14 : decode cX8_pass 14 = .ok (.aload_n 0, 1) := by decide +kernel
theorem dX8_pass_15 : decode cX8_pass 15 = .ok (.getfield 13, 3) := by decide +kernel
theorem dX8_pass_18 : decode cX8_pass 18 = .ok (.iconst 0, 1) := by decide +kernel
theorem dX8_pass_19 : decode cX8_pass 19 = .ok (.iaload, 1) := by decide +kernel
theorem dX8_pass_20 : decode cX8_pass 20 = .ok (.iload_n 1, 1) := by decide +kernel
theorem dX8_pass_21 : decode cX8_pass 21 = .ok (.iadd, 1) := by decide +kernel
theorem dX8_pass_22 : decode cX8_pass 22 = .ok (.sipush 999, 3) := by decide +kernel
theorem dX8_pass_25 : decode cX8_pass 25 = .ok (.if_icmp .le 6, 3) := by decide +kernel
theorem dX8_pass_28 : decode cX8_pass 28 = .ok (.bipush (-2), 2) := by decide +kernel
theorem dX8_pass_30 : decode cX8_pass 30 = .ok (.ireturn, 1) := by decide +kernel
theorem dX8_pass_31 : decode cX8_pass 31 = .ok (.aload_n 0, 1) := by decide +kernel
theorem dX8_pass_32 : decode cX8_pass 32 = .ok (.invokevirtual 153, 3) := by decide +kernel
theorem dX8_pass_35 : decode cX8_pass 35 = .ok (.aload_n 0, 1) := by decide +kernel
theorem dX8_pass_36 : decode cX8_pass 36 = .ok (.iload_n 1, 1) := by decide +kernel
theorem dX8_pass_37 : decode cX8_pass 37 = .ok (.invokevirtual 156, 3) := by decide +kernel
theorem dX8_pass_40 : decode cX8_pass 40 = .ok (.aload_n 0, 1) := by decide +kernel
theorem dX8_pass_41 : decode cX8_pass 41 = .ok (.getfield 13, 3) := by decide +kernel
theorem dX8_pass_44 : decode cX8_pass 44 = .ok (.iconst 0, 1) := by decide +kernel
theorem dX8_pass_45 : decode cX8_pass 45 = .ok (.iaload, 1) := by decide +kernel
theorem dX8_pass_46 : decode cX8_pass 46 = .ok (.ireturn, 1) := by decide +kernel
set_option maxRecDepth 20000 in
theorem ggX8_lettuce_X8_isCell : GoodIn wsX8_lettuce wsX8_isCell := goodIn_r _ [6, 7, 8, 9, 5, 10, 11, 12, 13, 14, 29, 30, 31, 32, 33, 34, 35, 36, 37, 38, 39, 40, 41, 42, 43, 44, 45, 46, 47, 48, 49, 50, 51, 52] (by decide +kernel) (by decide +kernel)
set_option maxRecDepth 20000 in
theorem gX8_lettuce_X8_isCell : GoodIn wsX8_lettuce (wsV RX8 146 RX8 yX8_isCell wsX8_isCell) := goodIn_app (goodIn_of _ (by decide +kernel)) ggX8_lettuce_X8_isCell
set_option maxRecDepth 20000 in
theorem ggX8_lettuce_X8_kind : GoodIn wsX8_lettuce wsX8_kind := goodIn_r _ [18, 1, 29, 30, 31, 32, 33, 34, 35, 36, 37, 38, 39, 40, 41, 42, 43, 44, 45, 46, 47, 48, 49, 50, 51, 52] (by decide +kernel) (by decide +kernel)
set_option maxRecDepth 20000 in
theorem gX8_lettuce_X8_kind : GoodIn wsX8_lettuce (wsV RX8 115 RX8 yX8_kind wsX8_kind) := goodIn_app (goodIn_of _ (by decide +kernel)) ggX8_lettuce_X8_kind
set_option maxRecDepth 20000 in
theorem ggX8_lettuce_X8_notes : GoodIn wsX8_lettuce wsX8_notes := goodIn_r _ [22, 23, 24, 1, 29, 30, 31, 32, 33, 34, 35, 36, 37, 38, 39, 40, 41, 42, 43, 44, 45, 46, 47, 48, 49, 50, 51, 52] (by decide +kernel) (by decide +kernel)
set_option maxRecDepth 20000 in
theorem gX8_lettuce_X8_notes : GoodIn wsX8_lettuce (wsV RX8 153 RX8 yX8_notes wsX8_notes) := goodIn_app (goodIn_of _ (by decide +kernel)) ggX8_lettuce_X8_notes
set_option maxRecDepth 20000 in
theorem ggX8_lettuce_X8_many : GoodIn wsX8_lettuce wsX8_many := goodIn_r _ [28, 7, 8, 9, 5, 10, 11, 15, 16, 17, 18, 1, 29, 30, 31, 32, 33, 34, 35, 36, 37, 38, 39, 40, 41, 42, 43, 44, 45, 46, 47, 48, 49, 50, 51, 52] (by decide +kernel) (by decide +kernel)
set_option maxRecDepth 20000 in
theorem gX8_lettuce_X8_many : GoodIn wsX8_lettuce (wsV RX8 159 RX8 yX8_many wsX8_many) := goodIn_app (goodIn_of _ (by decide +kernel)) ggX8_lettuce_X8_many
theorem dX8_lettuce_0 : decode cX8_lettuce 0 = .ok (.aload_n 0, 1) := by decide +kernel
theorem dX8_lettuce_1 : decode cX8_lettuce 1 = .ok (.iload_n 1, 1) := by decide +kernel
theorem dX8_lettuce_2 : decode cX8_lettuce 2 = .ok (.invokevirtual 146, 3) := by decide +kernel
theorem dX8_lettuce_5 : decode cX8_lettuce 5 = .ok (.ifCond .ne 5, 3) := by decide +kernel
theorem dX8_lettuce_8 : decode cX8_lettuce 8 = .ok (.iconst (-1), 1) := by decide +kernel
theorem dX8_lettuce_9 : decode cX8_lettuce 9 = .ok (.ireturn, 1) := by decide +kernel
theorem dX8_lettuce_10 : decode cX8_lettuce 10 = .ok (.aload_n 0, 1) := by decide +kernel
theorem dX8_lettuce_11 : decode cX8_lettuce 11 = .ok (.iload_n 1, 1) := by decide +kernel
theorem dX8_lettuce_12 : decode cX8_lettuce 12 = .ok (.invokevirtual 115, 3) := by decide +kernel
theorem dX8_lettuce_15 : decode cX8_lettuce 15 = .ok (.ifCond .ne 13, 3) := by decide +kernel
theorem dX8_lettuce_18 : decode cX8_lettuce 18 = .ok (.aload_n 0, 1) := by decide +kernel
theorem dX8_lettuce_19 : decode cX8_lettuce 19 = .ok (.getfield 13, 3) := by decide +kernel
theorem dX8_lettuce_22 : decode cX8_lettuce 22 = .ok (.iconst 1, 1) := by decide +kernel

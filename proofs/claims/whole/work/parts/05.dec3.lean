theorem dX5_dutyAt_55 : decode cX5_dutyAt 55 = .ok (.getfield 26, 3) := by decide +kernel
theorem dX5_dutyAt_58 : decode cX5_dutyAt 58 = .ok (.iload_n 1, 1) := by decide +kernel
theorem dX5_dutyAt_59 : decode cX5_dutyAt 59 = .ok (.aload_n 0, 1) := by decide +kernel
theorem dX5_dutyAt_60 : decode cX5_dutyAt 60 = .ok (.getfield 19, 3) := by decide +kernel
theorem dX5_dutyAt_63 : decode cX5_dutyAt 63 = .ok (.iload 6, 2) := by decide +kernel
theorem dX5_dutyAt_65 : decode cX5_dutyAt 65 = .ok (.iload 7, 2) := by decide +kernel
theorem dX5_dutyAt_67 : decode cX5_dutyAt 67 = .ok (.invokevirtual 197, 3) := by decide +kernel
theorem dX5_dutyAt_70 : decode cX5_dutyAt 70 = .ok (.invokevirtual 200, 3) := by decide +kernel
theorem dX5_dutyAt_73 : decode cX5_dutyAt 73 = .ok (.ireturn, 1) := by decide +kernel
set_option maxRecDepth 20000 in
theorem ggX5_chestAnew_X5_dutyAt : GoodIn wsX5_chestAnew wsX5_dutyAt := goodIn_r _ [10, 11, 12, 13, 14, 15, 16, 17, 18, 19, 20, 21, 22, 23, 24, 25, 26, 27, 28, 29, 30, 31, 32, 33, 34, 35, 36, 37, 38, 39, 40, 41, 42, 43, 44, 45, 46, 47, 48, 49, 50, 51, 52, 53, 54, 55, 56, 57, 58, 59, 60, 61, 62, 63, 64, 65, 66, 67, 68, 69, 70, 71, 72, 73, 74, 75, 76, 77, 78, 79, 80, 85, 86, 87, 88, 89, 90, 91, 92, 93, 94, 95, 96, 97, 98, 99, 100, 101, 102] (by decide +kernel) (by decide +kernel)
set_option maxRecDepth 20000 in
theorem gX5_chestAnew_X5_dutyAt : GoodIn wsX5_chestAnew (wsV RX5 141 RX5 yX5_dutyAt wsX5_dutyAt) := goodIn_app (goodIn_of _ (by decide +kernel)) ggX5_chestAnew_X5_dutyAt
theorem dX5_chestAnew_0 : decode cX5_chestAnew 0 = .ok (.lconst 0, 1) := by decide +kernel
theorem dX5_chestAnew_1 : decode cX5_chestAnew 1 = .ok (.lstore_n 3, 1) := by decide +kernel
theorem dX5_chestAnew_2 : decode cX5_chestAnew 2 = .ok (.iconst 0, 1) := by decide +kernel
theorem dX5_chestAnew_3 : decode cX5_chestAnew 3 = .ok (.istore 5, 2) := by decide +kernel
theorem dX5_chestAnew_5 : decode cX5_chestAnew 5 = .ok (.iload 5, 2) := by decide +kernel
theorem dX5_chestAnew_7 : decode cX5_chestAnew 7 = .ok (.aload_n 0, 1) := by decide +kernel
theorem dX5_chestAnew_8 : decode cX5_chestAnew 8 = .ok (.getfield 40, 3) := by decide +kernel
theorem dX5_chestAnew_11 : decode cX5_chestAnew 11 = .ok (.getfield 154, 3) := by decide +kernel
theorem dX5_chestAnew_14 : decode cX5_chestAnew 14 = .ok (.if_icmp .ge 55, 3) := by decide +kernel
theorem dX5_chestAnew_17 : decode cX5_chestAnew 17 = .ok (.aload_n 0, 1) := by decide +kernel
theorem dX5_chestAnew_18 : decode cX5_chestAnew 18 = .ok (.aload_n 0, 1) := by decide +kernel
theorem dX5_chestAnew_19 : decode cX5_chestAnew 19 = .ok (.getfield 40, 3) := by decide +kernel
theorem dX5_chestAnew_22 : decode cX5_chestAnew 22 = .ok (.getfield 203, 3) := by decide +kernel
theorem dX5_chestAnew_25 : decode cX5_chestAnew 25 = .ok (.iload 5, 2) := by decide +kernel
theorem dX5_chestAnew_27 : decode cX5_chestAnew 27 = .ok (.iaload, 1) := by decide +kernel
theorem dX5_chestAnew_28 : decode cX5_chestAnew 28 = .ok (.aload_n 0, 1) := by decide +kernel
theorem dX5_chestAnew_29 : decode cX5_chestAnew 29 = .ok (.getfield 40, 3) := by decide +kernel
theorem dX5_chestAnew_32 : decode cX5_chestAnew 32 = .ok (.getfield 204, 3) := by decide +kernel
theorem dX5_chestAnew_35 : decode cX5_chestAnew 35 = .ok (.iload 5, 2) := by decide +kernel
theorem dX5_chestAnew_37 : decode cX5_chestAnew 37 = .ok (.iaload, 1) := by decide +kernel
theorem dX5_chestAnew_38 : decode cX5_chestAnew 38 = .ok (.iload_n 1, 1) := by decide +kernel
theorem dX5_chestAnew_39 : decode cX5_chestAnew 39 = .ok (.iload_n 2, 1) := by decide +kernel
theorem dX5_chestAnew_40 : decode cX5_chestAnew 40 = .ok (.invokevirtual 141, 3) := by decide +kernel
theorem dX5_chestAnew_43 : decode cX5_chestAnew 43 = .ok (.istore 6, 2) := by decide +kernel
theorem dX5_chestAnew_45 : decode cX5_chestAnew 45 = .ok (.lload_n 3, 1) := by decide +kernel
theorem dX5_chestAnew_46 : decode cX5_chestAnew 46 = .ok (.aload_n 0, 1) := by decide +kernel
theorem dX5_chestAnew_47 : decode cX5_chestAnew 47 = .ok (.getfield 40, 3) := by decide +kernel
theorem dX5_chestAnew_50 : decode cX5_chestAnew 50 = .ok (.getfield 205, 3) := by decide +kernel
theorem dX5_chestAnew_53 : decode cX5_chestAnew 53 = .ok (.iload 5, 2) := by decide +kernel
theorem dX5_chestAnew_55 : decode cX5_chestAnew 55 = .ok (.iaload, 1) := by decide +kernel
theorem dX5_chestAnew_56 : decode cX5_chestAnew 56 = .ok (.i2l, 1) := by decide +kernel
theorem dX5_chestAnew_57 : decode cX5_chestAnew 57 = .ok (.iload 6, 2) := by decide +kernel
theorem dX5_chestAnew_59 : decode cX5_chestAnew 59 = .ok (.i2l, 1) := by decide +kernel
theorem dX5_chestAnew_60 : decode cX5_chestAnew 60 = .ok (.lmul, 1) := by decide +kernel
theorem dX5_chestAnew_61 : decode cX5_chestAnew 61 = .ok (.ladd, 1) := by decide +kernel
theorem dX5_chestAnew_62 : decode cX5_chestAnew 62 = .ok (.lstore_n 3, 1) := by decide +kernel
theorem dX5_chestAnew_63 : decode cX5_chestAnew 63 = .ok (.iinc 5 1, 3) := by decide +kernel
theorem dX5_chestAnew_66 : decode cX5_chestAnew 66 = .ok (.goto (-61), 3) := by decide +kernel
theorem dX5_chestAnew_69 : decode cX5_chestAnew 69 = .ok (.lload_n 3, 1) := by decide +kernel
theorem dX5_chestAnew_70 : decode cX5_chestAnew 70 = .ok (.lreturn, 1) := by decide +kernel
set_option maxRecDepth 20000 in
theorem ggX5_gainAt_X5_dutyAt : GoodIn wsX5_gainAt wsX5_dutyAt := goodIn_r _ [9, 10, 11, 12, 13, 14, 15, 16, 17, 18, 19, 20, 21, 22, 23, 24, 25, 26, 27, 28, 29, 30, 31, 32, 33, 34, 35, 36, 37, 38, 39, 40, 41, 42, 43, 44, 45, 46, 47, 48, 49, 50, 51, 52, 53, 54, 55, 56, 57, 58, 59, 60, 61, 62, 63, 64, 65, 66, 67, 68, 69, 70, 71, 81, 82, 83, 84, 85, 86, 87, 88, 96, 97, 98, 99, 100, 101, 102, 103, 104, 105, 106, 107, 108, 109, 110, 111, 112, 113] (by decide +kernel) (by decide +kernel)
set_option maxRecDepth 20000 in
theorem gX5_gainAt_X5_dutyAt : GoodIn wsX5_gainAt (wsV RX5 141 RX5 yX5_dutyAt wsX5_dutyAt) := goodIn_app (goodIn_of _ (by decide +kernel)) ggX5_gainAt_X5_dutyAt
set_option maxRecDepth 20000 in
theorem ggX5_gainAt_X0_leftAfter : GoodIn wsX5_gainAt wsX0_leftAfter := goodIn_r _ [76, 77, 78, 79, 75, 80, 89, 90, 91, 92, 93, 94, 95] (by decide +kernel) (by decide +kernel)
set_option maxRecDepth 20000 in
theorem gX5_gainAt_X0_leftAfter : GoodIn wsX5_gainAt (wsV RX5 206 RX0 yX0_leftAfter wsX0_leftAfter) := goodIn_app (goodIn_of _ (by decide +kernel)) ggX5_gainAt_X0_leftAfter
theorem dX5_gainAt_0 : decode cX5_gainAt 0 = .ok (.iload_n 3, 1) := by decide +kernel
theorem dX5_gainAt_1 : decode cX5_gainAt 1 = .ok (.aload_n 0, 1) := by decide +kernel
theorem dX5_gainAt_2 : decode cX5_gainAt 2 = .ok (.aload_n 0, 1) := by decide +kernel
theorem dX5_gainAt_3 : decode cX5_gainAt 3 = .ok (.getfield 33, 3) := by decide +kernel
theorem dX5_gainAt_6 : decode cX5_gainAt 6 = .ok (.getfield 157, 3) := by decide +kernel
theorem dX5_gainAt_9 : decode cX5_gainAt 9 = .ok (.iload_n 1, 1) := by decide +kernel
theorem dX5_gainAt_10 : decode cX5_gainAt 10 = .ok (.iaload, 1) := by decide +kernel
theorem dX5_gainAt_11 : decode cX5_gainAt 11 = .ok (.iload_n 2, 1) := by decide +kernel
theorem dX5_gainAt_12 : decode cX5_gainAt 12 = .ok (.iconst (-1), 1) := by decide +kernel
theorem dX5_gainAt_13 : decode cX5_gainAt 13 = .ok (.iconst (-1), 1) := by decide +kernel
theorem dX5_gainAt_14 : decode cX5_gainAt 14 = .ok (.invokevirtual 141, 3) := by decide +kernel
theorem dX5_gainAt_17 : decode cX5_gainAt 17 = .ok (.isub, 1) := by decide +kernel
theorem dX5_gainAt_18 : decode cX5_gainAt 18 = .ok (.i2l, 1) := by decide +kernel
theorem dX5_gainAt_19 : decode cX5_gainAt 19 = .ok (.lstore 4, 2) := by decide +kernel
theorem dX5_gainAt_21 : decode cX5_gainAt 21 = .ok (.lload 4, 2) := by decide +kernel
theorem dX5_gainAt_23 : decode cX5_gainAt 23 = .ok (.aload_n 0, 1) := by decide +kernel
theorem dX5_gainAt_24 : decode cX5_gainAt 24 = .ok (.getfield 33, 3) := by decide +kernel
theorem dX5_gainAt_27 : decode cX5_gainAt 27 = .ok (.iload_n 1, 1) := by decide +kernel
theorem dX5_gainAt_28 : decode cX5_gainAt 28 = .ok (.iload_n 2, 1) := by decide +kernel
theorem dX5_gainAt_29 : decode cX5_gainAt 29 = .ok (.aload_n 0, 1) := by decide +kernel
theorem dX5_gainAt_30 : decode cX5_gainAt 30 = .ok (.getfield 48, 3) := by decide +kernel
theorem dX5_gainAt_33 : decode cX5_gainAt 33 = .ok (.isub, 1) := by decide +kernel
theorem dX5_gainAt_34 : decode cX5_gainAt 34 = .ok (.aload_n 0, 1) := by decide +kernel
theorem dX5_gainAt_35 : decode cX5_gainAt 35 = .ok (.getfield 52, 3) := by decide +kernel
theorem dX5_gainAt_38 : decode cX5_gainAt 38 = .ok (.invokevirtual 206, 3) := by decide +kernel
theorem dX5_gainAt_41 : decode cX5_gainAt 41 = .ok (.i2l, 1) := by decide +kernel
theorem dX5_gainAt_42 : decode cX5_gainAt 42 = .ok (.lmul, 1) := by decide +kernel
theorem dX5_gainAt_43 : decode cX5_gainAt 43 = .ok (.lreturn, 1) := by decide +kernel
theorem dX6_init_0 : decode cX6_init 0 = .ok (.aload_n 0, 1) := by decide +kernel
theorem dX6_init_1 : decode cX6_init 1 = .ok (.invokespecial 1, 3) := by decide +kernel
theorem dX6_init_4 : decode cX6_init 4 = .ok (.aload_n 0, 1) := by decide +kernel
theorem dX6_init_5 : decode cX6_init 5 = .ok (.bipush 60, 2) := by decide +kernel
theorem dX6_init_7 : decode cX6_init 7 = .ok (.newarray .int, 2) := by decide +kernel
theorem dX6_init_9 : decode cX6_init 9 = .ok (.putfield 7, 3) := by decide +kernel
theorem dX6_init_12 : decode cX6_init 12 = .ok (.aload_n 0, 1) := by decide +kernel
theorem dX6_init_13 : decode cX6_init 13 = .ok (.bipush 60, 2) := by decide +kernel
theorem dX6_init_15 : decode cX6_init 15 = .ok (.newarray .int, 2) := by decide +kernel
theorem dX6_init_17 : decode cX6_init 17 = .ok (.putfield 13, 3) := by decide +kernel
theorem dX6_init_20 : decode cX6_init 20 = .ok (.aload_n 0, 1) := by decide +kernel
theorem dX6_init_21 : decode cX6_init 21 = .ok (.bipush 60, 2) := by decide +kernel
theorem dX6_init_23 : decode cX6_init 23 = .ok (.newarray .int, 2) := by decide +kernel
theorem dX6_init_25 : decode cX6_init 25 = .ok (.putfield 16, 3) := by decide +kernel
theorem dX6_init_28 : decode cX6_init 28 = .ok (.aload_n 0, 1) := by decide +kernel
theorem dX6_init_29 : decode cX6_init 29 = .ok (.bipush 60, 2) := by decide +kernel
theorem dX6_init_31 : decode cX6_init 31 = .ok (.newarray .int, 2) := by decide +kernel
theorem dX6_init_33 : decode cX6_init 33 = .ok (.putfield 19, 3) := by decide +kernel
theorem dX6_init_36 : decode cX6_init 36 = .ok (.aload_n 0, 1) := by decide +kernel
theorem dX6_init_37 : decode cX6_init 37 = .ok (.bipush 60, 2) := by decide +kernel
theorem dX6_init_39 : decode cX6_init 39 = .ok (.newarray .int, 2) := by decide +kernel
theorem dX6_init_41 : decode cX6_init 41 = .ok (.putfield 22, 3) := by decide +kernel
theorem dX6_init_44 : decode cX6_init 44 = .ok (.aload_n 0, 1) := by decide +kernel
theorem dX6_init_45 : decode cX6_init 45 = .ok (.bipush 60, 2) := by decide +kernel
theorem dX6_init_47 : decode cX6_init 47 = .ok (.newarray .int, 2) := by decide +kernel
theorem dX6_init_49 : decode cX6_init 49 = .ok (.putfield 25, 3) := by decide +kernel
theorem dX6_init_52 : decode cX6_init 52 = .ok (.aload_n 0, 1) := by decide +kernel
theorem dX6_init_53 : decode cX6_init 53 = .ok (.bipush 60, 2) := by decide +kernel
theorem dX6_init_55 : decode cX6_init 55 = .ok (.newarray .int, 2) := by decide +kernel
theorem dX6_init_57 : decode cX6_init 57 = .ok (.putfield 28, 3) := by decide +kernel
theorem dX6_init_60 : decode cX6_init 60 = .ok (.aload_n 0, 1) := by decide +kernel
theorem dX6_init_61 : decode cX6_init 61 = .ok (.bipush 8, 2) := by decide +kernel
theorem dX6_init_63 : decode cX6_init 63 = .ok (.newarray .int, 2) := by decide +kernel
theorem dX6_init_65 : decode cX6_init 65 = .ok (.putfield 31, 3) := by decide +kernel
theorem dX6_init_68 : decode cX6_init 68 = .ok (.aload_n 0, 1) := by decide +kernel
theorem dX6_init_69 : decode cX6_init 69 = .ok (.bipush 8, 2) := by decide +kernel
theorem dX6_init_71 : decode cX6_init 71 = .ok (.newarray .int, 2) := by decide +kernel
theorem dX6_init_73 : decode cX6_init 73 = .ok (.putfield 34, 3) := by decide +kernel
theorem dX6_init_76 : decode cX6_init 76 = .ok (.aload_n 0, 1) := by decide +kernel
theorem dX6_init_77 : decode cX6_init 77 = .ok (.bipush 8, 2) := by decide +kernel
theorem dX6_init_79 : decode cX6_init 79 = .ok (.newarray .int, 2) := by decide +kernel
theorem dX6_init_81 : decode cX6_init 81 = .ok (.putfield 37, 3) := by decide +kernel
theorem dX6_init_84 : decode cX6_init 84 = .ok (.aload_n 0, 1) := by decide +kernel
theorem dX6_init_85 : decode cX6_init 85 = .ok (.bipush 8, 2) := by decide +kernel
theorem dX6_init_87 : decode cX6_init 87 = .ok (.newarray .int, 2) := by decide +kernel
theorem dX6_init_89 : decode cX6_init 89 = .ok (.putfield 40, 3) := by decide +kernel
theorem dX6_init_92 : decode cX6_init 92 = .ok (.aload_n 0, 1) := by decide +kernel
theorem dX6_init_93 : decode cX6_init 93 = .ok (.bipush 64, 2) := by decide +kernel
theorem dX6_init_95 : decode cX6_init 95 = .ok (.newarray .int, 2) := by decide +kernel
theorem dX6_init_97 : decode cX6_init 97 = .ok (.putfield 43, 3) := by decide +kernel
theorem dX6_init_100 : decode cX6_init 100 = .ok (.aload_n 0, 1) := by decide +kernel
theorem dX6_init_101 : decode cX6_init 101 = .ok (.bipush 64, 2) := by decide +kernel
theorem dX6_init_103 : decode cX6_init 103 = .ok (.newarray .int, 2) := by decide +kernel
theorem dX6_init_105 : decode cX6_init 105 = .ok (.putfield 46, 3) := by decide +kernel
theorem dX6_init_108 : decode cX6_init 108 = .ok (.aload_n 0, 1) := by decide +kernel
theorem dX6_init_109 : decode cX6_init 109 = .ok (.iconst 3, 1) := by decide +kernel
theorem dX6_init_110 : decode cX6_init 110 = .ok (.newarray .int, 2) := by decide +kernel
theorem dX6_init_112 : decode cX6_init 112 = .ok (.putfield 49, 3) := by decide +kernel
theorem dX6_init_115 : decode cX6_init 115 = .ok (.aload_n 0, 1) := by decide +kernel
theorem dX6_init_116 : decode cX6_init 116 = .ok (.iconst 3, 1) := by decide +kernel
theorem dX6_init_117 : decode cX6_init 117 = .ok (.newarray .int, 2) := by decide +kernel
theorem dX6_init_119 : decode cX6_init 119 = .ok (.putfield 52, 3) := by decide +kernel
theorem dX6_init_122 : decode cX6_init 122 = .ok (.aload_n 0, 1) := by decide +kernel
theorem dX6_init_123 : decode cX6_init 123 = .ok (.iconst 3, 1) := by decide +kernel
theorem dX6_init_124 : decode cX6_init 124 = .ok (.newarray .int, 2) := by decide +kernel
theorem dX6_init_126 : decode cX6_init 126 = .ok (.putfield 55, 3) := by decide +kernel
theorem dX6_init_129 : decode cX6_init 129 = .ok (.aload_n 0, 1) := by decide +kernel
theorem dX6_init_130 : decode cX6_init 130 = .ok (.bipush 20, 2) := by decide +kernel
theorem dX6_init_132 : decode cX6_init 132 = .ok (.newarray .int, 2) := by decide +kernel
theorem dX6_init_134 : decode cX6_init 134 = .ok (.putfield 58, 3) := by decide +kernel
theorem dX6_init_137 : decode cX6_init 137 = .ok (.aload_n 0, 1) := by decide +kernel
theorem dX6_init_138 : decode cX6_init 138 = .ok (.bipush 20, 2) := by decide +kernel
theorem dX6_init_140 : decode cX6_init 140 = .ok (.newarray .int, 2) := by decide +kernel
theorem dX6_init_142 : decode cX6_init 142 = .ok (.putfield 61, 3) := by decide +kernel
theorem dX6_init_145 : decode cX6_init 145 = .ok (.aload_n 0, 1) := by decide +kernel
theorem dX6_init_146 : decode cX6_init 146 = .ok (.bipush 20, 2) := by decide +kernel
theorem dX6_init_148 : decode cX6_init 148 = .ok (.newarray .int, 2) := by decide +kernel
theorem dX6_init_150 : decode cX6_init 150 = .ok (.putfield 64, 3) := by decide +kernel
theorem dX6_init_153 : decode cX6_init 153 = .ok (.aload_n 0, 1) := by decide +kernel
theorem dX6_init_154 : decode cX6_init 154 = .ok (.bipush 20, 2) := by decide +kernel
theorem dX6_init_156 : decode cX6_init 156 = .ok (.newarray .int, 2) := by decide +kernel
theorem dX6_init_158 : decode cX6_init 158 = .ok (.putfield 67, 3) := by decide +kernel
theorem dX6_init_161 : decode cX6_init 161 = .ok (.aload_n 0, 1) := by decide +kernel
theorem dX6_init_162 : decode cX6_init 162 = .ok (.bipush 20, 2) := by decide +kernel
theorem dX6_init_164 : decode cX6_init 164 = .ok (.newarray .int, 2) := by decide +kernel
theorem dX6_init_166 : decode cX6_init 166 = .ok (.putfield 70, 3) := by decide +kernel
theorem dX6_init_169 : decode cX6_init 169 = .ok (.aload_n 0, 1) := by decide +kernel
theorem dX6_init_170 : decode cX6_init 170 = .ok (.bipush 20, 2) := by decide +kernel
theorem dX6_init_172 : decode cX6_init 172 = .ok (.newarray .int, 2) := by decide +kernel
theorem dX6_init_174 : decode cX6_init 174 = .ok (.putfield 73, 3) := by decide +kernel
theorem dX6_init_177 : decode cX6_init 177 = .ok (.aload_n 0, 1) := by decide +kernel
theorem dX6_init_178 : decode cX6_init 178 = .ok (.bipush 100, 2) := by decide +kernel
theorem dX6_init_180 : decode cX6_init 180 = .ok (.newarray .int, 2) := by decide +kernel
theorem dX6_init_182 : decode cX6_init 182 = .ok (.putfield 76, 3) := by decide +kernel
theorem dX6_init_185 : decode cX6_init 185 = .ok (.aload_n 0, 1) := by decide +kernel
theorem dX6_init_186 : decode cX6_init 186 = .ok (.bipush 100, 2) := by decide +kernel
theorem dX6_init_188 : decode cX6_init 188 = .ok (.newarray .int, 2) := by decide +kernel
theorem dX6_init_190 : decode cX6_init 190 = .ok (.putfield 79, 3) := by decide +kernel
theorem dX6_init_193 : decode cX6_init 193 = .ok (.aload_n 0, 1) := by decide +kernel
theorem dX6_init_194 : decode cX6_init 194 = .ok (.bipush 100, 2) := by decide +kernel
theorem dX6_init_196 : decode cX6_init 196 = .ok (.newarray .int, 2) := by decide +kernel
theorem dX6_init_198 : decode cX6_init 198 = .ok (.putfield 82, 3) := by decide +kernel
theorem dX6_init_201 : decode cX6_init 201 = .ok (.aload_n 0, 1) := by decide +kernel
theorem dX6_init_202 : decode cX6_init 202 = .ok (.iconst (-1), 1) := by decide +kernel
theorem dX6_init_203 : decode cX6_init 203 = .ok (.putfield 85, 3) := by decide +kernel
theorem dX6_init_206 : decode cX6_init 206 = .ok (.aload_n 0, 1) := by decide +kernel
theorem dX6_init_207 : decode cX6_init 207 = .ok (.iconst (-1), 1) := by decide +kernel
theorem dX6_init_208 : decode cX6_init 208 = .ok (.putfield 89, 3) := by decide +kernel
theorem dX6_init_211 : decode cX6_init 211 = .ok (.iconst 0, 1) := by decide +kernel
theorem dX6_init_212 : decode cX6_init 212 = .ok (.istore_n 1, 1) := by decide +kernel
theorem dX6_init_213 : decode cX6_init 213 = .ok (.iload_n 1, 1) := by decide +kernel
theorem dX6_init_214 : decode cX6_init 214 = .ok (.iconst 3, 1) := by decide +kernel
theorem dX6_init_215 : decode cX6_init 215 = .ok (.if_icmp .ge 16, 3) := by decide +kernel
theorem dX6_init_218 : decode cX6_init 218 = .ok (.aload_n 0, 1) := by decide +kernel
theorem dX6_init_219 : decode cX6_init 219 = .ok (.getfield 49, 3) := by decide +kernel
theorem dX6_init_222 : decode cX6_init 222 = .ok (.iload_n 1, 1) := by decide +kernel
theorem dX6_init_223 : decode cX6_init 223 = .ok (.iconst (-1), 1) := by decide +kernel
theorem dX6_init_224 : decode cX6_init 224 = .ok (.iastore, 1) := by decide +kernel
theorem dX6_init_225 : decode cX6_init 225 = .ok (.iinc 1 1, 3) := by decide +kernel
theorem dX6_init_228 : decode cX6_init 228 = .ok (.goto (-15), 3) := by decide +kernel
theorem dX6_init_231 : decode cX6_init 231 = .ok (.return_, 1) := by decide +kernel
theorem dX6_in_0 : decode cX6_in 0 = .ok (.iload_n 0, 1) := by decide +kernel
theorem dX6_in_1 : decode cX6_in 1 = .ok (.iload_n 1, 1) := by decide +kernel
theorem dX6_in_2 : decode cX6_in 2 = .ok (.if_icmp .lt 12, 3) := by decide +kernel
theorem dX6_in_5 : decode cX6_in 5 = .ok (.iload_n 0, 1) := by decide +kernel
theorem dX6_in_6 : decode cX6_in 6 = .ok (.iload_n 2, 1) := by decide +kernel
theorem dX6_in_7 : decode cX6_in 7 = .ok (.if_icmp .gt 7, 3) := by decide +kernel
theorem dX6_in_10 : decode cX6_in 10 = .ok (.iconst 1, 1) := by decide +kernel
theorem dX6_in_11 : decode cX6_in 11 = .ok (.goto 4, 3) := by decide +kernel
theorem dX6_in_14 : decode cX6_in 14 = .ok (.iconst 0, 1) := by decide +kernel
theorem dX6_in_15 : decode cX6_in 15 = .ok (.ireturn, 1) := by decide +kernel
set_option maxRecDepth 20000 in
theorem ggX6_isGrain_X6_in : GoodIn wsX6_isGrain wsX6_in := goodIn_r _ [4] (by decide +kernel) (by decide +kernel)
set_option maxRecDepth 20000 in
theorem gX6_isGrain_X6_in : GoodIn wsX6_isGrain (va_wsS RX6 92 yX6_in wsX6_in) := goodIn_app (goodIn_of _ (by decide +kernel)) ggX6_isGrain_X6_in
theorem dX6_isGrain_0 : decode cX6_isGrain 0 = .ok (.iload_n 0, 1) := by decide +kernel
theorem dX6_isGrain_1 : decode cX6_isGrain 1 = .ok (.iconst 0, 1) := by decide +kernel
theorem dX6_isGrain_2 : decode cX6_isGrain 2 = .ok (.iconst 2, 1) := by decide +kernel
theorem dX6_isGrain_3 : decode cX6_isGrain 3 = .ok (.invokestatic 92, 3) := by decide +kernel
theorem dX6_isGrain_6 : decode cX6_isGrain 6 = .ok (.ireturn, 1) := by decide +kernel
set_option maxRecDepth 20000 in
theorem ggX6_weeks_X6_in : GoodIn wsX6_weeks wsX6_in := goodIn_r _ [9] (by decide +kernel) (by decide +kernel)
set_option maxRecDepth 20000 in
theorem gX6_weeks_X6_in : GoodIn wsX6_weeks (va_wsS RX6 92 yX6_in wsX6_in) := goodIn_app (goodIn_of _ (by decide +kernel)) ggX6_weeks_X6_in
theorem dX6_weeks_0 : decode cX6_weeks 0 = .ok (.iload_n 1, 1) := by decide +kernel
theorem dX6_weeks_1 : decode cX6_weeks 1 = .ok (.iconst 1, 1) := by decide +kernel
theorem dX6_weeks_2 : decode cX6_weeks 2 = .ok (.bipush 20, 2) := by decide +kernel
theorem dX6_weeks_4 : decode cX6_weeks 4 = .ok (.invokestatic 92, 3) := by decide +kernel
theorem dX6_weeks_7 : decode cX6_weeks 7 = .ok (.ifCond .eq 15, 3) := by decide +kernel
theorem dX6_weeks_10 : decode cX6_weeks 10 = .ok (.aload_n 0, 1) := by decide +kernel
theorem dX6_weeks_11 : decode cX6_weeks 11 = .ok (.getfield 96, 3) := by decide +kernel
theorem dX6_weeks_14 : decode cX6_weeks 14 = .ok (.iload_n 1, 1) := by decide +kernel
theorem dX6_weeks_15 : decode cX6_weeks 15 = .ok (.iadd, 1) := by decide +kernel
theorem dX6_weeks_16 : decode cX6_weeks 16 = .ok (.sipush 200, 3) := by decide +kernel
theorem dX6_weeks_19 : decode cX6_weeks 19 = .ok (.if_icmp .le 6, 3) := by decide +kernel
theorem dX6_weeks_22 : decode cX6_weeks 22 = .ok (.bipush (-2), 2) := by decide +kernel
theorem dX6_weeks_24 : decode cX6_weeks 24 = .ok (.ireturn, 1) := by decide +kernel
theorem dX6_weeks_25 : decode cX6_weeks 25 = .ok (.iconst 0, 1) := by decide +kernel
theorem dX6_weeks_26 : decode cX6_weeks 26 = .ok (.istore_n 2, 1) := by decide +kernel
theorem dX6_weeks_27 : decode cX6_weeks 27 = .ok (.iload_n 2, 1) := by decide +kernel
theorem dX6_weeks_28 : decode cX6_weeks 28 = .ok (.iload_n 1, 1) := by decide +kernel
theorem dX6_weeks_29 : decode cX6_weeks 29 = .ok (.if_icmp .ge 74, 3) := by decide +kernel
theorem dX6_weeks_32 : decode cX6_weeks 32 = .ok (.aload_n 0, 1) := by decide +kernel
theorem dX6_weeks_33 : decode cX6_weeks 33 = .ok (.dup, 1) := by decide +kernel
theorem dX6_weeks_34 : decode cX6_weeks 34 = .ok (.getfield 96, 3) := by decide +kernel
theorem dX6_weeks_37 : decode cX6_weeks 37 = .ok (.iconst 1, 1) := by decide +kernel
theorem dX6_weeks_38 : decode cX6_weeks 38 = .ok (.iadd, 1) := by decide +kernel
theorem dX6_weeks_39 : decode cX6_weeks 39 = .ok (.putfield 96, 3) := by decide +kernel
theorem dX6_weeks_42 : decode cX6_weeks 42 = .ok (.iconst 0, 1) := by decide +kernel
theorem dX6_weeks_43 : decode cX6_weeks 43 = .ok (.istore_n 3, 1) := by decide +kernel
theorem dX6_weeks_44 : decode cX6_weeks 44 = .ok (.iload_n 3, 1) := by decide +kernel
theorem dX6_weeks_45 : decode cX6_weeks 45 = .ok (.aload_n 0, 1) := by decide +kernel
theorem dX6_weeks_46 : decode cX6_weeks 46 = .ok (.getfield 99, 3) := by decide +kernel
theorem dX6_weeks_49 : decode cX6_weeks 49 = .ok (.if_icmp .ge 48, 3) := by decide +kernel
theorem dX6_weeks_52 : decode cX6_weeks 52 = .ok (.aload_n 0, 1) := by decide +kernel
theorem dX6_weeks_53 : decode cX6_weeks 53 = .ok (.getfield 61, 3) := by decide +kernel
theorem dX6_weeks_56 : decode cX6_weeks 56 = .ok (.iload_n 3, 1) := by decide +kernel
theorem dX6_weeks_57 : decode cX6_weeks 57 = .ok (.iaload, 1) := by decide +kernel
theorem dX6_weeks_58 : decode cX6_weeks 58 = .ok (.aload_n 0, 1) := by decide +kernel
theorem dX6_weeks_59 : decode cX6_weeks 59 = .ok (.getfield 102, 3) := by decide +kernel
theorem dX6_weeks_62 : decode cX6_weeks 62 = .ok (.imul, 1) := by decide +kernel
theorem dX6_weeks_63 : decode cX6_weeks 63 = .ok (.sipush 1000, 3) := by decide +kernel
theorem dX6_weeks_66 : decode cX6_weeks 66 = .ok (.idiv, 1) := by decide +kernel
theorem dX6_weeks_67 : decode cX6_weeks 67 = .ok (.istore 4, 2) := by decide +kernel
theorem dX6_weeks_69 : decode cX6_weeks 69 = .ok (.aload_n 0, 1) := by decide +kernel
theorem dX6_weeks_70 : decode cX6_weeks 70 = .ok (.getfield 61, 3) := by decide +kernel
theorem dX6_weeks_73 : decode cX6_weeks 73 = .ok (.iload_n 3, 1) := by decide +kernel
theorem dX6_weeks_74 : decode cX6_weeks 74 = .ok (.dup2, 1) := by decide +kernel
theorem dX6_weeks_75 : decode cX6_weeks 75 = .ok (.iaload, 1) := by decide +kernel
theorem dX6_weeks_76 : decode cX6_weeks 76 = .ok (.iload 4, 2) := by decide +kernel
theorem dX6_weeks_78 : decode cX6_weeks 78 = .ok (.isub, 1) := by decide +kernel
theorem dX6_weeks_79 : decode cX6_weeks 79 = .ok (.iastore, 1) := by decide +kernel
theorem dX6_weeks_80 : decode cX6_weeks 80 = .ok (.aload_n 0, 1) := by decide +kernel
theorem dX6_weeks_81 : decode cX6_weeks 81 = .ok (.getfield 70, 3) := by decide +kernel
theorem dX6_weeks_84 : decode cX6_weeks 84 = .ok (.iload_n 3, 1) := by decide +kernel
theorem dX6_weeks_85 : decode cX6_weeks 85 = .ok (.dup2, 1) := by decide +kernel
theorem dX6_weeks_86 : decode cX6_weeks 86 = .ok (.iaload, 1) := by decide +kernel
theorem dX6_weeks_87 : decode cX6_weeks 87 = .ok (.iload 4, 2) := by decide +kernel
theorem dX6_weeks_89 : decode cX6_weeks 89 = .ok (.iadd, 1) := by decide +kernel
theorem dX6_weeks_90 : decode cX6_weeks 90 = .ok (.iastore, 1) := by decide +kernel
theorem dX6_weeks_91 : decode cX6_weeks 91 = .ok (.iinc 3 1, 3) := by decide +kernel
theorem dX6_weeks_94 : decode cX6_weeks 94 = .ok (.goto (-50), 3) := by decide +kernel
theorem dX6_weeks_97 : decode cX6_weeks 97 = .ok (.iinc 2 1, 3) := by decide +kernel
theorem dX6_weeks_100 : decode cX6_weeks 100 = .ok (.goto (-73), 3) := by decide +kernel
theorem dX6_weeks_103 : decode cX6_weeks 103 = .ok (.aload_n 0, 1) := by decide +kernel
theorem dX6_weeks_104 : decode cX6_weeks 104 = .ok (.getfield 96, 3) := by decide +kernel
theorem dX6_weeks_107 : decode cX6_weeks 107 = .ok (.ireturn, 1) := by decide +kernel
set_option maxRecDepth 20000 in
theorem ggX6_sale_X6_in : GoodIn wsX6_sale wsX6_in := goodIn_r _ [13] (by decide +kernel) (by decide +kernel)
set_option maxRecDepth 20000 in
theorem gX6_sale_X6_in : GoodIn wsX6_sale (va_wsS RX6 92 yX6_in wsX6_in) := goodIn_app (goodIn_of _ (by decide +kernel)) ggX6_sale_X6_in
set_option maxRecDepth 20000 in
theorem ggX6_sale_X6_isGrain : GoodIn wsX6_sale wsX6_isGrain := goodIn_r _ [16, 10, 11, 12, 13] (by decide +kernel) (by decide +kernel)
set_option maxRecDepth 20000 in
theorem gX6_sale_X6_isGrain : GoodIn wsX6_sale (va_wsS RX6 105 yX6_isGrain wsX6_isGrain) := goodIn_app (goodIn_of _ (by decide +kernel)) ggX6_sale_X6_isGrain
theorem dX6_sale_0 : decode cX6_sale 0 = .ok (.iload_n 1, 1) := by decide +kernel
theorem dX6_sale_1 : decode cX6_sale 1 = .ok (.iconst 0, 1) := by decide +kernel
theorem dX6_sale_2 : decode cX6_sale 2 = .ok (.bipush 9, 2) := by decide +kernel
theorem dX6_sale_4 : decode cX6_sale 4 = .ok (.invokestatic 92, 3) := by decide +kernel
theorem dX6_sale_7 : decode cX6_sale 7 = .ok (.ifCond .eq 46, 3) := by decide +kernel
theorem dX6_sale_10 : decode cX6_sale 10 = .ok (.iload_n 2, 1) := by decide +kernel
theorem dX6_sale_11 : decode cX6_sale 11 = .ok (.invokestatic 105, 3) := by decide +kernel
theorem dX6_sale_14 : decode cX6_sale 14 = .ok (.ifCond .eq 39, 3) := by decide +kernel
theorem dX6_sale_17 : decode cX6_sale 17 = .ok (.iload_n 3, 1) := by decide +kernel
theorem dX6_sale_18 : decode cX6_sale 18 = .ok (.iconst 0, 1) := by decide +kernel
theorem dX6_sale_19 : decode cX6_sale 19 = .ok (.aload_n 0, 1) := by decide +kernel
theorem dX6_sale_20 : decode cX6_sale 20 = .ok (.getfield 96, 3) := by decide +kernel
theorem dX6_sale_23 : decode cX6_sale 23 = .ok (.invokestatic 92, 3) := by decide +kernel
theorem dX6_sale_26 : decode cX6_sale 26 = .ok (.ifCond .eq 27, 3) := by decide +kernel
theorem dX6_sale_29 : decode cX6_sale 29 = .ok (.iload 4, 2) := by decide +kernel
theorem dX6_sale_31 : decode cX6_sale 31 = .ok (.iconst 1, 1) := by decide +kernel
theorem dX6_sale_32 : decode cX6_sale 32 = .ok (.sipush 1000, 3) := by decide +kernel
theorem dX6_sale_35 : decode cX6_sale 35 = .ok (.invokestatic 92, 3) := by decide +kernel
theorem dX6_sale_38 : decode cX6_sale 38 = .ok (.ifCond .eq 15, 3) := by decide +kernel
theorem dX6_sale_41 : decode cX6_sale 41 = .ok (.iload 5, 2) := by decide +kernel
theorem dX6_sale_43 : decode cX6_sale 43 = .ok (.iconst 1, 1) := by decide +kernel
theorem dX6_sale_44 : decode cX6_sale 44 = .ok (.sipush 2000, 3) := by decide +kernel
theorem dX6_sale_47 : decode cX6_sale 47 = .ok (.invokestatic 92, 3) := by decide +kernel
theorem dX6_sale_50 : decode cX6_sale 50 = .ok (.ifCond .ne 6, 3) := by decide +kernel
theorem dX6_sale_53 : decode cX6_sale 53 = .ok (.bipush (-2), 2) := by decide +kernel
theorem dX6_sale_55 : decode cX6_sale 55 = .ok (.ireturn, 1) := by decide +kernel
theorem dX6_sale_56 : decode cX6_sale 56 = .ok (.aload_n 0, 1) := by decide +kernel
theorem dX6_sale_57 : decode cX6_sale 57 = .ok (.getfield 109, 3) := by decide +kernel
theorem dX6_sale_60 : decode cX6_sale 60 = .ok (.bipush 60, 2) := by decide +kernel
theorem dX6_sale_62 : decode cX6_sale 62 = .ok (.if_icmp .ne 6, 3) := by decide +kernel
theorem dX6_sale_65 : decode cX6_sale 65 = .ok (.bipush (-4), 2) := by decide +kernel
theorem dX6_sale_67 : decode cX6_sale 67 = .ok (.ireturn, 1) := by decide +kernel
theorem dX6_sale_68 : decode cX6_sale 68 = .ok (.aload_n 0, 1) := by decide +kernel
theorem dX6_sale_69 : decode cX6_sale 69 = .ok (.getfield 7, 3) := by decide +kernel
theorem dX6_sale_72 : decode cX6_sale 72 = .ok (.aload_n 0, 1) := by decide +kernel
theorem dX6_sale_73 : decode cX6_sale 73 = .ok (.getfield 109, 3) := by decide +kernel
theorem dX6_sale_76 : decode cX6_sale 76 = .ok (.iload_n 1, 1) := by decide +kernel
theorem dX6_sale_77 : decode cX6_sale 77 = .ok (.iastore, 1) := by decide +kernel
theorem dX6_sale_78 : decode cX6_sale 78 = .ok (.aload_n 0, 1) := by decide +kernel
theorem dX6_sale_79 : decode cX6_sale 79 = .ok (.getfield 13, 3) := by decide +kernel
theorem dX6_sale_82 : decode cX6_sale 82 = .ok (.aload_n 0, 1) := by decide +kernel
theorem dX6_sale_83 : decode cX6_sale 83 = .ok (.getfield 109, 3) := by decide +kernel
theorem dX6_sale_86 : decode cX6_sale 86 = .ok (.iload_n 2, 1) := by decide +kernel
theorem dX6_sale_87 : decode cX6_sale 87 = .ok (.iastore, 1) := by decide +kernel
theorem dX6_sale_88 : decode cX6_sale 88 = .ok (.aload_n 0, 1) := by decide +kernel
theorem dX6_sale_89 : decode cX6_sale 89 = .ok (.getfield 16, 3) := by decide +kernel
theorem dX6_sale_92 : decode cX6_sale 92 = .ok (.aload_n 0, 1) := by decide +kernel
theorem dX6_sale_93 : decode cX6_sale 93 = .ok (.getfield 109, 3) := by decide +kernel
theorem dX6_sale_96 : decode cX6_sale 96 = .ok (.iload_n 3, 1) := by decide +kernel
theorem dX6_sale_97 : decode cX6_sale 97 = .ok (.iastore, 1) := by decide +kernel
theorem dX6_sale_98 : decode cX6_sale 98 = .ok (.aload_n 0, 1) := by decide +kernel
theorem dX6_sale_99 : decode cX6_sale 99 = .ok (.getfield 19, 3) := by decide +kernel
theorem dX6_sale_102 : decode cX6_sale 102 = .ok (.aload_n 0, 1) := by decide +kernel
theorem dX6_sale_103 : decode cX6_sale 103 = .ok (.getfield 109, 3) := by decide +kernel
theorem dX6_sale_106 : decode cX6_sale 106 = .ok (.iload 4, 2) := by decide +kernel
theorem dX6_sale_108 : decode cX6_sale 108 = .ok (.iastore, 1) := by decide +kernel
theorem dX6_sale_109 : decode cX6_sale 109 = .ok (.aload_n 0, 1) := by decide +kernel
theorem dX6_sale_110 : decode cX6_sale 110 = .ok (.getfield 22, 3) := by decide +kernel
theorem dX6_sale_113 : decode cX6_sale 113 = .ok (.aload_n 0, 1) := by decide +kernel
theorem dX6_sale_114 : decode cX6_sale 114 = .ok (.getfield 109, 3) := by decide +kernel
theorem dX6_sale_117 : decode cX6_sale 117 = .ok (.iload 5, 2) := by decide +kernel
theorem dX6_sale_119 : decode cX6_sale 119 = .ok (.iastore, 1) := by decide +kernel
theorem dX6_sale_120 : decode cX6_sale 120 = .ok (.aload_n 0, 1) := by decide +kernel
theorem dX6_sale_121 : decode cX6_sale 121 = .ok (.getfield 25, 3) := by decide +kernel
theorem dX6_sale_124 : decode cX6_sale 124 = .ok (.aload_n 0, 1) := by decide +kernel
theorem dX6_sale_125 : decode cX6_sale 125 = .ok (.getfield 109, 3) := by decide +kernel
theorem dX6_sale_128 : decode cX6_sale 128 = .ok (.aload_n 0, 1) := by decide +kernel
theorem dX6_sale_129 : decode cX6_sale 129 = .ok (.getfield 96, 3) := by decide +kernel
theorem dX6_sale_132 : decode cX6_sale 132 = .ok (.iastore, 1) := by decide +kernel
theorem dX6_sale_133 : decode cX6_sale 133 = .ok (.aload_n 0, 1) := by decide +kernel
theorem dX6_sale_134 : decode cX6_sale 134 = .ok (.getfield 28, 3) := by decide +kernel
theorem dX6_sale_137 : decode cX6_sale 137 = .ok (.aload_n 0, 1) := by decide +kernel
theorem dX6_sale_138 : decode cX6_sale 138 = .ok (.getfield 109, 3) := by decide +kernel
theorem dX6_sale_141 : decode cX6_sale 141 = .ok (.iconst (-1), 1) := by decide +kernel
theorem dX6_sale_142 : decode cX6_sale 142 = .ok (.iastore, 1) := by decide +kernel
theorem dX6_sale_143 : decode cX6_sale 143 = .ok (.aload_n 0, 1) := by decide +kernel
theorem dX6_sale_144 : decode cX6_sale 144 = .ok (.dup, 1) := by decide +kernel
theorem dX6_sale_145 : decode cX6_sale 145 = .ok (.getfield 109, 3) := by decide +kernel
theorem dX6_sale_148 : decode cX6_sale 148 = .ok (.iconst 1, 1) := by decide +kernel
theorem dX6_sale_149 : decode cX6_sale 149 = .ok (.iadd, 1) := by decide +kernel
theorem dX6_sale_150 : decode cX6_sale 150 = .ok (.putfield 109, 3) := by decide +kernel
theorem dX6_sale_153 : decode cX6_sale 153 = .ok (.aload_n 0, 1) := by decide +kernel
theorem dX6_sale_154 : decode cX6_sale 154 = .ok (.getfield 109, 3) := by decide +kernel
theorem dX6_sale_157 : decode cX6_sale 157 = .ok (.iconst 1, 1) := by decide +kernel
theorem dX6_sale_158 : decode cX6_sale 158 = .ok (.isub, 1) := by decide +kernel
theorem dX6_sale_159 : decode cX6_sale 159 = .ok (.ireturn, 1) := by decide +kernel
set_option maxRecDepth 20000 in
theorem ggX6_strike_X6_in : GoodIn wsX6_strike wsX6_in := goodIn_r _ [7] (by decide +kernel) (by decide +kernel)
set_option maxRecDepth 20000 in
theorem gX6_strike_X6_in : GoodIn wsX6_strike (va_wsS RX6 92 yX6_in wsX6_in) := goodIn_app (goodIn_of _ (by decide +kernel)) ggX6_strike_X6_in
theorem dX6_strike_0 : decode cX6_strike 0 = .ok (.iload_n 1, 1) := by decide +kernel
theorem dX6_strike_1 : decode cX6_strike 1 = .ok (.iconst 0, 1) := by decide +kernel
theorem dX6_strike_2 : decode cX6_strike 2 = .ok (.aload_n 0, 1) := by decide +kernel
theorem dX6_strike_3 : decode cX6_strike 3 = .ok (.getfield 109, 3) := by decide +kernel
theorem dX6_strike_6 : decode cX6_strike 6 = .ok (.iconst 1, 1) := by decide +kernel
theorem dX6_strike_7 : decode cX6_strike 7 = .ok (.isub, 1) := by decide +kernel
theorem dX6_strike_8 : decode cX6_strike 8 = .ok (.invokestatic 92, 3) := by decide +kernel
theorem dX6_strike_11 : decode cX6_strike 11 = .ok (.ifCond .ne 6, 3) := by decide +kernel
theorem dX6_strike_14 : decode cX6_strike 14 = .ok (.bipush (-2), 2) := by decide +kernel
theorem dX6_strike_16 : decode cX6_strike 16 = .ok (.ireturn, 1) := by decide +kernel
theorem dX6_strike_17 : decode cX6_strike 17 = .ok (.aload_n 0, 1) := by decide +kernel
theorem dX6_strike_18 : decode cX6_strike 18 = .ok (.getfield 28, 3) := by decide +kernel
theorem dX6_strike_21 : decode cX6_strike 21 = .ok (.iload_n 1, 1) := by decide +kernel
theorem dX6_strike_22 : decode cX6_strike 22 = .ok (.iaload, 1) := by decide +kernel
theorem dX6_strike_23 : decode cX6_strike 23 = .ok (.iconst (-1), 1) := by decide +kernel
theorem dX6_strike_24 : decode cX6_strike 24 = .ok (.if_icmp .eq 6, 3) := by decide +kernel
theorem dX6_strike_27 : decode cX6_strike 27 = .ok (.bipush (-3), 2) := by decide +kernel
theorem dX6_strike_29 : decode cX6_strike 29 = .ok (.ireturn, 1) := by decide +kernel
theorem dX6_strike_30 : decode cX6_strike 30 = .ok (.aload_n 0, 1) := by decide +kernel
theorem dX6_strike_31 : decode cX6_strike 31 = .ok (.getfield 28, 3) := by decide +kernel
theorem dX6_strike_34 : decode cX6_strike 34 = .ok (.iload_n 1, 1) := by decide +kernel
theorem dX6_strike_35 : decode cX6_strike 35 = .ok (.aload_n 0, 1) := by decide +kernel
theorem dX6_strike_36 : decode cX6_strike 36 = .ok (.getfield 96, 3) := by decide +kernel
theorem dX6_strike_39 : decode cX6_strike 39 = .ok (.iastore, 1) := by decide +kernel
theorem dX6_strike_40 : decode cX6_strike 40 = .ok (.iconst 1, 1) := by decide +kernel
theorem dX6_strike_41 : decode cX6_strike 41 = .ok (.ireturn, 1) := by decide +kernel
set_option maxRecDepth 20000 in
theorem ggX6_sold_X6_in : GoodIn wsX6_sold wsX6_in := goodIn_r _ [12] (by decide +kernel) (by decide +kernel)
set_option maxRecDepth 20000 in
theorem gX6_sold_X6_in : GoodIn wsX6_sold (va_wsS RX6 92 yX6_in wsX6_in) := goodIn_app (goodIn_of _ (by decide +kernel)) ggX6_sold_X6_in
theorem dX6_sold_0 : decode cX6_sold 0 = .ok (.iload_n 1, 1) := by decide +kernel
theorem dX6_sold_1 : decode cX6_sold 1 = .ok (.iconst 0, 1) := by decide +kernel
theorem dX6_sold_2 : decode cX6_sold 2 = .ok (.aload_n 0, 1) := by decide +kernel
theorem dX6_sold_3 : decode cX6_sold 3 = .ok (.getfield 109, 3) := by decide +kernel
theorem dX6_sold_6 : decode cX6_sold 6 = .ok (.iconst 1, 1) := by decide +kernel
theorem dX6_sold_7 : decode cX6_sold 7 = .ok (.isub, 1) := by decide +kernel
theorem dX6_sold_8 : decode cX6_sold 8 = .ok (.invokestatic 92, 3) := by decide +kernel
theorem dX6_sold_11 : decode cX6_sold 11 = .ok (.ifCond .ne 6, 3) := by decide +kernel
theorem dX6_sold_14 : decode cX6_sold 14 = .ok (.bipush (-2), 2) := by decide +kernel
theorem dX6_sold_16 : decode cX6_sold 16 = .ok (.ireturn, 1) := by decide +kernel
theorem dX6_sold_17 : decode cX6_sold 17 = .ok (.iload_n 2, 1) := by decide +kernel
theorem dX6_sold_18 : decode cX6_sold 18 = .ok (.tableswitch 91 0 6 #[42, 49, 56, 63, 70, 77, 84], 42) := by decide +kernel
theorem dX6_sold_60 : decode cX6_sold 60 = .ok (.aload_n 0, 1) := by decide +kernel
theorem dX6_sold_61 : decode cX6_sold 61 = .ok (.getfield 7, 3) := by decide +kernel
theorem dX6_sold_64 : decode cX6_sold 64 = .ok (.iload_n 1, 1) := by decide +kernel
theorem dX6_sold_65 : decode cX6_sold 65 = .ok (.iaload, 1) := by decide +kernel
theorem dX6_sold_66 : decode cX6_sold 66 = .ok (.ireturn, 1) := by decide +kernel
theorem dX6_sold_67 : decode cX6_sold 67 = .ok (.aload_n 0, 1) := by decide +kernel
theorem dX6_sold_68 : decode cX6_sold 68 = .ok (.getfield 13, 3) := by decide +kernel
theorem dX6_sold_71 : decode cX6_sold 71 = .ok (.iload_n 1, 1) := by decide +kernel
theorem dX6_sold_72 : decode cX6_sold 72 = .ok (.iaload, 1) := by decide +kernel
theorem dX6_sold_73 : decode cX6_sold 73 = .ok (.ireturn, 1) := by decide +kernel
theorem dX6_sold_74 : decode cX6_sold 74 = .ok (.aload_n 0, 1) := by decide +kernel
theorem dX6_sold_75 : decode cX6_sold 75 = .ok (.getfield 16, 3) := by decide +kernel
theorem dX6_sold_78 : decode cX6_sold 78 = .ok (.iload_n 1, 1) := by decide +kernel
theorem dX6_sold_79 : decode cX6_sold 79 = .ok (.iaload, 1) := by decide +kernel
theorem dX6_sold_80 : decode cX6_sold 80 = .ok (.ireturn, 1) := by decide +kernel
theorem dX6_sold_81 : decode cX6_sold 81 = .ok (.aload_n 0, 1) := by decide +kernel
theorem dX6_sold_82 : decode cX6_sold 82 = .ok (.getfield 19, 3) := by decide +kernel
theorem dX6_sold_85 : decode cX6_sold 85 = .ok (.iload_n 1, 1) := by decide +kernel
theorem dX6_sold_86 : decode cX6_sold 86 = .ok (.iaload, 1) := by decide +kernel
theorem dX6_sold_87 : decode cX6_sold 87 = .ok (.ireturn, 1) := by decide +kernel
theorem dX6_sold_88 : decode cX6_sold 88 = .ok (.aload_n 0, 1) := by decide +kernel
theorem dX6_sold_89 : decode cX6_sold 89 = .ok (.getfield 22, 3) := by decide +kernel
theorem dX6_sold_92 : decode cX6_sold 92 = .ok (.iload_n 1, 1) := by decide +kernel
theorem dX6_sold_93 : decode cX6_sold 93 = .ok (.iaload, 1) := by decide +kernel
theorem dX6_sold_94 : decode cX6_sold 94 = .ok (.ireturn, 1) := by decide +kernel
theorem dX6_sold_95 : decode cX6_sold 95 = .ok (.aload_n 0, 1) := by decide +kernel
theorem dX6_sold_96 : decode cX6_sold 96 = .ok (.getfield 25, 3) := by decide +kernel
theorem dX6_sold_99 : decode cX6_sold 99 = .ok (.iload_n 1, 1) := by decide +kernel
theorem dX6_sold_100 : decode cX6_sold 100 = .ok (.iaload, 1) := by decide +kernel
theorem dX6_sold_101 : decode cX6_sold 101 = .ok (.ireturn, 1) := by decide +kernel
theorem dX6_sold_102 : decode cX6_sold 102 = .ok (.aload_n 0, 1) := by decide +kernel
theorem dX6_sold_103 : decode cX6_sold 103 = .ok (.getfield 28, 3) := by decide +kernel
theorem dX6_sold_106 : decode cX6_sold 106 = .ok (.iload_n 1, 1) := by decide +kernel
theorem dX6_sold_107 : decode cX6_sold 107 = .ok (.iaload, 1) := by decide +kernel
theorem dX6_sold_108 : decode cX6_sold 108 = .ok (.ireturn, 1) := by decide +kernel
theorem dX6_sold_109 : decode cX6_sold 109 = .ok (.bipush (-2), 2) := by decide +kernel
theorem dX6_sold_111 : decode cX6_sold 111 = .ok (.ireturn, 1) := by decide +kernel
theorem dX6_isKnown_0 : decode cX6_isKnown 0 = .ok (.iload_n 1, 1) := by decide +kernel
theorem dX6_isKnown_1 : decode cX6_isKnown 1 = .ok (.aload_n 0, 1) := by decide +kernel
theorem dX6_isKnown_2 : decode cX6_isKnown 2 = .ok (.getfield 85, 3) := by decide +kernel
theorem dX6_isKnown_5 : decode cX6_isKnown 5 = .ok (.if_icmp .eq 37, 3) := by decide +kernel
theorem dX6_isKnown_8 : decode cX6_isKnown 8 = .ok (.aload_n 0, 1) := by decide +kernel
theorem dX6_isKnown_9 : decode cX6_isKnown 9 = .ok (.getfield 25, 3) := by decide +kernel
theorem dX6_isKnown_12 : decode cX6_isKnown 12 = .ok (.iload_n 1, 1) := by decide +kernel
theorem dX6_isKnown_13 : decode cX6_isKnown 13 = .ok (.iaload, 1) := by decide +kernel
theorem dX6_isKnown_14 : decode cX6_isKnown 14 = .ok (.iload_n 2, 1) := by decide +kernel
theorem dX6_isKnown_15 : decode cX6_isKnown 15 = .ok (.if_icmp .gt 27, 3) := by decide +kernel
theorem dX6_isKnown_18 : decode cX6_isKnown 18 = .ok (.aload_n 0, 1) := by decide +kernel
theorem dX6_isKnown_19 : decode cX6_isKnown 19 = .ok (.getfield 28, 3) := by decide +kernel
theorem dX6_isKnown_22 : decode cX6_isKnown 22 = .ok (.iload_n 1, 1) := by decide +kernel
theorem dX6_isKnown_23 : decode cX6_isKnown 23 = .ok (.iaload, 1) := by decide +kernel
theorem dX6_isKnown_24 : decode cX6_isKnown 24 = .ok (.iconst (-1), 1) := by decide +kernel
theorem dX6_isKnown_25 : decode cX6_isKnown 25 = .ok (.if_icmp .eq 13, 3) := by decide +kernel
theorem dX6_isKnown_28 : decode cX6_isKnown 28 = .ok (.aload_n 0, 1) := by decide +kernel
theorem dX6_isKnown_29 : decode cX6_isKnown 29 = .ok (.getfield 28, 3) := by decide +kernel
theorem dX6_isKnown_32 : decode cX6_isKnown 32 = .ok (.iload_n 1, 1) := by decide +kernel
theorem dX6_isKnown_33 : decode cX6_isKnown 33 = .ok (.iaload, 1) := by decide +kernel
theorem dX6_isKnown_34 : decode cX6_isKnown 34 = .ok (.iload_n 2, 1) := by decide +kernel
theorem dX6_isKnown_35 : decode cX6_isKnown 35 = .ok (.if_icmp .le 7, 3) := by decide +kernel
theorem dX6_isKnown_38 : decode cX6_isKnown 38 = .ok (.iconst 1, 1) := by decide +kernel
theorem dX6_isKnown_39 : decode cX6_isKnown 39 = .ok (.goto 4, 3) := by decide +kernel
theorem dX6_isKnown_42 : decode cX6_isKnown 42 = .ok (.iconst 0, 1) := by decide +kernel
theorem dX6_isKnown_43 : decode cX6_isKnown 43 = .ok (.ireturn, 1) := by decide +kernel
set_option maxRecDepth 20000 in
theorem ggX6_weeklyAt_X6_isKnown : GoodIn wsX6_weeklyAt wsX6_isKnown := goodIn_r _ [10, 11, 12, 13, 14, 15, 16, 17, 18, 19, 20, 21, 22, 23, 24, 25, 26, 27, 28, 29, 30, 31, 32, 33, 34, 35, 36, 37, 38, 39, 40, 41, 42, 43, 44, 45, 46, 47] (by decide +kernel) (by decide +kernel)
set_option maxRecDepth 20000 in
theorem gX6_weeklyAt_X6_isKnown : GoodIn wsX6_weeklyAt (wsV RX6 112 RX6 yX6_isKnown wsX6_isKnown) := goodIn_app (goodIn_of _ (by decide +kernel)) ggX6_weeklyAt_X6_isKnown
theorem dX6_weeklyAt_0 : decode cX6_weeklyAt 0 = .ok (.iload_n 2, 1) := by decide +kernel
theorem dX6_weeklyAt_1 : decode cX6_weeklyAt 1 = .ok (.istore 4, 2) := by decide +kernel
theorem dX6_weeklyAt_3 : decode cX6_weeklyAt 3 = .ok (.iload 4, 2) := by decide +kernel
theorem dX6_weeklyAt_5 : decode cX6_weeklyAt 5 = .ok (.ifCond .lt 115, 3) := by decide +kernel
theorem dX6_weeklyAt_8 : decode cX6_weeklyAt 8 = .ok (.lconst 0, 1) := by decide +kernel
theorem dX6_weeklyAt_9 : decode cX6_weeklyAt 9 = .ok (.lstore 5, 2) := by decide +kernel
theorem dX6_weeklyAt_11 : decode cX6_weeklyAt 11 = .ok (.lconst 0, 1) := by decide +kernel
theorem dX6_weeklyAt_12 : decode cX6_weeklyAt 12 = .ok (.lstore 7, 2) := by decide +kernel
theorem dX6_weeklyAt_14 : decode cX6_weeklyAt 14 = .ok (.iconst 0, 1) := by decide +kernel
theorem dX6_weeklyAt_15 : decode cX6_weeklyAt 15 = .ok (.istore 9, 2) := by decide +kernel
theorem dX6_weeklyAt_17 : decode cX6_weeklyAt 17 = .ok (.iload 9, 2) := by decide +kernel
theorem dX6_weeklyAt_19 : decode cX6_weeklyAt 19 = .ok (.aload_n 0, 1) := by decide +kernel
theorem dX6_weeklyAt_20 : decode cX6_weeklyAt 20 = .ok (.getfield 109, 3) := by decide +kernel
theorem dX6_weeklyAt_23 : decode cX6_weeklyAt 23 = .ok (.if_icmp .ge 77, 3) := by decide +kernel
theorem dX6_weeklyAt_26 : decode cX6_weeklyAt 26 = .ok (.aload_n 0, 1) := by decide +kernel
theorem dX6_weeklyAt_27 : decode cX6_weeklyAt 27 = .ok (.getfield 13, 3) := by decide +kernel
theorem dX6_weeklyAt_30 : decode cX6_weeklyAt 30 = .ok (.iload 9, 2) := by decide +kernel
theorem dX6_weeklyAt_32 : decode cX6_weeklyAt 32 = .ok (.iaload, 1) := by decide +kernel
theorem dX6_weeklyAt_33 : decode cX6_weeklyAt 33 = .ok (.iload_n 1, 1) := by decide +kernel
theorem dX6_weeklyAt_34 : decode cX6_weeklyAt 34 = .ok (.if_icmp .ne 60, 3) := by decide +kernel
theorem dX6_weeklyAt_37 : decode cX6_weeklyAt 37 = .ok (.aload_n 0, 1) := by decide +kernel
theorem dX6_weeklyAt_38 : decode cX6_weeklyAt 38 = .ok (.getfield 16, 3) := by decide +kernel
theorem dX6_weeklyAt_41 : decode cX6_weeklyAt 41 = .ok (.iload 9, 2) := by decide +kernel
theorem dX6_weeklyAt_43 : decode cX6_weeklyAt 43 = .ok (.iaload, 1) := by decide +kernel
theorem dX6_weeklyAt_44 : decode cX6_weeklyAt 44 = .ok (.iload 4, 2) := by decide +kernel
theorem dX6_weeklyAt_46 : decode cX6_weeklyAt 46 = .ok (.if_icmp .ne 48, 3) := by decide +kernel
theorem dX6_weeklyAt_49 : decode cX6_weeklyAt 49 = .ok (.aload_n 0, 1) := by decide +kernel
theorem dX6_weeklyAt_50 : decode cX6_weeklyAt 50 = .ok (.iload 9, 2) := by decide +kernel
theorem dX6_weeklyAt_52 : decode cX6_weeklyAt 52 = .ok (.iload_n 3, 1) := by decide +kernel
theorem dX6_weeklyAt_53 : decode cX6_weeklyAt 53 = .ok (.invokevirtual 112, 3) := by decide +kernel
theorem dX6_weeklyAt_56 : decode cX6_weeklyAt 56 = .ok (.ifCond .eq 38, 3) := by decide +kernel
theorem dX6_weeklyAt_59 : decode cX6_weeklyAt 59 = .ok (.lload 5, 2) := by decide +kernel
theorem dX6_weeklyAt_61 : decode cX6_weeklyAt 61 = .ok (.aload_n 0, 1) := by decide +kernel
theorem dX6_weeklyAt_62 : decode cX6_weeklyAt 62 = .ok (.getfield 22, 3) := by decide +kernel
theorem dX6_weeklyAt_65 : decode cX6_weeklyAt 65 = .ok (.iload 9, 2) := by decide +kernel
theorem dX6_weeklyAt_67 : decode cX6_weeklyAt 67 = .ok (.iaload, 1) := by decide +kernel
theorem dX6_weeklyAt_68 : decode cX6_weeklyAt 68 = .ok (.i2l, 1) := by decide +kernel
theorem dX6_weeklyAt_69 : decode cX6_weeklyAt 69 = .ok (.aload_n 0, 1) := by decide +kernel
theorem dX6_weeklyAt_70 : decode cX6_weeklyAt 70 = .ok (.getfield 19, 3) := by decide +kernel
theorem dX6_weeklyAt_73 : decode cX6_weeklyAt 73 = .ok (.iload 9, 2) := by decide +kernel
theorem dX6_weeklyAt_75 : decode cX6_weeklyAt 75 = .ok (.iaload, 1) := by decide +kernel
theorem dX6_weeklyAt_76 : decode cX6_weeklyAt 76 = .ok (.i2l, 1) := by decide +kernel
theorem dX6_weeklyAt_77 : decode cX6_weeklyAt 77 = .ok (.lmul, 1) := by decide +kernel
theorem dX6_weeklyAt_78 : decode cX6_weeklyAt 78 = .ok (.ladd, 1) := by decide +kernel
theorem dX6_weeklyAt_79 : decode cX6_weeklyAt 79 = .ok (.lstore 5, 2) := by decide +kernel
theorem dX6_weeklyAt_81 : decode cX6_weeklyAt 81 = .ok (.lload 7, 2) := by decide +kernel
theorem dX6_weeklyAt_83 : decode cX6_weeklyAt 83 = .ok (.aload_n 0, 1) := by decide +kernel
theorem dX6_weeklyAt_84 : decode cX6_weeklyAt 84 = .ok (.getfield 19, 3) := by decide +kernel
theorem dX6_weeklyAt_87 : decode cX6_weeklyAt 87 = .ok (.iload 9, 2) := by decide +kernel
theorem dX6_weeklyAt_89 : decode cX6_weeklyAt 89 = .ok (.iaload, 1) := by decide +kernel
theorem dX6_weeklyAt_90 : decode cX6_weeklyAt 90 = .ok (.i2l, 1) := by decide +kernel
theorem dX6_weeklyAt_91 : decode cX6_weeklyAt 91 = .ok (.ladd, 1) := by decide +kernel
theorem dX6_weeklyAt_92 : decode cX6_weeklyAt 92 = .ok (.lstore 7, 2) := by decide +kernel
theorem dX6_weeklyAt_94 : decode cX6_weeklyAt 94 = .ok (.iinc 9 1, 3) := by decide +kernel
theorem dX6_weeklyAt_97 : decode cX6_weeklyAt 97 = .ok (.goto (-80), 3) := by decide +kernel
theorem dX6_weeklyAt_100 : decode cX6_weeklyAt 100 = .ok (.lload 7, 2) := by decide +kernel
theorem dX6_weeklyAt_102 : decode cX6_weeklyAt 102 = .ok (.lconst 0, 1) := by decide +kernel
theorem dX6_weeklyAt_103 : decode cX6_weeklyAt 103 = .ok (.lcmp, 1) := by decide +kernel
theorem dX6_weeklyAt_104 : decode cX6_weeklyAt 104 = .ok (.ifCond .le 10, 3) := by decide +kernel
theorem dX6_weeklyAt_107 : decode cX6_weeklyAt 107 = .ok (.lload 5, 2) := by decide +kernel
theorem dX6_weeklyAt_109 : decode cX6_weeklyAt 109 = .ok (.lload 7, 2) := by decide +kernel
theorem dX6_weeklyAt_111 : decode cX6_weeklyAt 111 = .ok (.ldiv, 1) := by decide +kernel
theorem dX6_weeklyAt_112 : decode cX6_weeklyAt 112 = .ok (.l2i, 1) := by decide +kernel
theorem dX6_weeklyAt_113 : decode cX6_weeklyAt 113 = .ok (.ireturn, 1) := by decide +kernel
theorem dX6_weeklyAt_114 : decode cX6_weeklyAt 114 = .ok (.iinc 4 (-1), 3) := by decide +kernel
theorem dX6_weeklyAt_117 : decode cX6_weeklyAt 117 = .ok (.goto (-114), 3) := by decide +kernel
theorem dX6_weeklyAt_120 : decode cX6_weeklyAt 120 = .ok (.iconst (-1), 1) := by decide +kernel
theorem dX6_weeklyAt_121 : decode cX6_weeklyAt 121 = .ok (.ireturn, 1) := by decide +kernel
set_option maxRecDepth 20000 in
theorem ggX6_weekly_X6_isGrain : GoodIn wsX6_weekly wsX6_isGrain := goodIn_r _ [4, 5, 6, 3, 7] (by decide +kernel) (by decide +kernel)
set_option maxRecDepth 20000 in
theorem gX6_weekly_X6_isGrain : GoodIn wsX6_weekly (va_wsS RX6 105 yX6_isGrain wsX6_isGrain) := goodIn_app (goodIn_of _ (by decide +kernel)) ggX6_weekly_X6_isGrain
set_option maxRecDepth 20000 in
theorem ggX6_weekly_X6_in : GoodIn wsX6_weekly wsX6_in := goodIn_r _ [7] (by decide +kernel) (by decide +kernel)
set_option maxRecDepth 20000 in
theorem gX6_weekly_X6_in : GoodIn wsX6_weekly (va_wsS RX6 92 yX6_in wsX6_in) := goodIn_app (goodIn_of _ (by decide +kernel)) ggX6_weekly_X6_in
set_option maxRecDepth 20000 in
theorem ggX6_weekly_X6_weeklyAt : GoodIn wsX6_weekly wsX6_weeklyAt := goodIn_r _ [11, 12, 13, 14, 15, 16, 17, 18, 19, 3, 20, 21, 22, 23, 24, 25, 26, 27, 28, 29, 30, 31, 32, 33, 34, 35, 36, 37, 38, 39, 40, 41, 42, 43, 44, 45, 46, 47, 48, 49, 50, 51, 52, 53, 54, 55, 56, 57] (by decide +kernel) (by decide +kernel)
set_option maxRecDepth 20000 in
theorem gX6_weekly_X6_weeklyAt : GoodIn wsX6_weekly (wsV RX6 116 RX6 yX6_weeklyAt wsX6_weeklyAt) := goodIn_app (goodIn_of _ (by decide +kernel)) ggX6_weekly_X6_weeklyAt
theorem dX6_weekly_0 : decode cX6_weekly 0 = .ok (.iload_n 1, 1) := by decide +kernel
theorem dX6_weekly_1 : decode cX6_weekly 1 = .ok (.invokestatic 105, 3) := by decide +kernel
theorem dX6_weekly_4 : decode cX6_weekly 4 = .ok (.ifCond .eq 35, 3) := by decide +kernel
theorem dX6_weekly_7 : decode cX6_weekly 7 = .ok (.iload_n 2, 1) := by decide +kernel
theorem dX6_weekly_8 : decode cX6_weekly 8 = .ok (.iconst 0, 1) := by decide +kernel
theorem dX6_weekly_9 : decode cX6_weekly 9 = .ok (.sipush 200, 3) := by decide +kernel
theorem dX6_weekly_12 : decode cX6_weekly 12 = .ok (.invokestatic 92, 3) := by decide +kernel
theorem dX6_weekly_15 : decode cX6_weekly 15 = .ok (.ifCond .eq 24, 3) := by decide +kernel
theorem dX6_weekly_18 : decode cX6_weekly 18 = .ok (.iload_n 3, 1) := by decide +kernel
theorem dX6_weekly_19 : decode cX6_weekly 19 = .ok (.iconst 0, 1) := by decide +kernel
theorem dX6_weekly_20 : decode cX6_weekly 20 = .ok (.sipush 200, 3) := by decide +kernel
theorem dX6_weekly_23 : decode cX6_weekly 23 = .ok (.invokestatic 92, 3) := by decide +kernel
theorem dX6_weekly_26 : decode cX6_weekly 26 = .ok (.ifCond .eq 13, 3) := by decide +kernel
theorem dX6_weekly_29 : decode cX6_weekly 29 = .ok (.aload_n 0, 1) := by decide +kernel
theorem dX6_weekly_30 : decode cX6_weekly 30 = .ok (.iload_n 1, 1) := by decide +kernel
theorem dX6_weekly_31 : decode cX6_weekly 31 = .ok (.iload_n 2, 1) := by decide +kernel
theorem dX6_weekly_32 : decode cX6_weekly 32 = .ok (.iload_n 3, 1) := by decide +kernel
theorem dX6_weekly_33 : decode cX6_weekly 33 = .ok (.invokevirtual 116, 3) := by decide +kernel
theorem dX6_weekly_36 : decode cX6_weekly 36 = .ok (.goto 5, 3) := by decide +kernel
theorem dX6_weekly_39 : decode cX6_weekly 39 = .ok (.bipush (-2), 2) := by decide +kernel
theorem dX6_weekly_41 : decode cX6_weekly 41 = .ok (.ireturn, 1) := by decide +kernel
set_option maxRecDepth 20000 in
theorem ggX6_averageAt_X6_weeklyAt : GoodIn wsX6_averageAt wsX6_weeklyAt := goodIn_r _ [5, 6, 7, 8, 9, 10, 11, 12, 13, 4, 14, 15, 16, 17, 18, 19, 20, 21, 22, 23, 24, 25, 26, 27, 28, 29, 30, 31, 32, 33, 34, 35, 36, 37, 38, 39, 40, 41, 42, 43, 44, 45, 46, 47, 48, 49, 50, 51] (by decide +kernel) (by decide +kernel)
set_option maxRecDepth 20000 in
theorem gX6_averageAt_X6_weeklyAt : GoodIn wsX6_averageAt (wsV RX6 116 RX6 yX6_weeklyAt wsX6_weeklyAt) := goodIn_app (goodIn_of _ (by decide +kernel)) ggX6_averageAt_X6_weeklyAt
theorem dX6_averageAt_0 : decode cX6_averageAt 0 = .ok (.iconst 0, 1) := by decide +kernel
theorem dX6_averageAt_1 : decode cX6_averageAt 1 = .ok (.istore 4, 2) := by decide +kernel
theorem dX6_averageAt_3 : decode cX6_averageAt 3 = .ok (.iload_n 2, 1) := by decide +kernel
theorem dX6_averageAt_4 : decode cX6_averageAt 4 = .ok (.bipush 6, 2) := by decide +kernel
theorem dX6_averageAt_6 : decode cX6_averageAt 6 = .ok (.isub, 1) := by decide +kernel
theorem dX6_averageAt_7 : decode cX6_averageAt 7 = .ok (.istore 5, 2) := by decide +kernel
theorem dX6_averageAt_9 : decode cX6_averageAt 9 = .ok (.iload 5, 2) := by decide +kernel
theorem dX6_averageAt_11 : decode cX6_averageAt 11 = .ok (.iload_n 2, 1) := by decide +kernel
theorem dX6_averageAt_12 : decode cX6_averageAt 12 = .ok (.if_icmp .ge 43, 3) := by decide +kernel
theorem dX6_averageAt_15 : decode cX6_averageAt 15 = .ok (.iload 5, 2) := by decide +kernel
theorem dX6_averageAt_17 : decode cX6_averageAt 17 = .ok (.ifCond .ge 7, 3) := by decide +kernel
theorem dX6_averageAt_20 : decode cX6_averageAt 20 = .ok (.iconst (-1), 1) := by decide +kernel
theorem dX6_averageAt_21 : decode cX6_averageAt 21 = .ok (.goto 11, 3) := by decide +kernel
theorem dX6_averageAt_24 : decode cX6_averageAt 24 = .ok (.aload_n 0, 1) := by decide +kernel
theorem dX6_averageAt_25 : decode cX6_averageAt 25 = .ok (.iload_n 1, 1) := by decide +kernel
theorem dX6_averageAt_26 : decode cX6_averageAt 26 = .ok (.iload 5, 2) := by decide +kernel
theorem dX6_averageAt_28 : decode cX6_averageAt 28 = .ok (.iload_n 3, 1) := by decide +kernel
theorem dX6_averageAt_29 : decode cX6_averageAt 29 = .ok (.invokevirtual 116, 3) := by decide +kernel
theorem dX6_averageAt_32 : decode cX6_averageAt 32 = .ok (.istore 6, 2) := by decide +kernel
theorem dX6_averageAt_34 : decode cX6_averageAt 34 = .ok (.iload 6, 2) := by decide +kernel
theorem dX6_averageAt_36 : decode cX6_averageAt 36 = .ok (.iconst (-1), 1) := by decide +kernel
theorem dX6_averageAt_37 : decode cX6_averageAt 37 = .ok (.if_icmp .ne 5, 3) := by decide +kernel
theorem dX6_averageAt_40 : decode cX6_averageAt 40 = .ok (.iconst (-1), 1) := by decide +kernel
theorem dX6_averageAt_41 : decode cX6_averageAt 41 = .ok (.ireturn, 1) := by decide +kernel
theorem dX6_averageAt_42 : decode cX6_averageAt 42 = .ok (.iload 4, 2) := by decide +kernel
theorem dX6_averageAt_44 : decode cX6_averageAt 44 = .ok (.iload 6, 2) := by decide +kernel
theorem dX6_averageAt_46 : decode cX6_averageAt 46 = .ok (.iadd, 1) := by decide +kernel
theorem dX6_averageAt_47 : decode cX6_averageAt 47 = .ok (.istore 4, 2) := by decide +kernel
theorem dX6_averageAt_49 : decode cX6_averageAt 49 = .ok (.iinc 5 1, 3) := by decide +kernel
theorem dX6_averageAt_52 : decode cX6_averageAt 52 = .ok (.goto (-43), 3) := by decide +kernel
theorem dX6_averageAt_55 : decode cX6_averageAt 55 = .ok (.iload 4, 2) := by decide +kernel
theorem dX6_averageAt_57 : decode cX6_averageAt 57 = .ok (.bipush 6, 2) := by decide +kernel
theorem dX6_averageAt_59 : decode cX6_averageAt 59 = .ok (.idiv, 1) := by decide +kernel
theorem dX6_averageAt_60 : decode cX6_averageAt 60 = .ok (.ireturn, 1) := by decide +kernel
set_option maxRecDepth 20000 in
theorem ggX6_average_X6_isGrain : GoodIn wsX6_average wsX6_isGrain := goodIn_r _ [4, 5, 6, 3, 7] (by decide +kernel) (by decide +kernel)
set_option maxRecDepth 20000 in
theorem gX6_average_X6_isGrain : GoodIn wsX6_average (va_wsS RX6 105 yX6_isGrain wsX6_isGrain) := goodIn_app (goodIn_of _ (by decide +kernel)) ggX6_average_X6_isGrain
set_option maxRecDepth 20000 in
theorem ggX6_average_X6_in : GoodIn wsX6_average wsX6_in := goodIn_r _ [7] (by decide +kernel) (by decide +kernel)
set_option maxRecDepth 20000 in
theorem gX6_average_X6_in : GoodIn wsX6_average (va_wsS RX6 92 yX6_in wsX6_in) := goodIn_app (goodIn_of _ (by decide +kernel)) ggX6_average_X6_in
set_option maxRecDepth 20000 in
theorem ggX6_average_X6_averageAt : GoodIn wsX6_average wsX6_averageAt := goodIn_r _ [11, 12, 13, 14, 3, 15, 16, 17, 18, 19, 20, 21, 22, 23, 24, 25, 26, 27, 28, 29, 30, 31, 32, 33, 34, 35, 36, 37, 38, 39, 40, 41, 42, 43, 44, 45, 46, 47, 48, 49, 50, 51, 52, 53, 54, 55, 56, 57, 58, 59, 60, 61] (by decide +kernel) (by decide +kernel)
set_option maxRecDepth 20000 in
theorem gX6_average_X6_averageAt : GoodIn wsX6_average (wsV RX6 120 RX6 yX6_averageAt wsX6_averageAt) := goodIn_app (goodIn_of _ (by decide +kernel)) ggX6_average_X6_averageAt
theorem dX6_average_0 : decode cX6_average 0 = .ok (.iload_n 1, 1) := by decide +kernel
theorem dX6_average_1 : decode cX6_average 1 = .ok (.invokestatic 105, 3) := by decide +kernel
theorem dX6_average_4 : decode cX6_average 4 = .ok (.ifCond .eq 24, 3) := by decide +kernel
theorem dX6_average_7 : decode cX6_average 7 = .ok (.iload_n 2, 1) := by decide +kernel
theorem dX6_average_8 : decode cX6_average 8 = .ok (.iconst 0, 1) := by decide +kernel
theorem dX6_average_9 : decode cX6_average 9 = .ok (.sipush 220, 3) := by decide +kernel
theorem dX6_average_12 : decode cX6_average 12 = .ok (.invokestatic 92, 3) := by decide +kernel
theorem dX6_average_15 : decode cX6_average 15 = .ok (.ifCond .eq 13, 3) := by decide +kernel
theorem dX6_average_18 : decode cX6_average 18 = .ok (.aload_n 0, 1) := by decide +kernel
theorem dX6_average_19 : decode cX6_average 19 = .ok (.iload_n 1, 1) := by decide +kernel
theorem dX6_average_20 : decode cX6_average 20 = .ok (.iload_n 2, 1) := by decide +kernel
theorem dX6_average_21 : decode cX6_average 21 = .ok (.iload_n 2, 1) := by decide +kernel
theorem dX6_average_22 : decode cX6_average 22 = .ok (.invokevirtual 120, 3) := by decide +kernel
theorem dX6_average_25 : decode cX6_average 25 = .ok (.goto 5, 3) := by decide +kernel
theorem dX6_average_28 : decode cX6_average 28 = .ok (.bipush (-2), 2) := by decide +kernel
theorem dX6_average_30 : decode cX6_average 30 = .ok (.ireturn, 1) := by decide +kernel
set_option maxRecDepth 20000 in
theorem ggX6_towns_X6_in : GoodIn wsX6_towns wsX6_in := goodIn_r _ [7] (by decide +kernel) (by decide +kernel)
set_option maxRecDepth 20000 in
theorem gX6_towns_X6_in : GoodIn wsX6_towns (va_wsS RX6 92 yX6_in wsX6_in) := goodIn_app (goodIn_of _ (by decide +kernel)) ggX6_towns_X6_in
set_option maxRecDepth 20000 in
theorem ggX6_towns_X6_isKnown : GoodIn wsX6_towns wsX6_isKnown := goodIn_r _ [11, 12, 13, 14, 15, 16, 17, 18, 19, 20, 21, 22, 23, 24, 25, 26, 27, 28, 29, 30, 31, 32, 33, 34, 35, 36, 37, 38, 39, 40, 41, 42, 43, 44, 45, 46, 47, 48] (by decide +kernel) (by decide +kernel)
set_option maxRecDepth 20000 in
theorem gX6_towns_X6_isKnown : GoodIn wsX6_towns (wsV RX6 112 RX6 yX6_isKnown wsX6_isKnown) := goodIn_app (goodIn_of _ (by decide +kernel)) ggX6_towns_X6_isKnown
theorem dX6_towns_0 : decode cX6_towns 0 = .ok (.iload_n 1, 1) := by decide +kernel
theorem dX6_towns_1 : decode cX6_towns 1 = .ok (.iconst 0, 1) := by decide +kernel
theorem dX6_towns_2 : decode cX6_towns 2 = .ok (.sipush 200, 3) := by decide +kernel
theorem dX6_towns_5 : decode cX6_towns 5 = .ok (.invokestatic 92, 3) := by decide +kernel
theorem dX6_towns_8 : decode cX6_towns 8 = .ok (.ifCond .eq 14, 3) := by decide +kernel
theorem dX6_towns_11 : decode cX6_towns 11 = .ok (.iload_n 2, 1) := by decide +kernel
theorem dX6_towns_12 : decode cX6_towns 12 = .ok (.iconst 0, 1) := by decide +kernel
theorem dX6_towns_13 : decode cX6_towns 13 = .ok (.sipush 200, 3) := by decide +kernel
theorem dX6_towns_16 : decode cX6_towns 16 = .ok (.invokestatic 92, 3) := by decide +kernel
theorem dX6_towns_19 : decode cX6_towns 19 = .ok (.ifCond .ne 6, 3) := by decide +kernel
theorem dX6_towns_22 : decode cX6_towns 22 = .ok (.bipush (-2), 2) := by decide +kernel
theorem dX6_towns_24 : decode cX6_towns 24 = .ok (.ireturn, 1) := by decide +kernel
theorem dX6_towns_25 : decode cX6_towns 25 = .ok (.iconst 0, 1) := by decide +kernel
theorem dX6_towns_26 : decode cX6_towns 26 = .ok (.istore_n 3, 1) := by decide +kernel
theorem dX6_towns_27 : decode cX6_towns 27 = .ok (.iconst 0, 1) := by decide +kernel
theorem dX6_towns_28 : decode cX6_towns 28 = .ok (.istore 4, 2) := by decide +kernel
theorem dX6_towns_30 : decode cX6_towns 30 = .ok (.iload 4, 2) := by decide +kernel
theorem dX6_towns_32 : decode cX6_towns 32 = .ok (.aload_n 0, 1) := by decide +kernel
theorem dX6_towns_33 : decode cX6_towns 33 = .ok (.getfield 109, 3) := by decide +kernel
theorem dX6_towns_36 : decode cX6_towns 36 = .ok (.if_icmp .ge 46, 3) := by decide +kernel
theorem dX6_towns_39 : decode cX6_towns 39 = .ok (.iload_n 3, 1) := by decide +kernel
theorem dX6_towns_40 : decode cX6_towns 40 = .ok (.aload_n 0, 1) := by decide +kernel
theorem dX6_towns_41 : decode cX6_towns 41 = .ok (.getfield 16, 3) := by decide +kernel
theorem dX6_towns_44 : decode cX6_towns 44 = .ok (.iload 4, 2) := by decide +kernel
theorem dX6_towns_46 : decode cX6_towns 46 = .ok (.iaload, 1) := by decide +kernel
theorem dX6_towns_47 : decode cX6_towns 47 = .ok (.iload_n 1, 1) := by decide +kernel
theorem dX6_towns_48 : decode cX6_towns 48 = .ok (.if_icmp .ne 25, 3) := by decide +kernel
theorem dX6_towns_51 : decode cX6_towns 51 = .ok (.aload_n 0, 1) := by decide +kernel
theorem dX6_towns_52 : decode cX6_towns 52 = .ok (.iload 4, 2) := by decide +kernel
theorem dX6_towns_54 : decode cX6_towns 54 = .ok (.iload_n 2, 1) := by decide +kernel
theorem dX6_towns_55 : decode cX6_towns 55 = .ok (.invokevirtual 112, 3) := by decide +kernel
theorem dX6_towns_58 : decode cX6_towns 58 = .ok (.ifCond .eq 15, 3) := by decide +kernel
theorem dX6_towns_61 : decode cX6_towns 61 = .ok (.iconst 1, 1) := by decide +kernel
theorem dX6_towns_62 : decode cX6_towns 62 = .ok (.aload_n 0, 1) := by decide +kernel
theorem dX6_towns_63 : decode cX6_towns 63 = .ok (.getfield 7, 3) := by decide +kernel
theorem dX6_towns_66 : decode cX6_towns 66 = .ok (.iload 4, 2) := by decide +kernel
theorem dX6_towns_68 : decode cX6_towns 68 = .ok (.iaload, 1) := by decide +kernel
theorem dX6_towns_69 : decode cX6_towns 69 = .ok (.ishl, 1) := by decide +kernel
theorem dX6_towns_70 : decode cX6_towns 70 = .ok (.goto 4, 3) := by decide +kernel
theorem dX6_towns_73 : decode cX6_towns 73 = .ok (.iconst 0, 1) := by decide +kernel
theorem dX6_towns_74 : decode cX6_towns 74 = .ok (.ior, 1) := by decide +kernel
theorem dX6_towns_75 : decode cX6_towns 75 = .ok (.istore_n 3, 1) := by decide +kernel
theorem dX6_towns_76 : decode cX6_towns 76 = .ok (.iinc 4 1, 3) := by decide +kernel
theorem dX6_towns_79 : decode cX6_towns 79 = .ok (.goto (-49), 3) := by decide +kernel
theorem dX6_towns_82 : decode cX6_towns 82 = .ok (.iconst 0, 1) := by decide +kernel
theorem dX6_towns_83 : decode cX6_towns 83 = .ok (.istore 4, 2) := by decide +kernel
theorem dX6_towns_85 : decode cX6_towns 85 = .ok (.iconst 0, 1) := by decide +kernel
theorem dX6_towns_86 : decode cX6_towns 86 = .ok (.istore 5, 2) := by decide +kernel
theorem dX6_towns_88 : decode cX6_towns 88 = .ok (.iload 5, 2) := by decide +kernel
theorem dX6_towns_90 : decode cX6_towns 90 = .ok (.bipush 10, 2) := by decide +kernel
theorem dX6_towns_92 : decode cX6_towns 92 = .ok (.if_icmp .ge 20, 3) := by decide +kernel
theorem dX6_towns_95 : decode cX6_towns 95 = .ok (.iload 4, 2) := by decide +kernel
theorem dX6_towns_97 : decode cX6_towns 97 = .ok (.iload_n 3, 1) := by decide +kernel
theorem dX6_towns_98 : decode cX6_towns 98 = .ok (.iload 5, 2) := by decide +kernel
theorem dX6_towns_100 : decode cX6_towns 100 = .ok (.ishr, 1) := by decide +kernel
theorem dX6_towns_101 : decode cX6_towns 101 = .ok (.iconst 1, 1) := by decide +kernel
theorem dX6_towns_102 : decode cX6_towns 102 = .ok (.iand, 1) := by decide +kernel
theorem dX6_towns_103 : decode cX6_towns 103 = .ok (.iadd, 1) := by decide +kernel
theorem dX6_towns_104 : decode cX6_towns 104 = .ok (.istore 4, 2) := by decide +kernel
theorem dX6_towns_106 : decode cX6_towns 106 = .ok (.iinc 5 1, 3) := by decide +kernel
theorem dX6_towns_109 : decode cX6_towns 109 = .ok (.goto (-21), 3) := by decide +kernel
theorem dX6_towns_112 : decode cX6_towns 112 = .ok (.iload 4, 2) := by decide +kernel
theorem dX6_towns_114 : decode cX6_towns 114 = .ok (.ireturn, 1) := by decide +kernel
set_option maxRecDepth 20000 in
theorem ggX6_scale_X6_isGrain : GoodIn wsX6_scale wsX6_isGrain := goodIn_r _ [10, 11, 12, 9, 13] (by decide +kernel) (by decide +kernel)
set_option maxRecDepth 20000 in
theorem gX6_scale_X6_isGrain : GoodIn wsX6_scale (va_wsS RX6 105 yX6_isGrain wsX6_isGrain) := goodIn_app (goodIn_of _ (by decide +kernel)) ggX6_scale_X6_isGrain
set_option maxRecDepth 20000 in
theorem ggX6_scale_X6_in : GoodIn wsX6_scale wsX6_in := goodIn_r _ [13] (by decide +kernel) (by decide +kernel)
set_option maxRecDepth 20000 in
theorem gX6_scale_X6_in : GoodIn wsX6_scale (va_wsS RX6 92 yX6_in wsX6_in) := goodIn_app (goodIn_of _ (by decide +kernel)) ggX6_scale_X6_in
theorem dX6_scale_0 : decode cX6_scale 0 = .ok (.iload_n 1, 1) := by decide +kernel
theorem dX6_scale_1 : decode cX6_scale 1 = .ok (.invokestatic 105, 3) := by decide +kernel
theorem dX6_scale_4 : decode cX6_scale 4 = .ok (.ifCond .eq 17, 3) := by decide +kernel
theorem dX6_scale_7 : decode cX6_scale 7 = .ok (.iload_n 2, 1) := by decide +kernel
theorem dX6_scale_8 : decode cX6_scale 8 = .ok (.aload_n 0, 1) := by decide +kernel
theorem dX6_scale_9 : decode cX6_scale 9 = .ok (.getfield 96, 3) := by decide +kernel
theorem dX6_scale_12 : decode cX6_scale 12 = .ok (.sipush 200, 3) := by decide +kernel
theorem dX6_scale_15 : decode cX6_scale 15 = .ok (.invokestatic 92, 3) := by decide +kernel
theorem dX6_scale_18 : decode cX6_scale 18 = .ok (.ifCond .ne 6, 3) := by decide +kernel
theorem dX6_scale_21 : decode cX6_scale 21 = .ok (.bipush (-2), 2) := by decide +kernel
theorem dX6_scale_23 : decode cX6_scale 23 = .ok (.ireturn, 1) := by decide +kernel
theorem dX6_scale_24 : decode cX6_scale 24 = .ok (.aload_n 0, 1) := by decide +kernel
theorem dX6_scale_25 : decode cX6_scale 25 = .ok (.getfield 123, 3) := by decide +kernel
theorem dX6_scale_28 : decode cX6_scale 28 = .ok (.bipush 8, 2) := by decide +kernel
theorem dX6_scale_30 : decode cX6_scale 30 = .ok (.if_icmp .ne 6, 3) := by decide +kernel
theorem dX6_scale_33 : decode cX6_scale 33 = .ok (.bipush (-4), 2) := by decide +kernel
theorem dX6_scale_35 : decode cX6_scale 35 = .ok (.ireturn, 1) := by decide +kernel
theorem dX6_scale_36 : decode cX6_scale 36 = .ok (.aload_n 0, 1) := by decide +kernel
theorem dX6_scale_37 : decode cX6_scale 37 = .ok (.getfield 31, 3) := by decide +kernel
theorem dX6_scale_40 : decode cX6_scale 40 = .ok (.aload_n 0, 1) := by decide +kernel
theorem dX6_scale_41 : decode cX6_scale 41 = .ok (.getfield 123, 3) := by decide +kernel
theorem dX6_scale_44 : decode cX6_scale 44 = .ok (.iload_n 1, 1) := by decide +kernel
theorem dX6_scale_45 : decode cX6_scale 45 = .ok (.iastore, 1) := by decide +kernel
theorem dX6_scale_46 : decode cX6_scale 46 = .ok (.aload_n 0, 1) := by decide +kernel
theorem dX6_scale_47 : decode cX6_scale 47 = .ok (.getfield 34, 3) := by decide +kernel
theorem dX6_scale_50 : decode cX6_scale 50 = .ok (.aload_n 0, 1) := by decide +kernel
theorem dX6_scale_51 : decode cX6_scale 51 = .ok (.getfield 123, 3) := by decide +kernel
theorem dX6_scale_54 : decode cX6_scale 54 = .ok (.iload_n 2, 1) := by decide +kernel
theorem dX6_scale_55 : decode cX6_scale 55 = .ok (.iastore, 1) := by decide +kernel
theorem dX6_scale_56 : decode cX6_scale 56 = .ok (.aload_n 0, 1) := by decide +kernel
theorem dX6_scale_57 : decode cX6_scale 57 = .ok (.getfield 37, 3) := by decide +kernel
theorem dX6_scale_60 : decode cX6_scale 60 = .ok (.aload_n 0, 1) := by decide +kernel
theorem dX6_scale_61 : decode cX6_scale 61 = .ok (.getfield 123, 3) := by decide +kernel
theorem dX6_scale_64 : decode cX6_scale 64 = .ok (.aload_n 0, 1) := by decide +kernel
theorem dX6_scale_65 : decode cX6_scale 65 = .ok (.getfield 96, 3) := by decide +kernel
theorem dX6_scale_68 : decode cX6_scale 68 = .ok (.iastore, 1) := by decide +kernel
theorem dX6_scale_69 : decode cX6_scale 69 = .ok (.aload_n 0, 1) := by decide +kernel
theorem dX6_scale_70 : decode cX6_scale 70 = .ok (.getfield 40, 3) := by decide +kernel
theorem dX6_scale_73 : decode cX6_scale 73 = .ok (.aload_n 0, 1) := by decide +kernel
theorem dX6_scale_74 : decode cX6_scale 74 = .ok (.getfield 123, 3) := by decide +kernel
theorem dX6_scale_77 : decode cX6_scale 77 = .ok (.iconst 0, 1) := by decide +kernel
theorem dX6_scale_78 : decode cX6_scale 78 = .ok (.iastore, 1) := by decide +kernel
theorem dX6_scale_79 : decode cX6_scale 79 = .ok (.aload_n 0, 1) := by decide +kernel
theorem dX6_scale_80 : decode cX6_scale 80 = .ok (.dup, 1) := by decide +kernel
theorem dX6_scale_81 : decode cX6_scale 81 = .ok (.getfield 123, 3) := by decide +kernel
theorem dX6_scale_84 : decode cX6_scale 84 = .ok (.iconst 1, 1) := by decide +kernel
theorem dX6_scale_85 : decode cX6_scale 85 = .ok (.iadd, 1) := by decide +kernel
theorem dX6_scale_86 : decode cX6_scale 86 = .ok (.putfield 123, 3) := by decide +kernel
theorem dX6_scale_89 : decode cX6_scale 89 = .ok (.aload_n 0, 1) := by decide +kernel
theorem dX6_scale_90 : decode cX6_scale 90 = .ok (.getfield 123, 3) := by decide +kernel
theorem dX6_scale_93 : decode cX6_scale 93 = .ok (.iconst 1, 1) := by decide +kernel
theorem dX6_scale_94 : decode cX6_scale 94 = .ok (.isub, 1) := by decide +kernel
theorem dX6_scale_95 : decode cX6_scale 95 = .ok (.ireturn, 1) := by decide +kernel
set_option maxRecDepth 20000 in
theorem ggX6_isScale_X6_in : GoodIn wsX6_isScale wsX6_in := goodIn_r _ [5] (by decide +kernel) (by decide +kernel)
set_option maxRecDepth 20000 in
theorem gX6_isScale_X6_in : GoodIn wsX6_isScale (va_wsS RX6 92 yX6_in wsX6_in) := goodIn_app (goodIn_of _ (by decide +kernel)) ggX6_isScale_X6_in
theorem dX6_isScale_0 : decode cX6_isScale 0 = .ok (.iload_n 1, 1) := by decide +kernel
theorem dX6_isScale_1 : decode cX6_isScale 1 = .ok (.iconst 0, 1) := by decide +kernel
theorem dX6_isScale_2 : decode cX6_isScale 2 = .ok (.aload_n 0, 1) := by decide +kernel
theorem dX6_isScale_3 : decode cX6_isScale 3 = .ok (.getfield 123, 3) := by decide +kernel
theorem dX6_isScale_6 : decode cX6_isScale 6 = .ok (.iconst 1, 1) := by decide +kernel
theorem dX6_isScale_7 : decode cX6_isScale 7 = .ok (.isub, 1) := by decide +kernel
theorem dX6_isScale_8 : decode cX6_isScale 8 = .ok (.invokestatic 92, 3) := by decide +kernel
theorem dX6_isScale_11 : decode cX6_isScale 11 = .ok (.ireturn, 1) := by decide +kernel
set_option maxRecDepth 20000 in
theorem ggX6_step_X6_isScale : GoodIn wsX6_step wsX6_isScale := goodIn_r _ [11, 12, 13, 14, 10, 15, 16, 17, 18, 19, 20, 21, 22, 23, 24, 25, 26, 27, 28, 29, 30, 31, 32, 33, 34, 35, 36, 37, 38, 39, 40, 41, 42, 43, 44, 45, 46, 47, 48, 49] (by decide +kernel) (by decide +kernel)
set_option maxRecDepth 20000 in
theorem gX6_step_X6_isScale : GoodIn wsX6_step (wsV RX6 126 RX6 yX6_isScale wsX6_isScale) := goodIn_app (goodIn_of _ (by decide +kernel)) ggX6_step_X6_isScale
set_option maxRecDepth 20000 in
theorem ggX6_step_X6_in : GoodIn wsX6_step wsX6_in := goodIn_r _ [15] (by decide +kernel) (by decide +kernel)
set_option maxRecDepth 20000 in
theorem gX6_step_X6_in : GoodIn wsX6_step (va_wsS RX6 92 yX6_in wsX6_in) := goodIn_app (goodIn_of _ (by decide +kernel)) ggX6_step_X6_in
theorem dX6_step_0 : decode cX6_step 0 = .ok (.aload_n 0, 1) := by decide +kernel
theorem dX6_step_1 : decode cX6_step 1 = .ok (.iload_n 1, 1) := by decide +kernel
theorem dX6_step_2 : decode cX6_step 2 = .ok (.invokevirtual 126, 3) := by decide +kernel
theorem dX6_step_5 : decode cX6_step 5 = .ok (.ifCond .eq 56, 3) := by decide +kernel
theorem dX6_step_8 : decode cX6_step 8 = .ok (.iload_n 2, 1) := by decide +kernel
theorem dX6_step_9 : decode cX6_step 9 = .ok (.iconst 0, 1) := by decide +kernel
theorem dX6_step_10 : decode cX6_step 10 = .ok (.sipush 2000, 3) := by decide +kernel
theorem dX6_step_13 : decode cX6_step 13 = .ok (.invokestatic 92, 3) := by decide +kernel
theorem dX6_step_16 : decode cX6_step 16 = .ok (.ifCond .eq 45, 3) := by decide +kernel
theorem dX6_step_19 : decode cX6_step 19 = .ok (.iload_n 3, 1) := by decide +kernel
theorem dX6_step_20 : decode cX6_step 20 = .ok (.iconst 0, 1) := by decide +kernel
theorem dX6_step_21 : decode cX6_step 21 = .ok (.sipush 2000, 3) := by decide +kernel
theorem dX6_step_24 : decode cX6_step 24 = .ok (.invokestatic 92, 3) := by decide +kernel
theorem dX6_step_27 : decode cX6_step 27 = .ok (.ifCond .eq 34, 3) := by decide +kernel
theorem dX6_step_30 : decode cX6_step 30 = .ok (.aload_n 0, 1) := by decide +kernel
theorem dX6_step_31 : decode cX6_step 31 = .ok (.getfield 40, 3) := by decide +kernel
theorem dX6_step_34 : decode cX6_step 34 = .ok (.iload_n 1, 1) := by decide +kernel
theorem dX6_step_35 : decode cX6_step 35 = .ok (.iaload, 1) := by decide +kernel
theorem dX6_step_36 : decode cX6_step 36 = .ok (.ifCond .le 28, 3) := by decide +kernel
theorem dX6_step_39 : decode cX6_step 39 = .ok (.iload_n 2, 1) := by decide +kernel
theorem dX6_step_40 : decode cX6_step 40 = .ok (.aload_n 0, 1) := by decide +kernel
theorem dX6_step_41 : decode cX6_step 41 = .ok (.getfield 43, 3) := by decide +kernel
theorem dX6_step_44 : decode cX6_step 44 = .ok (.bipush 8, 2) := by decide +kernel
theorem dX6_step_46 : decode cX6_step 46 = .ok (.iload_n 1, 1) := by decide +kernel
theorem dX6_step_47 : decode cX6_step 47 = .ok (.imul, 1) := by decide +kernel
theorem dX6_step_48 : decode cX6_step 48 = .ok (.aload_n 0, 1) := by decide +kernel
theorem dX6_step_49 : decode cX6_step 49 = .ok (.getfield 40, 3) := by decide +kernel
theorem dX6_step_52 : decode cX6_step 52 = .ok (.iload_n 1, 1) := by decide +kernel
theorem dX6_step_53 : decode cX6_step 53 = .ok (.iaload, 1) := by decide +kernel
theorem dX6_step_54 : decode cX6_step 54 = .ok (.iadd, 1) := by decide +kernel
theorem dX6_step_55 : decode cX6_step 55 = .ok (.iconst 1, 1) := by decide +kernel
theorem dX6_step_56 : decode cX6_step 56 = .ok (.isub, 1) := by decide +kernel
theorem dX6_step_57 : decode cX6_step 57 = .ok (.iaload, 1) := by decide +kernel
theorem dX6_step_58 : decode cX6_step 58 = .ok (.if_icmp .gt 6, 3) := by decide +kernel
theorem dX6_step_61 : decode cX6_step 61 = .ok (.bipush (-2), 2) := by decide +kernel
theorem dX6_step_63 : decode cX6_step 63 = .ok (.ireturn, 1) := by decide +kernel
theorem dX6_step_64 : decode cX6_step 64 = .ok (.aload_n 0, 1) := by decide +kernel
theorem dX6_step_65 : decode cX6_step 65 = .ok (.getfield 34, 3) := by decide +kernel
theorem dX6_step_68 : decode cX6_step 68 = .ok (.iload_n 1, 1) := by decide +kernel
theorem dX6_step_69 : decode cX6_step 69 = .ok (.iaload, 1) := by decide +kernel
theorem dX6_step_70 : decode cX6_step 70 = .ok (.aload_n 0, 1) := by decide +kernel
theorem dX6_step_71 : decode cX6_step 71 = .ok (.getfield 96, 3) := by decide +kernel
theorem dX6_step_74 : decode cX6_step 74 = .ok (.if_icmp .gt 19, 3) := by decide +kernel
theorem dX6_step_77 : decode cX6_step 77 = .ok (.aload_n 0, 1) := by decide +kernel
theorem dX6_step_78 : decode cX6_step 78 = .ok (.getfield 37, 3) := by decide +kernel
theorem dX6_step_81 : decode cX6_step 81 = .ok (.iload_n 1, 1) := by decide +kernel
theorem dX6_step_82 : decode cX6_step 82 = .ok (.iaload, 1) := by decide +kernel
theorem dX6_step_83 : decode cX6_step 83 = .ok (.aload_n 0, 1) := by decide +kernel
theorem dX6_step_84 : decode cX6_step 84 = .ok (.getfield 96, 3) := by decide +kernel
theorem dX6_step_87 : decode cX6_step 87 = .ok (.if_icmp .eq 6, 3) := by decide +kernel
theorem dX6_step_90 : decode cX6_step 90 = .ok (.bipush (-3), 2) := by decide +kernel
theorem dX6_step_92 : decode cX6_step 92 = .ok (.ireturn, 1) := by decide +kernel
theorem dX6_step_93 : decode cX6_step 93 = .ok (.aload_n 0, 1) := by decide +kernel
theorem dX6_step_94 : decode cX6_step 94 = .ok (.getfield 40, 3) := by decide +kernel
theorem dX6_step_97 : decode cX6_step 97 = .ok (.iload_n 1, 1) := by decide +kernel
theorem dX6_step_98 : decode cX6_step 98 = .ok (.iaload, 1) := by decide +kernel
theorem dX6_step_99 : decode cX6_step 99 = .ok (.bipush 8, 2) := by decide +kernel
theorem dX6_step_101 : decode cX6_step 101 = .ok (.if_icmp .ne 6, 3) := by decide +kernel
theorem dX6_step_104 : decode cX6_step 104 = .ok (.bipush (-4), 2) := by decide +kernel
theorem dX6_step_106 : decode cX6_step 106 = .ok (.ireturn, 1) := by decide +kernel
theorem dX6_step_107 : decode cX6_step 107 = .ok (.aload_n 0, 1) := by decide +kernel
theorem dX6_step_108 : decode cX6_step 108 = .ok (.getfield 43, 3) := by decide +kernel
theorem dX6_step_111 : decode cX6_step 111 = .ok (.bipush 8, 2) := by decide +kernel
theorem dX6_step_113 : decode cX6_step 113 = .ok (.iload_n 1, 1) := by decide +kernel
theorem dX6_step_114 : decode cX6_step 114 = .ok (.imul, 1) := by decide +kernel
theorem dX6_step_115 : decode cX6_step 115 = .ok (.aload_n 0, 1) := by decide +kernel
theorem dX6_step_116 : decode cX6_step 116 = .ok (.getfield 40, 3) := by decide +kernel
theorem dX6_step_119 : decode cX6_step 119 = .ok (.iload_n 1, 1) := by decide +kernel
theorem dX6_step_120 : decode cX6_step 120 = .ok (.iaload, 1) := by decide +kernel
theorem dX6_step_121 : decode cX6_step 121 = .ok (.iadd, 1) := by decide +kernel
theorem dX6_step_122 : decode cX6_step 122 = .ok (.iload_n 2, 1) := by decide +kernel
theorem dX6_step_123 : decode cX6_step 123 = .ok (.iastore, 1) := by decide +kernel
theorem dX6_step_124 : decode cX6_step 124 = .ok (.aload_n 0, 1) := by decide +kernel
theorem dX6_step_125 : decode cX6_step 125 = .ok (.getfield 46, 3) := by decide +kernel
theorem dX6_step_128 : decode cX6_step 128 = .ok (.bipush 8, 2) := by decide +kernel
theorem dX6_step_130 : decode cX6_step 130 = .ok (.iload_n 1, 1) := by decide +kernel
theorem dX6_step_131 : decode cX6_step 131 = .ok (.imul, 1) := by decide +kernel
theorem dX6_step_132 : decode cX6_step 132 = .ok (.aload_n 0, 1) := by decide +kernel
theorem dX6_step_133 : decode cX6_step 133 = .ok (.getfield 40, 3) := by decide +kernel
theorem dX6_step_136 : decode cX6_step 136 = .ok (.iload_n 1, 1) := by decide +kernel
theorem dX6_step_137 : decode cX6_step 137 = .ok (.iaload, 1) := by decide +kernel
theorem dX6_step_138 : decode cX6_step 138 = .ok (.iadd, 1) := by decide +kernel
theorem dX6_step_139 : decode cX6_step 139 = .ok (.iload_n 3, 1) := by decide +kernel
theorem dX6_step_140 : decode cX6_step 140 = .ok (.iastore, 1) := by decide +kernel
theorem dX6_step_141 : decode cX6_step 141 = .ok (.aload_n 0, 1) := by decide +kernel
theorem dX6_step_142 : decode cX6_step 142 = .ok (.getfield 40, 3) := by decide +kernel
theorem dX6_step_145 : decode cX6_step 145 = .ok (.iload_n 1, 1) := by decide +kernel
theorem dX6_step_146 : decode cX6_step 146 = .ok (.dup2, 1) := by decide +kernel
theorem dX6_step_147 : decode cX6_step 147 = .ok (.iaload, 1) := by decide +kernel
theorem dX6_step_148 : decode cX6_step 148 = .ok (.iconst 1, 1) := by decide +kernel
theorem dX6_step_149 : decode cX6_step 149 = .ok (.iadd, 1) := by decide +kernel
theorem dX6_step_150 : decode cX6_step 150 = .ok (.iastore, 1) := by decide +kernel
theorem dX6_step_151 : decode cX6_step 151 = .ok (.aload_n 0, 1) := by decide +kernel
theorem dX6_step_152 : decode cX6_step 152 = .ok (.getfield 40, 3) := by decide +kernel
theorem dX6_step_155 : decode cX6_step 155 = .ok (.iload_n 1, 1) := by decide +kernel
theorem dX6_step_156 : decode cX6_step 156 = .ok (.iaload, 1) := by decide +kernel
theorem dX6_step_157 : decode cX6_step 157 = .ok (.ireturn, 1) := by decide +kernel
set_option maxRecDepth 20000 in
theorem ggX6_hang_X6_isGrain : GoodIn wsX6_hang wsX6_isGrain := goodIn_r _ [7, 8, 9, 6, 10] (by decide +kernel) (by decide +kernel)
set_option maxRecDepth 20000 in
theorem gX6_hang_X6_isGrain : GoodIn wsX6_hang (va_wsS RX6 105 yX6_isGrain wsX6_isGrain) := goodIn_app (goodIn_of _ (by decide +kernel)) ggX6_hang_X6_isGrain
set_option maxRecDepth 20000 in
theorem ggX6_hang_X6_in : GoodIn wsX6_hang wsX6_in := goodIn_r _ [10] (by decide +kernel) (by decide +kernel)
set_option maxRecDepth 20000 in
theorem gX6_hang_X6_in : GoodIn wsX6_hang (va_wsS RX6 92 yX6_in wsX6_in) := goodIn_app (goodIn_of _ (by decide +kernel)) ggX6_hang_X6_in
theorem dX6_hang_0 : decode cX6_hang 0 = .ok (.iload_n 1, 1) := by decide +kernel
theorem dX6_hang_1 : decode cX6_hang 1 = .ok (.invokestatic 105, 3) := by decide +kernel
theorem dX6_hang_4 : decode cX6_hang 4 = .ok (.ifCond .eq 36, 3) := by decide +kernel
theorem dX6_hang_7 : decode cX6_hang 7 = .ok (.iload_n 2, 1) := by decide +kernel
theorem dX6_hang_8 : decode cX6_hang 8 = .ok (.invokestatic 105, 3) := by decide +kernel
theorem dX6_hang_11 : decode cX6_hang 11 = .ok (.ifCond .eq 29, 3) := by decide +kernel
theorem dX6_hang_14 : decode cX6_hang 14 = .ok (.iload_n 1, 1) := by decide +kernel
theorem dX6_hang_15 : decode cX6_hang 15 = .ok (.iload_n 2, 1) := by decide +kernel
theorem dX6_hang_16 : decode cX6_hang 16 = .ok (.if_icmp .eq 24, 3) := by decide +kernel
theorem dX6_hang_19 : decode cX6_hang 19 = .ok (.iload_n 3, 1) := by decide +kernel
theorem dX6_hang_20 : decode cX6_hang 20 = .ok (.iconst 1, 1) := by decide +kernel
theorem dX6_hang_21 : decode cX6_hang 21 = .ok (.bipush 100, 2) := by decide +kernel
theorem dX6_hang_23 : decode cX6_hang 23 = .ok (.invokestatic 92, 3) := by decide +kernel
theorem dX6_hang_26 : decode cX6_hang 26 = .ok (.ifCond .eq 14, 3) := by decide +kernel
theorem dX6_hang_29 : decode cX6_hang 29 = .ok (.iload 4, 2) := by decide +kernel
theorem dX6_hang_31 : decode cX6_hang 31 = .ok (.iconst 1, 1) := by decide +kernel
theorem dX6_hang_32 : decode cX6_hang 32 = .ok (.bipush 100, 2) := by decide +kernel
theorem dX6_hang_34 : decode cX6_hang 34 = .ok (.invokestatic 92, 3) := by decide +kernel
theorem dX6_hang_37 : decode cX6_hang 37 = .ok (.ifCond .ne 6, 3) := by decide +kernel
theorem dX6_hang_40 : decode cX6_hang 40 = .ok (.bipush (-2), 2) := by decide +kernel
theorem dX6_hang_42 : decode cX6_hang 42 = .ok (.ireturn, 1) := by decide +kernel
theorem dX6_hang_43 : decode cX6_hang 43 = .ok (.aload_n 0, 1) := by decide +kernel
theorem dX6_hang_44 : decode cX6_hang 44 = .ok (.getfield 49, 3) := by decide +kernel

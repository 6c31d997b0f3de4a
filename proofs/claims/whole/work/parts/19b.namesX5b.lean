theorem dX5_findLive_45 : decode cX5_findLive 45 = .ok (.ireturn, 1) := by decide +kernel
theorem dX5_word4_0 : decode cX5_word4 0 = .ok (.iconst 0, 1) := by decide +kernel
theorem dX5_word4_1 : decode cX5_word4 1 = .ok (.istore_n 2, 1) := by decide +kernel
theorem dX5_word4_2 : decode cX5_word4 2 = .ok (.iconst 3, 1) := by decide +kernel
theorem dX5_word4_3 : decode cX5_word4 3 = .ok (.istore_n 3, 1) := by decide +kernel
theorem dX5_word4_4 : decode cX5_word4 4 = .ok (.iload_n 3, 1) := by decide +kernel
theorem dX5_word4_5 : decode cX5_word4 5 = .ok (.ifCond .lt 37, 3) := by decide +kernel
theorem dX5_word4_8 : decode cX5_word4 8 = .ok (.iload_n 2, 1) := by decide +kernel
theorem dX5_word4_9 : decode cX5_word4 9 = .ok (.bipush 8, 2) := by decide +kernel
theorem dX5_word4_11 : decode cX5_word4 11 = .ok (.ishl, 1) := by decide +kernel
theorem dX5_word4_12 : decode cX5_word4 12 = .ok (.iload_n 1, 1) := by decide +kernel
theorem dX5_word4_13 : decode cX5_word4 13 = .ok (.iload_n 3, 1) := by decide +kernel
theorem dX5_word4_14 : decode cX5_word4 14 = .ok (.iadd, 1) := by decide +kernel
theorem dX5_word4_15 : decode cX5_word4 15 = .ok (.aload_n 0, 1) := by decide +kernel
theorem dX5_word4_16 : decode cX5_word4 16 = .ok (.getfield 51, 3) := by decide +kernel
theorem dX5_word4_19 : decode cX5_word4 19 = .ok (.if_icmp .ge 14, 3) := by decide +kernel
theorem dX5_word4_22 : decode cX5_word4 22 = .ok (.aload_n 0, 1) := by decide +kernel
theorem dX5_word4_23 : decode cX5_word4 23 = .ok (.getfield 30, 3) := by decide +kernel
theorem dX5_word4_26 : decode cX5_word4 26 = .ok (.iload_n 1, 1) := by decide +kernel
theorem dX5_word4_27 : decode cX5_word4 27 = .ok (.iload_n 3, 1) := by decide +kernel
theorem dX5_word4_28 : decode cX5_word4 28 = .ok (.iadd, 1) := by decide +kernel
theorem dX5_word4_29 : decode cX5_word4 29 = .ok (.iaload, 1) := by decide +kernel
theorem dX5_word4_30 : decode cX5_word4 30 = .ok (.goto 4, 3) := by decide +kernel
theorem dX5_word4_33 : decode cX5_word4 33 = .ok (.iconst 0, 1) := by decide +kernel
theorem dX5_word4_34 : decode cX5_word4 34 = .ok (.ior, 1) := by decide +kernel
theorem dX5_word4_35 : decode cX5_word4 35 = .ok (.istore_n 2, 1) := by decide +kernel
theorem dX5_word4_36 : decode cX5_word4 36 = .ok (.iinc 3 (-1), 3) := by decide +kernel
theorem dX5_word4_39 : decode cX5_word4 39 = .ok (.goto (-35), 3) := by decide +kernel
theorem dX5_word4_42 : decode cX5_word4 42 = .ok (.iload_n 2, 1) := by decide +kernel
theorem dX5_word4_43 : decode cX5_word4 43 = .ok (.ireturn, 1) := by decide +kernel
set_option maxRecDepth 20000 in
theorem ggX5_putRecord_X5_greatest : GoodIn wsX5_putRecord wsX5_greatest := goodIn_r _ [9, 10, 11, 12, 8, 13, 3, 46, 47, 48, 49, 50, 51, 52, 53, 54, 55, 56, 57, 58, 59, 60] (by decide +kernel) (by decide +kernel)
set_option maxRecDepth 20000 in
theorem gX5_putRecord_X5_greatest : GoodIn wsX5_putRecord (wsV RX5 107 RX5 yX5_greatest wsX5_greatest) := goodIn_app (goodIn_of _ (by decide +kernel)) ggX5_putRecord_X5_greatest
set_option maxRecDepth 20000 in
theorem ggX5_putRecord_X5_findLive : GoodIn wsX5_putRecord wsX5_findLive := goodIn_r _ [17, 2, 18, 19, 20, 8, 21, 22, 23, 24, 25, 10, 11, 12, 13, 3, 26, 27, 28, 29, 30, 31, 32, 33, 46, 47, 48, 49, 50, 51, 52, 53, 54, 55, 56, 57, 58, 59, 60] (by decide +kernel) (by decide +kernel)
set_option maxRecDepth 20000 in
theorem gX5_putRecord_X5_findLive : GoodIn wsX5_putRecord (wsV RX5 111 RX5 yX5_findLive wsX5_findLive) := goodIn_app (goodIn_of _ (by decide +kernel)) ggX5_putRecord_X5_findLive
set_option maxRecDepth 20000 in
theorem ggX5_putRecord_X5_mayWrite : GoodIn wsX5_putRecord wsX5_mayWrite := goodIn_r _ [37, 38, 39, 40, 46, 47, 48, 49, 50, 51, 52, 53, 54, 55, 56, 57, 58, 59, 60] (by decide +kernel) (by decide +kernel)
set_option maxRecDepth 20000 in
theorem gX5_putRecord_X5_mayWrite : GoodIn wsX5_putRecord (wsV RX5 114 RX5 yX5_mayWrite wsX5_mayWrite) := goodIn_app (goodIn_of _ (by decide +kernel)) ggX5_putRecord_X5_mayWrite
set_option maxRecDepth 20000 in
theorem ggX5_putRecord_X5_word4 : GoodIn wsX5_putRecord wsX5_word4 := goodIn_r _ [44, 1, 45, 46, 47, 48, 49, 50, 51, 52, 53, 54, 55, 56, 57, 58, 59, 60] (by decide +kernel) (by decide +kernel)
set_option maxRecDepth 20000 in
theorem gX5_putRecord_X5_word4 : GoodIn wsX5_putRecord (wsV RX5 118 RX5 yX5_word4 wsX5_word4) := goodIn_app (goodIn_of _ (by decide +kernel)) ggX5_putRecord_X5_word4
theorem dX5_putRecord_0 : decode cX5_putRecord 0 = .ok (.aload_n 0, 1) := by decide +kernel
theorem dX5_putRecord_1 : decode cX5_putRecord 1 = .ok (.getfield 51, 3) := by decide +kernel
theorem dX5_putRecord_4 : decode cX5_putRecord 4 = .ok (.ifCond .ne 7, 3) := by decide +kernel
theorem dX5_putRecord_7 : decode cX5_putRecord 7 = .ok (.iconst 1, 1) := by decide +kernel
theorem dX5_putRecord_8 : decode cX5_putRecord 8 = .ok (.goto 13, 3) := by decide +kernel
theorem dX5_putRecord_11 : decode cX5_putRecord 11 = .ok (.aload_n 0, 1) := by decide +kernel
theorem dX5_putRecord_12 : decode cX5_putRecord 12 = .ok (.getfield 51, 3) := by decide +kernel
theorem dX5_putRecord_15 : decode cX5_putRecord 15 = .ok (.bipush 15, 2) := by decide +kernel
theorem dX5_putRecord_17 : decode cX5_putRecord 17 = .ok (.iadd, 1) := by decide +kernel
theorem dX5_putRecord_18 : decode cX5_putRecord 18 = .ok (.bipush 16, 2) := by decide +kernel
theorem dX5_putRecord_20 : decode cX5_putRecord 20 = .ok (.idiv, 1) := by decide +kernel
theorem dX5_putRecord_21 : decode cX5_putRecord 21 = .ok (.istore_n 3, 1) := by decide +kernel
theorem dX5_putRecord_22 : decode cX5_putRecord 22 = .ok (.aload_n 0, 1) := by decide +kernel
theorem dX5_putRecord_23 : decode cX5_putRecord 23 = .ok (.invokevirtual 107, 3) := by decide +kernel
theorem dX5_putRecord_26 : decode cX5_putRecord 26 = .ok (.iconst 1, 1) := by decide +kernel
theorem dX5_putRecord_27 : decode cX5_putRecord 27 = .ok (.iadd, 1) := by decide +kernel
theorem dX5_putRecord_28 : decode cX5_putRecord 28 = .ok (.istore 4, 2) := by decide +kernel
theorem dX5_putRecord_30 : decode cX5_putRecord 30 = .ok (.aload_n 0, 1) := by decide +kernel
theorem dX5_putRecord_31 : decode cX5_putRecord 31 = .ok (.invokevirtual 111, 3) := by decide +kernel
theorem dX5_putRecord_34 : decode cX5_putRecord 34 = .ok (.istore 5, 2) := by decide +kernel
theorem dX5_putRecord_36 : decode cX5_putRecord 36 = .ok (.bipush 64, 2) := by decide +kernel
theorem dX5_putRecord_38 : decode cX5_putRecord 38 = .ok (.iload 5, 2) := by decide +kernel
theorem dX5_putRecord_40 : decode cX5_putRecord 40 = .ok (.isub, 1) := by decide +kernel
theorem dX5_putRecord_41 : decode cX5_putRecord 41 = .ok (.iload_n 3, 1) := by decide +kernel
theorem dX5_putRecord_42 : decode cX5_putRecord 42 = .ok (.if_icmp .ge 6, 3) := by decide +kernel
theorem dX5_putRecord_45 : decode cX5_putRecord 45 = .ok (.bipush (-3), 2) := by decide +kernel
theorem dX5_putRecord_47 : decode cX5_putRecord 47 = .ok (.ireturn, 1) := by decide +kernel
theorem dX5_putRecord_48 : decode cX5_putRecord 48 = .ok (.iconst 0, 1) := by decide +kernel
theorem dX5_putRecord_49 : decode cX5_putRecord 49 = .ok (.istore 6, 2) := by decide +kernel
theorem dX5_putRecord_51 : decode cX5_putRecord 51 = .ok (.iconst 0, 1) := by decide +kernel
theorem dX5_putRecord_52 : decode cX5_putRecord 52 = .ok (.istore 7, 2) := by decide +kernel
theorem dX5_putRecord_54 : decode cX5_putRecord 54 = .ok (.iload 7, 2) := by decide +kernel
theorem dX5_putRecord_56 : decode cX5_putRecord 56 = .ok (.iload_n 3, 1) := by decide +kernel
theorem dX5_putRecord_57 : decode cX5_putRecord 57 = .ok (.if_icmp .ge 140, 3) := by decide +kernel
theorem dX5_putRecord_60 : decode cX5_putRecord 60 = .ok (.aload_n 0, 1) := by decide +kernel
theorem dX5_putRecord_61 : decode cX5_putRecord 61 = .ok (.getfield 36, 3) := by decide +kernel
theorem dX5_putRecord_64 : decode cX5_putRecord 64 = .ok (.iload 6, 2) := by decide +kernel
theorem dX5_putRecord_66 : decode cX5_putRecord 66 = .ok (.baload, 1) := by decide +kernel
theorem dX5_putRecord_67 : decode cX5_putRecord 67 = .ok (.ifCond .eq 9, 3) := by decide +kernel
theorem dX5_putRecord_70 : decode cX5_putRecord 70 = .ok (.iinc 6 1, 3) := by decide +kernel
theorem dX5_putRecord_73 : decode cX5_putRecord 73 = .ok (.goto (-13), 3) := by decide +kernel
theorem dX5_putRecord_76 : decode cX5_putRecord 76 = .ok (.aload_n 0, 1) := by decide +kernel
theorem dX5_putRecord_77 : decode cX5_putRecord 77 = .ok (.invokevirtual 114, 3) := by decide +kernel
theorem dX5_putRecord_80 : decode cX5_putRecord 80 = .ok (.ifCond .ne 6, 3) := by decide +kernel
theorem dX5_putRecord_83 : decode cX5_putRecord 83 = .ok (.bipush (-4), 2) := by decide +kernel
theorem dX5_putRecord_85 : decode cX5_putRecord 85 = .ok (.ireturn, 1) := by decide +kernel
theorem dX5_putRecord_86 : decode cX5_putRecord 86 = .ok (.bipush 8, 2) := by decide +kernel
theorem dX5_putRecord_88 : decode cX5_putRecord 88 = .ok (.iload 6, 2) := by decide +kernel
theorem dX5_putRecord_90 : decode cX5_putRecord 90 = .ok (.imul, 1) := by decide +kernel
theorem dX5_putRecord_91 : decode cX5_putRecord 91 = .ok (.istore 8, 2) := by decide +kernel
theorem dX5_putRecord_93 : decode cX5_putRecord 93 = .ok (.aload_n 0, 1) := by decide +kernel
theorem dX5_putRecord_94 : decode cX5_putRecord 94 = .ok (.getfield 7, 3) := by decide +kernel
theorem dX5_putRecord_97 : decode cX5_putRecord 97 = .ok (.iload 8, 2) := by decide +kernel
theorem dX5_putRecord_99 : decode cX5_putRecord 99 = .ok (.iload 4, 2) := by decide +kernel
theorem dX5_putRecord_101 : decode cX5_putRecord 101 = .ok (.iastore, 1) := by decide +kernel
theorem dX5_putRecord_102 : decode cX5_putRecord 102 = .ok (.aload_n 0, 1) := by decide +kernel
theorem dX5_putRecord_103 : decode cX5_putRecord 103 = .ok (.getfield 7, 3) := by decide +kernel
theorem dX5_putRecord_106 : decode cX5_putRecord 106 = .ok (.iload 8, 2) := by decide +kernel
theorem dX5_putRecord_108 : decode cX5_putRecord 108 = .ok (.iconst 1, 1) := by decide +kernel
theorem dX5_putRecord_109 : decode cX5_putRecord 109 = .ok (.iadd, 1) := by decide +kernel
theorem dX5_putRecord_110 : decode cX5_putRecord 110 = .ok (.iload 7, 2) := by decide +kernel
theorem dX5_putRecord_112 : decode cX5_putRecord 112 = .ok (.sipush 256, 3) := by decide +kernel
theorem dX5_putRecord_115 : decode cX5_putRecord 115 = .ok (.iload_n 3, 1) := by decide +kernel
theorem dX5_putRecord_116 : decode cX5_putRecord 116 = .ok (.imul, 1) := by decide +kernel
theorem dX5_putRecord_117 : decode cX5_putRecord 117 = .ok (.iadd, 1) := by decide +kernel
theorem dX5_putRecord_118 : decode cX5_putRecord 118 = .ok (.ldc 117, 2) := by decide +kernel
theorem dX5_putRecord_120 : decode cX5_putRecord 120 = .ok (.iload_n 2, 1) := by decide +kernel
theorem dX5_putRecord_121 : decode cX5_putRecord 121 = .ok (.imul, 1) := by decide +kernel
theorem dX5_putRecord_122 : decode cX5_putRecord 122 = .ok (.iadd, 1) := by decide +kernel
theorem dX5_putRecord_123 : decode cX5_putRecord 123 = .ok (.iastore, 1) := by decide +kernel
theorem dX5_putRecord_124 : decode cX5_putRecord 124 = .ok (.aload_n 0, 1) := by decide +kernel
theorem dX5_putRecord_125 : decode cX5_putRecord 125 = .ok (.getfield 7, 3) := by decide +kernel
theorem dX5_putRecord_128 : decode cX5_putRecord 128 = .ok (.iload 8, 2) := by decide +kernel
theorem dX5_putRecord_130 : decode cX5_putRecord 130 = .ok (.iconst 2, 1) := by decide +kernel
theorem dX5_putRecord_131 : decode cX5_putRecord 131 = .ok (.iadd, 1) := by decide +kernel
theorem dX5_putRecord_132 : decode cX5_putRecord 132 = .ok (.iload_n 1, 1) := by decide +kernel
theorem dX5_putRecord_133 : decode cX5_putRecord 133 = .ok (.iastore, 1) := by decide +kernel
theorem dX5_putRecord_134 : decode cX5_putRecord 134 = .ok (.aload_n 0, 1) := by decide +kernel
theorem dX5_putRecord_135 : decode cX5_putRecord 135 = .ok (.getfield 7, 3) := by decide +kernel
theorem dX5_putRecord_138 : decode cX5_putRecord 138 = .ok (.iload 8, 2) := by decide +kernel
theorem dX5_putRecord_140 : decode cX5_putRecord 140 = .ok (.iconst 3, 1) := by decide +kernel
theorem dX5_putRecord_141 : decode cX5_putRecord 141 = .ok (.iadd, 1) := by decide +kernel
theorem dX5_putRecord_142 : decode cX5_putRecord 142 = .ok (.aload_n 0, 1) := by decide +kernel
theorem dX5_putRecord_143 : decode cX5_putRecord 143 = .ok (.getfield 51, 3) := by decide +kernel
theorem dX5_putRecord_146 : decode cX5_putRecord 146 = .ok (.iastore, 1) := by decide +kernel
theorem dX5_putRecord_147 : decode cX5_putRecord 147 = .ok (.iconst 0, 1) := by decide +kernel
theorem dX5_putRecord_148 : decode cX5_putRecord 148 = .ok (.istore 9, 2) := by decide +kernel
theorem dX5_putRecord_150 : decode cX5_putRecord 150 = .ok (.iload 9, 2) := by decide +kernel
theorem dX5_putRecord_152 : decode cX5_putRecord 152 = .ok (.iconst 4, 1) := by decide +kernel
theorem dX5_putRecord_153 : decode cX5_putRecord 153 = .ok (.if_icmp .ge 35, 3) := by decide +kernel
theorem dX5_putRecord_156 : decode cX5_putRecord 156 = .ok (.aload_n 0, 1) := by decide +kernel
theorem dX5_putRecord_157 : decode cX5_putRecord 157 = .ok (.getfield 7, 3) := by decide +kernel
theorem dX5_putRecord_160 : decode cX5_putRecord 160 = .ok (.iload 8, 2) := by decide +kernel
theorem dX5_putRecord_162 : decode cX5_putRecord 162 = .ok (.iconst 4, 1) := by decide +kernel
theorem dX5_putRecord_163 : decode cX5_putRecord 163 = .ok (.iadd, 1) := by decide +kernel
theorem dX5_putRecord_164 : decode cX5_putRecord 164 = .ok (.iload 9, 2) := by decide +kernel
theorem dX5_putRecord_166 : decode cX5_putRecord 166 = .ok (.iadd, 1) := by decide +kernel
theorem dX5_putRecord_167 : decode cX5_putRecord 167 = .ok (.aload_n 0, 1) := by decide +kernel
theorem dX5_putRecord_168 : decode cX5_putRecord 168 = .ok (.bipush 16, 2) := by decide +kernel
theorem dX5_putRecord_170 : decode cX5_putRecord 170 = .ok (.iload 7, 2) := by decide +kernel
theorem dX5_putRecord_172 : decode cX5_putRecord 172 = .ok (.imul, 1) := by decide +kernel
theorem dX5_putRecord_173 : decode cX5_putRecord 173 = .ok (.iconst 4, 1) := by decide +kernel
theorem dX5_putRecord_174 : decode cX5_putRecord 174 = .ok (.iload 9, 2) := by decide +kernel
theorem dX5_putRecord_176 : decode cX5_putRecord 176 = .ok (.imul, 1) := by decide +kernel
theorem dX5_putRecord_177 : decode cX5_putRecord 177 = .ok (.iadd, 1) := by decide +kernel
theorem dX5_putRecord_178 : decode cX5_putRecord 178 = .ok (.invokevirtual 118, 3) := by decide +kernel
theorem dX5_putRecord_181 : decode cX5_putRecord 181 = .ok (.iastore, 1) := by decide +kernel
theorem dX5_putRecord_182 : decode cX5_putRecord 182 = .ok (.iinc 9 1, 3) := by decide +kernel
theorem dX5_putRecord_185 : decode cX5_putRecord 185 = .ok (.goto (-35), 3) := by decide +kernel
theorem dX5_putRecord_188 : decode cX5_putRecord 188 = .ok (.iinc 6 1, 3) := by decide +kernel
theorem dX5_putRecord_191 : decode cX5_putRecord 191 = .ok (.iinc 7 1, 3) := by decide +kernel
theorem dX5_putRecord_194 : decode cX5_putRecord 194 = .ok (.goto (-140), 3) := by decide +kernel
theorem dX5_putRecord_197 : decode cX5_putRecord 197 = .ok (.iload 4, 2) := by decide +kernel
theorem dX5_putRecord_199 : decode cX5_putRecord 199 = .ok (.ireturn, 1) := by decide +kernel
set_option maxRecDepth 20000 in
theorem ggX5_commit_X5_takeTape : GoodIn wsX5_commit wsX5_takeTape := goodIn_r _ [11, 12, 4, 6, 13, 71, 72, 73, 74, 75, 76, 77, 78, 79, 80, 81, 82, 83, 84, 85] (by decide +kernel) (by decide +kernel)
set_option maxRecDepth 20000 in
theorem gX5_commit_X5_takeTape : GoodIn wsX5_commit (wsV RX5 69 RX5 yX5_takeTape wsX5_takeTape) := goodIn_app (goodIn_of _ (by decide +kernel)) ggX5_commit_X5_takeTape
set_option maxRecDepth 20000 in
theorem ggX5_commit_X5_code : GoodIn wsX5_commit wsX5_code := goodIn_r _ [17, 3, 4, 5, 6, 18, 19, 20, 10, 21, 22, 23, 24, 25, 71, 72, 73, 74, 75, 76, 77, 78, 79, 80, 81, 82, 83, 84, 85] (by decide +kernel) (by decide +kernel)
set_option maxRecDepth 20000 in
theorem gX5_commit_X5_code : GoodIn wsX5_commit (wsV RX5 72 RX5 yX5_code wsX5_code) := goodIn_app (goodIn_of _ (by decide +kernel)) ggX5_commit_X5_code
set_option maxRecDepth 20000 in
theorem ggX5_commit_X5_putRecord : GoodIn wsX5_commit wsX5_putRecord := goodIn_r _ [29, 3, 30, 31, 32, 33, 34, 35, 10, 36, 37, 38, 39, 40, 41, 42, 43, 44, 45, 46, 47, 48, 49, 50, 51, 52, 53, 54, 55, 56, 57, 58, 59, 60, 61, 62, 63, 64, 65, 2, 66, 67, 68, 69, 70, 5, 71, 72, 73, 74, 75, 76, 77, 78, 79, 80, 81, 82, 83, 84, 85] (by decide +kernel) (by decide +kernel)
set_option maxRecDepth 20000 in
theorem gX5_commit_X5_putRecord : GoodIn wsX5_commit (wsV RX5 121 RX5 yX5_putRecord wsX5_putRecord) := goodIn_app (goodIn_of _ (by decide +kernel)) ggX5_commit_X5_putRecord
theorem dX5_commit_0 : decode cX5_commit 0 = .ok (.aload_n 0, 1) := by decide +kernel
theorem dX5_commit_1 : decode cX5_commit 1 = .ok (.iconst 0, 1) := by decide +kernel
theorem dX5_commit_2 : decode cX5_commit 2 = .ok (.putfield 43, 3) := by decide +kernel
theorem dX5_commit_5 : decode cX5_commit 5 = .ok (.aload_n 0, 1) := by decide +kernel
theorem dX5_commit_6 : decode cX5_commit 6 = .ok (.getfield 16, 3) := by decide +kernel
theorem dX5_commit_9 : decode cX5_commit 9 = .ok (.ifCond .ne 6, 3) := by decide +kernel
theorem dX5_commit_12 : decode cX5_commit 12 = .ok (.bipush (-4), 2) := by decide +kernel
theorem dX5_commit_14 : decode cX5_commit 14 = .ok (.ireturn, 1) := by decide +kernel
theorem dX5_commit_15 : decode cX5_commit 15 = .ok (.aload_n 0, 1) := by decide +kernel
theorem dX5_commit_16 : decode cX5_commit 16 = .ok (.invokevirtual 69, 3) := by decide +kernel
theorem dX5_commit_19 : decode cX5_commit 19 = .ok (.aload_n 0, 1) := by decide +kernel
theorem dX5_commit_20 : decode cX5_commit 20 = .ok (.invokevirtual 72, 3) := by decide +kernel
theorem dX5_commit_23 : decode cX5_commit 23 = .ok (.aload_n 0, 1) := by decide +kernel
theorem dX5_commit_24 : decode cX5_commit 24 = .ok (.getfield 51, 3) := by decide +kernel
theorem dX5_commit_27 : decode cX5_commit 27 = .ok (.aload_n 0, 1) := by decide +kernel
theorem dX5_commit_28 : decode cX5_commit 28 = .ok (.getfield 48, 3) := by decide +kernel
theorem dX5_commit_31 : decode cX5_commit 31 = .ok (.if_icmp .ge 7, 3) := by decide +kernel
theorem dX5_commit_34 : decode cX5_commit 34 = .ok (.iconst 1, 1) := by decide +kernel
theorem dX5_commit_35 : decode cX5_commit 35 = .ok (.goto 4, 3) := by decide +kernel
theorem dX5_commit_38 : decode cX5_commit 38 = .ok (.iconst 0, 1) := by decide +kernel
theorem dX5_commit_39 : decode cX5_commit 39 = .ok (.istore_n 2, 1) := by decide +kernel
theorem dX5_commit_40 : decode cX5_commit 40 = .ok (.iload_n 2, 1) := by decide +kernel
theorem dX5_commit_41 : decode cX5_commit 41 = .ok (.ifCond .ne 39, 3) := by decide +kernel
theorem dX5_commit_44 : decode cX5_commit 44 = .ok (.aload_n 0, 1) := by decide +kernel
theorem dX5_commit_45 : decode cX5_commit 45 = .ok (.aload_n 0, 1) := by decide +kernel
theorem dX5_commit_46 : decode cX5_commit 46 = .ok (.getfield 48, 3) := by decide +kernel
theorem dX5_commit_49 : decode cX5_commit 49 = .ok (.putfield 51, 3) := by decide +kernel
theorem dX5_commit_52 : decode cX5_commit 52 = .ok (.iconst 0, 1) := by decide +kernel
theorem dX5_commit_53 : decode cX5_commit 53 = .ok (.istore_n 3, 1) := by decide +kernel
theorem dX5_commit_54 : decode cX5_commit 54 = .ok (.iload_n 3, 1) := by decide +kernel
theorem dX5_commit_55 : decode cX5_commit 55 = .ok (.aload_n 0, 1) := by decide +kernel
theorem dX5_commit_56 : decode cX5_commit 56 = .ok (.getfield 48, 3) := by decide +kernel
theorem dX5_commit_59 : decode cX5_commit 59 = .ok (.if_icmp .ge 21, 3) := by decide +kernel
theorem dX5_commit_62 : decode cX5_commit 62 = .ok (.aload_n 0, 1) := by decide +kernel
theorem dX5_commit_63 : decode cX5_commit 63 = .ok (.getfield 30, 3) := by decide +kernel
theorem dX5_commit_66 : decode cX5_commit 66 = .ok (.iload_n 3, 1) := by decide +kernel
theorem dX5_commit_67 : decode cX5_commit 67 = .ok (.aload_n 0, 1) := by decide +kernel
theorem dX5_commit_68 : decode cX5_commit 68 = .ok (.getfield 33, 3) := by decide +kernel
theorem dX5_commit_71 : decode cX5_commit 71 = .ok (.iload_n 3, 1) := by decide +kernel
theorem dX5_commit_72 : decode cX5_commit 72 = .ok (.iaload, 1) := by decide +kernel
theorem dX5_commit_73 : decode cX5_commit 73 = .ok (.iastore, 1) := by decide +kernel
theorem dX5_commit_74 : decode cX5_commit 74 = .ok (.iinc 3 1, 3) := by decide +kernel
theorem dX5_commit_77 : decode cX5_commit 77 = .ok (.goto (-23), 3) := by decide +kernel
theorem dX5_commit_80 : decode cX5_commit 80 = .ok (.aload_n 0, 1) := by decide +kernel
theorem dX5_commit_81 : decode cX5_commit 81 = .ok (.iload_n 1, 1) := by decide +kernel
theorem dX5_commit_82 : decode cX5_commit 82 = .ok (.iload_n 2, 1) := by decide +kernel
theorem dX5_commit_83 : decode cX5_commit 83 = .ok (.invokevirtual 121, 3) := by decide +kernel
theorem dX5_commit_86 : decode cX5_commit 86 = .ok (.ireturn, 1) := by decide +kernel
set_option maxRecDepth 20000 in
theorem ggX5_delete_X5_find : GoodIn wsX5_delete wsX5_find := goodIn_r _ [8, 9, 10, 11, 7, 12, 13, 14, 15, 16, 17, 18, 19, 20, 21, 22, 23, 24, 25, 26, 27, 28, 29, 30, 31, 32, 33, 63, 64, 65, 66, 67, 68, 69, 70, 71, 72, 73, 74, 75, 76, 77] (by decide +kernel) (by decide +kernel)
set_option maxRecDepth 20000 in
theorem gX5_delete_X5_find : GoodIn wsX5_delete (wsV RX5 124 RX5 yX5_find wsX5_find) := goodIn_app (goodIn_of _ (by decide +kernel)) ggX5_delete_X5_find
set_option maxRecDepth 20000 in
theorem ggX5_delete_X5_formOf : GoodIn wsX5_delete wsX5_formOf := goodIn_r _ [37, 13, 63, 64, 65, 66, 67, 68, 69, 70, 71, 72, 73, 74, 75, 76, 77] (by decide +kernel) (by decide +kernel)
set_option maxRecDepth 20000 in
theorem gX5_delete_X5_formOf : GoodIn wsX5_delete (wsV RX5 101 RX5 yX5_formOf wsX5_formOf) := goodIn_app (goodIn_of _ (by decide +kernel)) ggX5_delete_X5_formOf
set_option maxRecDepth 20000 in
theorem ggX5_delete_X5_putRecord : GoodIn wsX5_delete wsX5_putRecord := goodIn_r _ [41, 3, 42, 13, 43, 44, 45, 46, 7, 47, 9, 10, 11, 12, 48, 49, 50, 51, 22, 23, 24, 25, 26, 27, 28, 29, 30, 31, 32, 33, 14, 15, 16, 17, 52, 53, 54, 55, 56, 2, 57, 58, 59, 60, 61, 62, 63, 64, 65, 66, 67, 68, 69, 70, 71, 72, 73, 74, 75, 76, 77] (by decide +kernel) (by decide +kernel)
set_option maxRecDepth 20000 in
theorem gX5_delete_X5_putRecord : GoodIn wsX5_delete (wsV RX5 121 RX5 yX5_putRecord wsX5_putRecord) := goodIn_app (goodIn_of _ (by decide +kernel)) ggX5_delete_X5_putRecord
theorem dX5_delete_0 : decode cX5_delete 0 = .ok (.aload_n 0, 1) := by decide +kernel
theorem dX5_delete_1 : decode cX5_delete 1 = .ok (.iconst 0, 1) := by decide +kernel
theorem dX5_delete_2 : decode cX5_delete 2 = .ok (.putfield 43, 3) := by decide +kernel
theorem dX5_delete_5 : decode cX5_delete 5 = .ok (.aload_n 0, 1) := by decide +kernel
theorem dX5_delete_6 : decode cX5_delete 6 = .ok (.getfield 16, 3) := by decide +kernel
theorem dX5_delete_9 : decode cX5_delete 9 = .ok (.ifCond .ne 6, 3) := by decide +kernel
theorem dX5_delete_12 : decode cX5_delete 12 = .ok (.bipush (-4), 2) := by decide +kernel
theorem dX5_delete_14 : decode cX5_delete 14 = .ok (.ireturn, 1) := by decide +kernel
theorem dX5_delete_15 : decode cX5_delete 15 = .ok (.aload_n 0, 1) := by decide +kernel
theorem dX5_delete_16 : decode cX5_delete 16 = .ok (.iload_n 1, 1) := by decide +kernel
theorem dX5_delete_17 : decode cX5_delete 17 = .ok (.invokevirtual 124, 3) := by decide +kernel
theorem dX5_delete_20 : decode cX5_delete 20 = .ok (.istore_n 2, 1) := by decide +kernel
theorem dX5_delete_21 : decode cX5_delete 21 = .ok (.iload_n 2, 1) := by decide +kernel
theorem dX5_delete_22 : decode cX5_delete 22 = .ok (.ifCond .lt 12, 3) := by decide +kernel
theorem dX5_delete_25 : decode cX5_delete 25 = .ok (.aload_n 0, 1) := by decide +kernel
theorem dX5_delete_26 : decode cX5_delete 26 = .ok (.iload_n 2, 1) := by decide +kernel
theorem dX5_delete_27 : decode cX5_delete 27 = .ok (.invokevirtual 101, 3) := by decide +kernel
theorem dX5_delete_30 : decode cX5_delete 30 = .ok (.iconst 2, 1) := by decide +kernel
theorem dX5_delete_31 : decode cX5_delete 31 = .ok (.if_icmp .ne 6, 3) := by decide +kernel
theorem dX5_delete_34 : decode cX5_delete 34 = .ok (.bipush (-2), 2) := by decide +kernel
theorem dX5_delete_36 : decode cX5_delete 36 = .ok (.ireturn, 1) := by decide +kernel
theorem dX5_delete_37 : decode cX5_delete 37 = .ok (.aload_n 0, 1) := by decide +kernel
theorem dX5_delete_38 : decode cX5_delete 38 = .ok (.iconst 0, 1) := by decide +kernel
theorem dX5_delete_39 : decode cX5_delete 39 = .ok (.putfield 51, 3) := by decide +kernel
theorem dX5_delete_42 : decode cX5_delete 42 = .ok (.aload_n 0, 1) := by decide +kernel
theorem dX5_delete_43 : decode cX5_delete 43 = .ok (.iload_n 1, 1) := by decide +kernel
theorem dX5_delete_44 : decode cX5_delete 44 = .ok (.iconst 2, 1) := by decide +kernel
theorem dX5_delete_45 : decode cX5_delete 45 = .ok (.invokevirtual 121, 3) := by decide +kernel
theorem dX5_delete_48 : decode cX5_delete 48 = .ok (.ireturn, 1) := by decide +kernel
set_option maxRecDepth 20000 in
theorem ggX5_load_X5_find : GoodIn wsX5_load wsX5_find := goodIn_r _ [13, 14, 15, 16, 12, 17, 3, 18, 19, 20, 21, 22, 23, 24, 25, 26, 27, 28, 29, 30, 31, 32, 33, 34, 35, 36, 37, 60, 61, 62, 63, 64, 65, 66, 67, 68, 69, 70, 71, 72, 73, 74] (by decide +kernel) (by decide +kernel)
set_option maxRecDepth 20000 in
theorem gX5_load_X5_find : GoodIn wsX5_load (wsV RX5 124 RX5 yX5_find wsX5_find) := goodIn_app (goodIn_of _ (by decide +kernel)) ggX5_load_X5_find
set_option maxRecDepth 20000 in
theorem ggX5_load_X5_formOf : GoodIn wsX5_load wsX5_formOf := goodIn_r _ [41, 3, 60, 61, 62, 63, 64, 65, 66, 67, 68, 69, 70, 71, 72, 73, 74] (by decide +kernel) (by decide +kernel)
set_option maxRecDepth 20000 in
theorem gX5_load_X5_formOf : GoodIn wsX5_load (wsV RX5 101 RX5 yX5_formOf wsX5_formOf) := goodIn_app (goodIn_of _ (by decide +kernel)) ggX5_load_X5_formOf
set_option maxRecDepth 20000 in
theorem ggX5_load_X5_partOf : GoodIn wsX5_load wsX5_partOf := goodIn_r _ [25, 3, 60, 61, 62, 63, 64, 65, 66, 67, 68, 69, 70, 71, 72, 73, 74] (by decide +kernel) (by decide +kernel)
set_option maxRecDepth 20000 in
theorem gX5_load_X5_partOf : GoodIn wsX5_load (wsV RX5 95 RX5 yX5_partOf wsX5_partOf) := goodIn_app (goodIn_of _ (by decide +kernel)) ggX5_load_X5_partOf
set_option maxRecDepth 20000 in
theorem ggX5_load_X5_numberOf : GoodIn wsX5_load wsX5_numberOf := goodIn_r _ [17, 3, 60, 61, 62, 63, 64, 65, 66, 67, 68, 69, 70, 71, 72, 73, 74] (by decide +kernel) (by decide +kernel)
set_option maxRecDepth 20000 in
theorem gX5_load_X5_numberOf : GoodIn wsX5_load (wsV RX5 82 RX5 yX5_numberOf wsX5_numberOf) := goodIn_app (goodIn_of _ (by decide +kernel)) ggX5_load_X5_numberOf
set_option maxRecDepth 20000 in
theorem ggX5_load_X5_decode : GoodIn wsX5_load wsX5_decode := goodIn_r _ [45, 6, 4, 5, 7, 46, 47, 48, 12, 49, 50, 51, 52, 53, 54, 60, 61, 62, 63, 64, 65, 66, 67, 68, 69, 70, 71, 72, 73, 74] (by decide +kernel) (by decide +kernel)
set_option maxRecDepth 20000 in
theorem gX5_load_X5_decode : GoodIn wsX5_load (wsV RX5 78 RX5 yX5_decode wsX5_decode) := goodIn_app (goodIn_of _ (by decide +kernel)) ggX5_load_X5_decode
set_option maxRecDepth 20000 in
theorem ggX5_load_X5_load0 : GoodIn wsX5_load wsX5_load0 := goodIn_r _ [58, 6, 8, 59, 7, 60, 61, 62, 63, 64, 65, 66, 67, 68, 69, 70, 71, 72, 73, 74] (by decide +kernel) (by decide +kernel)
set_option maxRecDepth 20000 in
theorem gX5_load_X5_load0 : GoodIn wsX5_load (wsV RX5 75 RX5 yX5_load0 wsX5_load0) := goodIn_app (goodIn_of _ (by decide +kernel)) ggX5_load_X5_load0
theorem dX5_load_0 : decode cX5_load 0 = .ok (.aload_n 0, 1) := by decide +kernel
theorem dX5_load_1 : decode cX5_load 1 = .ok (.iconst 0, 1) := by decide +kernel
theorem dX5_load_2 : decode cX5_load 2 = .ok (.putfield 43, 3) := by decide +kernel
theorem dX5_load_5 : decode cX5_load 5 = .ok (.aload_n 0, 1) := by decide +kernel
theorem dX5_load_6 : decode cX5_load 6 = .ok (.getfield 16, 3) := by decide +kernel
theorem dX5_load_9 : decode cX5_load 9 = .ok (.ifCond .ne 6, 3) := by decide +kernel
theorem dX5_load_12 : decode cX5_load 12 = .ok (.bipush (-4), 2) := by decide +kernel
theorem dX5_load_14 : decode cX5_load 14 = .ok (.ireturn, 1) := by decide +kernel
theorem dX5_load_15 : decode cX5_load 15 = .ok (.aload_n 0, 1) := by decide +kernel
theorem dX5_load_16 : decode cX5_load 16 = .ok (.iload_n 1, 1) := by decide +kernel
theorem dX5_load_17 : decode cX5_load 17 = .ok (.invokevirtual 124, 3) := by decide +kernel
theorem dX5_load_20 : decode cX5_load 20 = .ok (.istore_n 2, 1) := by decide +kernel
theorem dX5_load_21 : decode cX5_load 21 = .ok (.iload_n 2, 1) := by decide +kernel
theorem dX5_load_22 : decode cX5_load 22 = .ok (.ifCond .lt 12, 3) := by decide +kernel
theorem dX5_load_25 : decode cX5_load 25 = .ok (.aload_n 0, 1) := by decide +kernel
theorem dX5_load_26 : decode cX5_load 26 = .ok (.iload_n 2, 1) := by decide +kernel
theorem dX5_load_27 : decode cX5_load 27 = .ok (.invokevirtual 101, 3) := by decide +kernel
theorem dX5_load_30 : decode cX5_load 30 = .ok (.iconst 2, 1) := by decide +kernel
theorem dX5_load_31 : decode cX5_load 31 = .ok (.if_icmp .ne 6, 3) := by decide +kernel
theorem dX5_load_34 : decode cX5_load 34 = .ok (.bipush (-2), 2) := by decide +kernel
theorem dX5_load_36 : decode cX5_load 36 = .ok (.ireturn, 1) := by decide +kernel
theorem dX5_load_37 : decode cX5_load 37 = .ok (.aload_n 0, 1) := by decide +kernel
theorem dX5_load_38 : decode cX5_load 38 = .ok (.aload_n 0, 1) := by decide +kernel
theorem dX5_load_39 : decode cX5_load 39 = .ok (.getfield 7, 3) := by decide +kernel
theorem dX5_load_42 : decode cX5_load 42 = .ok (.bipush 8, 2) := by decide +kernel
theorem dX5_load_44 : decode cX5_load 44 = .ok (.iload_n 2, 1) := by decide +kernel
theorem dX5_load_45 : decode cX5_load 45 = .ok (.imul, 1) := by decide +kernel
theorem dX5_load_46 : decode cX5_load 46 = .ok (.iconst 3, 1) := by decide +kernel
theorem dX5_load_47 : decode cX5_load 47 = .ok (.iadd, 1) := by decide +kernel
theorem dX5_load_48 : decode cX5_load 48 = .ok (.iaload, 1) := by decide +kernel
theorem dX5_load_49 : decode cX5_load 49 = .ok (.putfield 48, 3) := by decide +kernel
theorem dX5_load_52 : decode cX5_load 52 = .ok (.iconst 0, 1) := by decide +kernel
theorem dX5_load_53 : decode cX5_load 53 = .ok (.istore_n 3, 1) := by decide +kernel
theorem dX5_load_54 : decode cX5_load 54 = .ok (.iload_n 3, 1) := by decide +kernel
theorem dX5_load_55 : decode cX5_load 55 = .ok (.bipush 64, 2) := by decide +kernel
theorem dX5_load_57 : decode cX5_load 57 = .ok (.if_icmp .ge 101, 3) := by decide +kernel
theorem dX5_load_60 : decode cX5_load 60 = .ok (.aload_n 0, 1) := by decide +kernel
theorem dX5_load_61 : decode cX5_load 61 = .ok (.iload_n 3, 1) := by decide +kernel
theorem dX5_load_62 : decode cX5_load 62 = .ok (.invokevirtual 95, 3) := by decide +kernel
theorem dX5_load_65 : decode cX5_load 65 = .ok (.istore 4, 2) := by decide +kernel
theorem dX5_load_67 : decode cX5_load 67 = .ok (.iconst 0, 1) := by decide +kernel
theorem dX5_load_68 : decode cX5_load 68 = .ok (.istore 5, 2) := by decide +kernel
theorem dX5_load_70 : decode cX5_load 70 = .ok (.iload 5, 2) := by decide +kernel
theorem dX5_load_72 : decode cX5_load 72 = .ok (.bipush 16, 2) := by decide +kernel
theorem dX5_load_74 : decode cX5_load 74 = .ok (.if_icmp .ge 78, 3) := by decide +kernel
theorem dX5_load_77 : decode cX5_load 77 = .ok (.aload_n 0, 1) := by decide +kernel
theorem dX5_load_78 : decode cX5_load 78 = .ok (.iload_n 3, 1) := by decide +kernel
theorem dX5_load_79 : decode cX5_load 79 = .ok (.invokevirtual 82, 3) := by decide +kernel
theorem dX5_load_82 : decode cX5_load 82 = .ok (.aload_n 0, 1) := by decide +kernel
theorem dX5_load_83 : decode cX5_load 83 = .ok (.iload_n 2, 1) := by decide +kernel
theorem dX5_load_84 : decode cX5_load 84 = .ok (.invokevirtual 82, 3) := by decide +kernel
theorem dX5_load_87 : decode cX5_load 87 = .ok (.if_icmp .ne 65, 3) := by decide +kernel
theorem dX5_load_90 : decode cX5_load 90 = .ok (.bipush 16, 2) := by decide +kernel
theorem dX5_load_92 : decode cX5_load 92 = .ok (.iload 4, 2) := by decide +kernel
theorem dX5_load_94 : decode cX5_load 94 = .ok (.imul, 1) := by decide +kernel
theorem dX5_load_95 : decode cX5_load 95 = .ok (.iload 5, 2) := by decide +kernel
theorem dX5_load_97 : decode cX5_load 97 = .ok (.iadd, 1) := by decide +kernel
theorem dX5_load_98 : decode cX5_load 98 = .ok (.aload_n 0, 1) := by decide +kernel
theorem dX5_load_99 : decode cX5_load 99 = .ok (.getfield 48, 3) := by decide +kernel
theorem dX5_load_102 : decode cX5_load 102 = .ok (.if_icmp .ge 44, 3) := by decide +kernel
theorem dX5_load_105 : decode cX5_load 105 = .ok (.aload_n 0, 1) := by decide +kernel
theorem dX5_load_106 : decode cX5_load 106 = .ok (.getfield 33, 3) := by decide +kernel
theorem dX5_load_109 : decode cX5_load 109 = .ok (.bipush 16, 2) := by decide +kernel
theorem dX5_load_111 : decode cX5_load 111 = .ok (.iload 4, 2) := by decide +kernel
theorem dX5_load_113 : decode cX5_load 113 = .ok (.imul, 1) := by decide +kernel
theorem dX5_load_114 : decode cX5_load 114 = .ok (.iload 5, 2) := by decide +kernel
theorem dX5_load_116 : decode cX5_load 116 = .ok (.iadd, 1) := by decide +kernel
theorem dX5_load_117 : decode cX5_load 117 = .ok (.aload_n 0, 1) := by decide +kernel
theorem dX5_load_118 : decode cX5_load 118 = .ok (.getfield 7, 3) := by decide +kernel
theorem dX5_load_121 : decode cX5_load 121 = .ok (.bipush 8, 2) := by decide +kernel
theorem dX5_load_123 : decode cX5_load 123 = .ok (.iload_n 3, 1) := by decide +kernel
theorem dX5_load_124 : decode cX5_load 124 = .ok (.imul, 1) := by decide +kernel
theorem dX5_load_125 : decode cX5_load 125 = .ok (.iconst 4, 1) := by decide +kernel
theorem dX5_load_126 : decode cX5_load 126 = .ok (.iadd, 1) := by decide +kernel
theorem dX5_load_127 : decode cX5_load 127 = .ok (.iload 5, 2) := by decide +kernel
theorem dX5_load_129 : decode cX5_load 129 = .ok (.iconst 4, 1) := by decide +kernel
theorem dX5_load_130 : decode cX5_load 130 = .ok (.idiv, 1) := by decide +kernel
theorem dX5_load_131 : decode cX5_load 131 = .ok (.iadd, 1) := by decide +kernel
theorem dX5_load_132 : decode cX5_load 132 = .ok (.iaload, 1) := by decide +kernel
theorem dX5_load_133 : decode cX5_load 133 = .ok (.bipush 8, 2) := by decide +kernel
theorem dX5_load_135 : decode cX5_load 135 = .ok (.iload 5, 2) := by decide +kernel
theorem dX5_load_137 : decode cX5_load 137 = .ok (.iconst 4, 1) := by decide +kernel
theorem dX5_load_138 : decode cX5_load 138 = .ok (.irem, 1) := by decide +kernel
theorem dX5_load_139 : decode cX5_load 139 = .ok (.imul, 1) := by decide +kernel
theorem dX5_load_140 : decode cX5_load 140 = .ok (.ishr, 1) := by decide +kernel
theorem dX5_load_141 : decode cX5_load 141 = .ok (.sipush 255, 3) := by decide +kernel
theorem dX5_load_144 : decode cX5_load 144 = .ok (.iand, 1) := by decide +kernel
theorem dX5_load_145 : decode cX5_load 145 = .ok (.iastore, 1) := by decide +kernel
theorem dX5_load_146 : decode cX5_load 146 = .ok (.iinc 5 1, 3) := by decide +kernel
theorem dX5_load_149 : decode cX5_load 149 = .ok (.goto (-79), 3) := by decide +kernel
theorem dX5_load_152 : decode cX5_load 152 = .ok (.iinc 3 1, 3) := by decide +kernel
theorem dX5_load_155 : decode cX5_load 155 = .ok (.goto (-101), 3) := by decide +kernel
theorem dX5_load_158 : decode cX5_load 158 = .ok (.aload_n 0, 1) := by decide +kernel
theorem dX5_load_159 : decode cX5_load 159 = .ok (.iload_n 2, 1) := by decide +kernel
theorem dX5_load_160 : decode cX5_load 160 = .ok (.invokevirtual 101, 3) := by decide +kernel
theorem dX5_load_163 : decode cX5_load 163 = .ok (.iconst 1, 1) := by decide +kernel
theorem dX5_load_164 : decode cX5_load 164 = .ok (.if_icmp .ne 11, 3) := by decide +kernel
theorem dX5_load_167 : decode cX5_load 167 = .ok (.aload_n 0, 1) := by decide +kernel
theorem dX5_load_168 : decode cX5_load 168 = .ok (.invokevirtual 78, 3) := by decide +kernel
theorem dX5_load_171 : decode cX5_load 171 = .ok (.istore_n 3, 1) := by decide +kernel
theorem dX5_load_172 : decode cX5_load 172 = .ok (.goto 39, 3) := by decide +kernel
theorem dX5_load_175 : decode cX5_load 175 = .ok (.aload_n 0, 1) := by decide +kernel
theorem dX5_load_176 : decode cX5_load 176 = .ok (.aload_n 0, 1) := by decide +kernel
theorem dX5_load_177 : decode cX5_load 177 = .ok (.getfield 48, 3) := by decide +kernel
theorem dX5_load_180 : decode cX5_load 180 = .ok (.putfield 51, 3) := by decide +kernel
theorem dX5_load_183 : decode cX5_load 183 = .ok (.iconst 0, 1) := by decide +kernel
theorem dX5_load_184 : decode cX5_load 184 = .ok (.istore_n 3, 1) := by decide +kernel
theorem dX5_load_185 : decode cX5_load 185 = .ok (.iload_n 3, 1) := by decide +kernel
theorem dX5_load_186 : decode cX5_load 186 = .ok (.aload_n 0, 1) := by decide +kernel
theorem dX5_load_187 : decode cX5_load 187 = .ok (.getfield 48, 3) := by decide +kernel
theorem dX5_load_190 : decode cX5_load 190 = .ok (.if_icmp .ge 21, 3) := by decide +kernel
theorem dX5_load_193 : decode cX5_load 193 = .ok (.aload_n 0, 1) := by decide +kernel
theorem dX5_load_194 : decode cX5_load 194 = .ok (.getfield 30, 3) := by decide +kernel
theorem dX5_load_197 : decode cX5_load 197 = .ok (.iload_n 3, 1) := by decide +kernel
theorem dX5_load_198 : decode cX5_load 198 = .ok (.aload_n 0, 1) := by decide +kernel
theorem dX5_load_199 : decode cX5_load 199 = .ok (.getfield 33, 3) := by decide +kernel
theorem dX5_load_202 : decode cX5_load 202 = .ok (.iload_n 3, 1) := by decide +kernel
theorem dX5_load_203 : decode cX5_load 203 = .ok (.iaload, 1) := by decide +kernel
theorem dX5_load_204 : decode cX5_load 204 = .ok (.iastore, 1) := by decide +kernel
theorem dX5_load_205 : decode cX5_load 205 = .ok (.iinc 3 1, 3) := by decide +kernel
theorem dX5_load_208 : decode cX5_load 208 = .ok (.goto (-23), 3) := by decide +kernel
theorem dX5_load_211 : decode cX5_load 211 = .ok (.aload_n 0, 1) := by decide +kernel
theorem dX5_load_212 : decode cX5_load 212 = .ok (.invokevirtual 75, 3) := by decide +kernel
theorem dX5_load_215 : decode cX5_load 215 = .ok (.aload_n 0, 1) := by decide +kernel
theorem dX5_load_216 : decode cX5_load 216 = .ok (.getfield 66, 3) := by decide +kernel
theorem dX5_load_219 : decode cX5_load 219 = .ok (.ireturn, 1) := by decide +kernel
set_option maxRecDepth 20000 in
theorem ggX5_zero_X5_mayWrite : GoodIn wsX5_zero wsX5_mayWrite := goodIn_r _ [6, 7, 8, 9, 10, 11, 12, 13, 14, 15, 16, 17, 18, 19, 20, 21, 22, 23, 24] (by decide +kernel) (by decide +kernel)
set_option maxRecDepth 20000 in
theorem gX5_zero_X5_mayWrite : GoodIn wsX5_zero (wsV RX5 114 RX5 yX5_mayWrite wsX5_mayWrite) := goodIn_app (goodIn_of _ (by decide +kernel)) ggX5_zero_X5_mayWrite
theorem dX5_zero_0 : decode cX5_zero 0 = .ok (.aload_n 0, 1) := by decide +kernel
theorem dX5_zero_1 : decode cX5_zero 1 = .ok (.invokevirtual 114, 3) := by decide +kernel
theorem dX5_zero_4 : decode cX5_zero 4 = .ok (.ifCond .ne 5, 3) := by decide +kernel
theorem dX5_zero_7 : decode cX5_zero 7 = .ok (.iconst 0, 1) := by decide +kernel
theorem dX5_zero_8 : decode cX5_zero 8 = .ok (.ireturn, 1) := by decide +kernel
theorem dX5_zero_9 : decode cX5_zero 9 = .ok (.bipush 8, 2) := by decide +kernel
theorem dX5_zero_11 : decode cX5_zero 11 = .ok (.iload_n 1, 1) := by decide +kernel
theorem dX5_zero_12 : decode cX5_zero 12 = .ok (.imul, 1) := by decide +kernel
theorem dX5_zero_13 : decode cX5_zero 13 = .ok (.istore_n 2, 1) := by decide +kernel
theorem dX5_zero_14 : decode cX5_zero 14 = .ok (.iload_n 2, 1) := by decide +kernel
theorem dX5_zero_15 : decode cX5_zero 15 = .ok (.bipush 8, 2) := by decide +kernel
theorem dX5_zero_17 : decode cX5_zero 17 = .ok (.iload_n 1, 1) := by decide +kernel
theorem dX5_zero_18 : decode cX5_zero 18 = .ok (.imul, 1) := by decide +kernel
theorem dX5_zero_19 : decode cX5_zero 19 = .ok (.bipush 8, 2) := by decide +kernel
theorem dX5_zero_21 : decode cX5_zero 21 = .ok (.iadd, 1) := by decide +kernel
theorem dX5_zero_22 : decode cX5_zero 22 = .ok (.if_icmp .ge 16, 3) := by decide +kernel
theorem dX5_zero_25 : decode cX5_zero 25 = .ok (.aload_n 0, 1) := by decide +kernel
theorem dX5_zero_26 : decode cX5_zero 26 = .ok (.getfield 7, 3) := by decide +kernel
theorem dX5_zero_29 : decode cX5_zero 29 = .ok (.iload_n 2, 1) := by decide +kernel
theorem dX5_zero_30 : decode cX5_zero 30 = .ok (.iconst 0, 1) := by decide +kernel
theorem dX5_zero_31 : decode cX5_zero 31 = .ok (.iastore, 1) := by decide +kernel
theorem dX5_zero_32 : decode cX5_zero 32 = .ok (.iinc 2 1, 3) := by decide +kernel
theorem dX5_zero_35 : decode cX5_zero 35 = .ok (.goto (-21), 3) := by decide +kernel
theorem dX5_zero_38 : decode cX5_zero 38 = .ok (.iconst 1, 1) := by decide +kernel
theorem dX5_zero_39 : decode cX5_zero 39 = .ok (.ireturn, 1) := by decide +kernel
set_option maxRecDepth 20000 in
theorem ggX5_clean_X5_findLive : GoodIn wsX5_clean wsX5_findLive := goodIn_r _ [8, 3, 9, 10, 11, 7, 12, 13, 14, 15, 16, 17, 18, 19, 20, 21, 22, 23, 24, 25, 26, 27, 28, 29, 44, 45, 46, 47, 48, 49, 50, 51, 52, 53, 54, 55, 56, 57, 58] (by decide +kernel) (by decide +kernel)
set_option maxRecDepth 20000 in
theorem gX5_clean_X5_findLive : GoodIn wsX5_clean (wsV RX5 111 RX5 yX5_findLive wsX5_findLive) := goodIn_app (goodIn_of _ (by decide +kernel)) ggX5_clean_X5_findLive
set_option maxRecDepth 20000 in
theorem ggX5_clean_X5_numberOf : GoodIn wsX5_clean wsX5_numberOf := goodIn_r _ [20, 21, 44, 45, 46, 47, 48, 49, 50, 51, 52, 53, 54, 55, 56, 57, 58] (by decide +kernel) (by decide +kernel)
set_option maxRecDepth 20000 in
theorem gX5_clean_X5_numberOf : GoodIn wsX5_clean (wsV RX5 82 RX5 yX5_numberOf wsX5_numberOf) := goodIn_app (goodIn_of _ (by decide +kernel)) ggX5_clean_X5_numberOf
set_option maxRecDepth 20000 in
theorem ggX5_clean_X5_zero : GoodIn wsX5_clean wsX5_zero := goodIn_r _ [33, 21, 34, 35, 36, 7, 37, 38, 2, 39, 44, 45, 46, 47, 48, 49, 50, 51, 52, 53, 54, 55, 56, 57, 58] (by decide +kernel) (by decide +kernel)
set_option maxRecDepth 20000 in
theorem gX5_clean_X5_zero : GoodIn wsX5_clean (wsV RX5 127 RX5 yX5_zero wsX5_zero) := goodIn_app (goodIn_of _ (by decide +kernel)) ggX5_clean_X5_zero
set_option maxRecDepth 20000 in
theorem ggX5_clean_X5_formOf : GoodIn wsX5_clean wsX5_formOf := goodIn_r _ [43, 21, 44, 45, 46, 47, 48, 49, 50, 51, 52, 53, 54, 55, 56, 57, 58] (by decide +kernel) (by decide +kernel)
set_option maxRecDepth 20000 in
theorem gX5_clean_X5_formOf : GoodIn wsX5_clean (wsV RX5 101 RX5 yX5_formOf wsX5_formOf) := goodIn_app (goodIn_of _ (by decide +kernel)) ggX5_clean_X5_formOf
theorem dX5_clean_0 : decode cX5_clean 0 = .ok (.aload_n 0, 1) := by decide +kernel
theorem dX5_clean_1 : decode cX5_clean 1 = .ok (.iconst 0, 1) := by decide +kernel
theorem dX5_clean_2 : decode cX5_clean 2 = .ok (.putfield 43, 3) := by decide +kernel
theorem dX5_clean_5 : decode cX5_clean 5 = .ok (.aload_n 0, 1) := by decide +kernel
theorem dX5_clean_6 : decode cX5_clean 6 = .ok (.getfield 16, 3) := by decide +kernel
theorem dX5_clean_9 : decode cX5_clean 9 = .ok (.ifCond .ne 6, 3) := by decide +kernel
theorem dX5_clean_12 : decode cX5_clean 12 = .ok (.bipush (-4), 2) := by decide +kernel
theorem dX5_clean_14 : decode cX5_clean 14 = .ok (.ireturn, 1) := by decide +kernel
theorem dX5_clean_15 : decode cX5_clean 15 = .ok (.iconst 0, 1) := by decide +kernel
theorem dX5_clean_16 : decode cX5_clean 16 = .ok (.istore_n 1, 1) := by decide +kernel
theorem dX5_clean_17 : decode cX5_clean 17 = .ok (.aload_n 0, 1) := by decide +kernel
theorem dX5_clean_18 : decode cX5_clean 18 = .ok (.invokevirtual 111, 3) := by decide +kernel
theorem dX5_clean_21 : decode cX5_clean 21 = .ok (.istore_n 2, 1) := by decide +kernel
theorem dX5_clean_22 : decode cX5_clean 22 = .ok (.iconst 0, 1) := by decide +kernel
theorem dX5_clean_23 : decode cX5_clean 23 = .ok (.istore_n 3, 1) := by decide +kernel
theorem dX5_clean_24 : decode cX5_clean 24 = .ok (.iload_n 3, 1) := by decide +kernel
theorem dX5_clean_25 : decode cX5_clean 25 = .ok (.bipush 64, 2) := by decide +kernel
theorem dX5_clean_27 : decode cX5_clean 27 = .ok (.if_icmp .ge 40, 3) := by decide +kernel
theorem dX5_clean_30 : decode cX5_clean 30 = .ok (.aload_n 0, 1) := by decide +kernel
theorem dX5_clean_31 : decode cX5_clean 31 = .ok (.getfield 36, 3) := by decide +kernel
theorem dX5_clean_34 : decode cX5_clean 34 = .ok (.iload_n 3, 1) := by decide +kernel
theorem dX5_clean_35 : decode cX5_clean 35 = .ok (.baload, 1) := by decide +kernel
theorem dX5_clean_36 : decode cX5_clean 36 = .ok (.ifCond .ne 25, 3) := by decide +kernel
theorem dX5_clean_39 : decode cX5_clean 39 = .ok (.aload_n 0, 1) := by decide +kernel
theorem dX5_clean_40 : decode cX5_clean 40 = .ok (.iload_n 3, 1) := by decide +kernel
theorem dX5_clean_41 : decode cX5_clean 41 = .ok (.invokevirtual 82, 3) := by decide +kernel
theorem dX5_clean_44 : decode cX5_clean 44 = .ok (.ifCond .eq 17, 3) := by decide +kernel
theorem dX5_clean_47 : decode cX5_clean 47 = .ok (.aload_n 0, 1) := by decide +kernel
theorem dX5_clean_48 : decode cX5_clean 48 = .ok (.iload_n 3, 1) := by decide +kernel
theorem dX5_clean_49 : decode cX5_clean 49 = .ok (.invokevirtual 127, 3) := by decide +kernel
theorem dX5_clean_52 : decode cX5_clean 52 = .ok (.ifCond .ne 6, 3) := by decide +kernel
theorem dX5_clean_55 : decode cX5_clean 55 = .ok (.bipush (-4), 2) := by decide +kernel
theorem dX5_clean_57 : decode cX5_clean 57 = .ok (.ireturn, 1) := by decide +kernel
theorem dX5_clean_58 : decode cX5_clean 58 = .ok (.iinc 1 1, 3) := by decide +kernel
theorem dX5_clean_61 : decode cX5_clean 61 = .ok (.iinc 3 1, 3) := by decide +kernel
theorem dX5_clean_64 : decode cX5_clean 64 = .ok (.goto (-40), 3) := by decide +kernel
theorem dX5_clean_67 : decode cX5_clean 67 = .ok (.iconst 0, 1) := by decide +kernel
theorem dX5_clean_68 : decode cX5_clean 68 = .ok (.istore_n 3, 1) := by decide +kernel
theorem dX5_clean_69 : decode cX5_clean 69 = .ok (.iload_n 3, 1) := by decide +kernel
theorem dX5_clean_70 : decode cX5_clean 70 = .ok (.bipush 64, 2) := by decide +kernel
theorem dX5_clean_72 : decode cX5_clean 72 = .ok (.if_icmp .ge 41, 3) := by decide +kernel
theorem dX5_clean_75 : decode cX5_clean 75 = .ok (.aload_n 0, 1) := by decide +kernel
theorem dX5_clean_76 : decode cX5_clean 76 = .ok (.getfield 36, 3) := by decide +kernel
theorem dX5_clean_79 : decode cX5_clean 79 = .ok (.iload_n 3, 1) := by decide +kernel
theorem dX5_clean_80 : decode cX5_clean 80 = .ok (.baload, 1) := by decide +kernel
theorem dX5_clean_81 : decode cX5_clean 81 = .ok (.ifCond .eq 26, 3) := by decide +kernel
theorem dX5_clean_84 : decode cX5_clean 84 = .ok (.aload_n 0, 1) := by decide +kernel
theorem dX5_clean_85 : decode cX5_clean 85 = .ok (.iload_n 3, 1) := by decide +kernel
theorem dX5_clean_86 : decode cX5_clean 86 = .ok (.invokevirtual 101, 3) := by decide +kernel
theorem dX5_clean_89 : decode cX5_clean 89 = .ok (.iconst 2, 1) := by decide +kernel
theorem dX5_clean_90 : decode cX5_clean 90 = .ok (.if_icmp .ne 17, 3) := by decide +kernel
theorem dX5_clean_93 : decode cX5_clean 93 = .ok (.aload_n 0, 1) := by decide +kernel
theorem dX5_clean_94 : decode cX5_clean 94 = .ok (.iload_n 3, 1) := by decide +kernel
theorem dX5_clean_95 : decode cX5_clean 95 = .ok (.invokevirtual 127, 3) := by decide +kernel
theorem dX5_clean_98 : decode cX5_clean 98 = .ok (.ifCond .ne 6, 3) := by decide +kernel
theorem dX5_clean_101 : decode cX5_clean 101 = .ok (.bipush (-4), 2) := by decide +kernel
theorem dX5_clean_103 : decode cX5_clean 103 = .ok (.ireturn, 1) := by decide +kernel
theorem dX5_clean_104 : decode cX5_clean 104 = .ok (.iinc 1 1, 3) := by decide +kernel
theorem dX5_clean_107 : decode cX5_clean 107 = .ok (.iinc 3 1, 3) := by decide +kernel
theorem dX5_clean_110 : decode cX5_clean 110 = .ok (.goto (-41), 3) := by decide +kernel
theorem dX5_clean_113 : decode cX5_clean 113 = .ok (.iload_n 1, 1) := by decide +kernel
theorem dX5_clean_114 : decode cX5_clean 114 = .ok (.ireturn, 1) := by decide +kernel
theorem dX5_power_0 : decode cX5_power 0 = .ok (.aload_n 0, 1) := by decide +kernel
theorem dX5_power_1 : decode cX5_power 1 = .ok (.iload_n 1, 1) := by decide +kernel
theorem dX5_power_2 : decode cX5_power 2 = .ok (.iconst (-1), 1) := by decide +kernel
theorem dX5_power_3 : decode cX5_power 3 = .ok (.if_icmp .lt 10, 3) := by decide +kernel
theorem dX5_power_6 : decode cX5_power 6 = .ok (.iload_n 1, 1) := by decide +kernel
theorem dX5_power_7 : decode cX5_power 7 = .ok (.sipush 1000, 3) := by decide +kernel
theorem dX5_power_10 : decode cX5_power 10 = .ok (.if_icmp .le 7, 3) := by decide +kernel
theorem dX5_power_13 : decode cX5_power 13 = .ok (.iconst 1, 1) := by decide +kernel
theorem dX5_power_14 : decode cX5_power 14 = .ok (.goto 15, 3) := by decide +kernel
theorem dX5_power_17 : decode cX5_power 17 = .ok (.aload_n 0, 1) := by decide +kernel
theorem dX5_power_18 : decode cX5_power 18 = .ok (.getfield 16, 3) := by decide +kernel
theorem dX5_power_21 : decode cX5_power 21 = .ok (.ifCond .ne 7, 3) := by decide +kernel
theorem dX5_power_24 : decode cX5_power 24 = .ok (.iconst 2, 1) := by decide +kernel
theorem dX5_power_25 : decode cX5_power 25 = .ok (.goto 4, 3) := by decide +kernel
theorem dX5_power_28 : decode cX5_power 28 = .ok (.iconst 0, 1) := by decide +kernel
theorem dX5_power_29 : decode cX5_power 29 = .ok (.putfield 43, 3) := by decide +kernel
theorem dX5_power_32 : decode cX5_power 32 = .ok (.aload_n 0, 1) := by decide +kernel
theorem dX5_power_33 : decode cX5_power 33 = .ok (.getfield 43, 3) := by decide +kernel
theorem dX5_power_36 : decode cX5_power 36 = .ok (.ifCond .le 5, 3) := by decide +kernel
theorem dX5_power_39 : decode cX5_power 39 = .ok (.iconst 0, 1) := by decide +kernel
theorem dX5_power_40 : decode cX5_power 40 = .ok (.ireturn, 1) := by decide +kernel
theorem dX5_power_41 : decode cX5_power 41 = .ok (.aload_n 0, 1) := by decide +kernel
theorem dX5_power_42 : decode cX5_power 42 = .ok (.getfield 20, 3) := by decide +kernel
theorem dX5_power_45 : decode cX5_power 45 = .ok (.istore_n 2, 1) := by decide +kernel
theorem dX5_power_46 : decode cX5_power 46 = .ok (.aload_n 0, 1) := by decide +kernel
theorem dX5_power_47 : decode cX5_power 47 = .ok (.iload_n 1, 1) := by decide +kernel
theorem dX5_power_48 : decode cX5_power 48 = .ok (.putfield 20, 3) := by decide +kernel
theorem dX5_power_51 : decode cX5_power 51 = .ok (.iload_n 2, 1) := by decide +kernel
theorem dX5_power_52 : decode cX5_power 52 = .ok (.ireturn, 1) := by decide +kernel
set_option maxRecDepth 20000 in
theorem ggX5_texts_X5_isText : GoodIn wsX5_texts wsX5_isText := goodIn_r _ [5, 6, 7, 8, 4, 9, 10, 11, 12, 13, 14, 15, 16, 17, 18, 19, 20, 21, 22, 23, 24, 25, 26, 27, 28, 29, 30, 31, 32, 33, 34, 35, 36, 37, 38, 39, 40, 41, 42, 43, 44, 45, 46, 47, 48, 49] (by decide +kernel) (by decide +kernel)
set_option maxRecDepth 20000 in
theorem gX5_texts_X5_isText : GoodIn wsX5_texts (wsV RX5 130 RX5 yX5_isText wsX5_isText) := goodIn_app (goodIn_of _ (by decide +kernel)) ggX5_texts_X5_isText
theorem dX5_texts_0 : decode cX5_texts 0 = .ok (.iconst 0, 1) := by decide +kernel
theorem dX5_texts_1 : decode cX5_texts 1 = .ok (.istore_n 1, 1) := by decide +kernel
theorem dX5_texts_2 : decode cX5_texts 2 = .ok (.iconst 0, 1) := by decide +kernel
theorem dX5_texts_3 : decode cX5_texts 3 = .ok (.istore_n 2, 1) := by decide +kernel
theorem dX5_texts_4 : decode cX5_texts 4 = .ok (.iload_n 2, 1) := by decide +kernel
theorem dX5_texts_5 : decode cX5_texts 5 = .ok (.bipush 64, 2) := by decide +kernel
theorem dX5_texts_7 : decode cX5_texts 7 = .ok (.if_icmp .ge 25, 3) := by decide +kernel
theorem dX5_texts_10 : decode cX5_texts 10 = .ok (.iload_n 1, 1) := by decide +kernel
theorem dX5_texts_11 : decode cX5_texts 11 = .ok (.aload_n 0, 1) := by decide +kernel
theorem dX5_texts_12 : decode cX5_texts 12 = .ok (.iload_n 2, 1) := by decide +kernel
theorem dX5_texts_13 : decode cX5_texts 13 = .ok (.invokevirtual 130, 3) := by decide +kernel
theorem dX5_texts_16 : decode cX5_texts 16 = .ok (.ifCond .eq 7, 3) := by decide +kernel
theorem dX5_texts_19 : decode cX5_texts 19 = .ok (.iconst 1, 1) := by decide +kernel
theorem dX5_texts_20 : decode cX5_texts 20 = .ok (.goto 4, 3) := by decide +kernel
theorem dX5_texts_23 : decode cX5_texts 23 = .ok (.iconst 0, 1) := by decide +kernel
theorem dX5_texts_24 : decode cX5_texts 24 = .ok (.iadd, 1) := by decide +kernel
theorem dX5_texts_25 : decode cX5_texts 25 = .ok (.istore_n 1, 1) := by decide +kernel
theorem dX5_texts_26 : decode cX5_texts 26 = .ok (.iinc 2 1, 3) := by decide +kernel
theorem dX5_texts_29 : decode cX5_texts 29 = .ok (.goto (-25), 3) := by decide +kernel
theorem dX5_texts_32 : decode cX5_texts 32 = .ok (.iload_n 1, 1) := by decide +kernel
theorem dX5_texts_33 : decode cX5_texts 33 = .ok (.ireturn, 1) := by decide +kernel
set_option maxRecDepth 20000 in
theorem ggX5_recover_X5_texts : GoodIn wsX5_recover wsX5_texts := goodIn_r _ [11, 12, 13, 14, 10, 15, 16, 17, 18, 19, 20, 21, 22, 23, 24, 25, 26, 27, 28, 29, 30, 31, 32, 33, 34, 35, 36, 37, 38, 39, 40, 41, 42, 43, 44, 45, 46, 47, 48, 49, 50, 51, 52, 53, 54, 55, 56, 57, 58, 59] (by decide +kernel) (by decide +kernel)
set_option maxRecDepth 20000 in
theorem gX5_recover_X5_texts : GoodIn wsX5_recover (wsV RX5 133 RX5 yX5_texts wsX5_texts) := goodIn_app (goodIn_of _ (by decide +kernel)) ggX5_recover_X5_texts
theorem dX5_recover_0 : decode cX5_recover 0 = .ok (.aload_n 0, 1) := by decide +kernel
theorem dX5_recover_1 : decode cX5_recover 1 = .ok (.iconst 0, 1) := by decide +kernel
theorem dX5_recover_2 : decode cX5_recover 2 = .ok (.putfield 43, 3) := by decide +kernel
theorem dX5_recover_5 : decode cX5_recover 5 = .ok (.aload_n 0, 1) := by decide +kernel
theorem dX5_recover_6 : decode cX5_recover 6 = .ok (.iconst 1, 1) := by decide +kernel
theorem dX5_recover_7 : decode cX5_recover 7 = .ok (.putfield 16, 3) := by decide +kernel
theorem dX5_recover_10 : decode cX5_recover 10 = .ok (.aload_n 0, 1) := by decide +kernel
theorem dX5_recover_11 : decode cX5_recover 11 = .ok (.iconst (-1), 1) := by decide +kernel
theorem dX5_recover_12 : decode cX5_recover 12 = .ok (.putfield 20, 3) := by decide +kernel
theorem dX5_recover_15 : decode cX5_recover 15 = .ok (.aload_n 0, 1) := by decide +kernel
theorem dX5_recover_16 : decode cX5_recover 16 = .ok (.iconst 0, 1) := by decide +kernel
theorem dX5_recover_17 : decode cX5_recover 17 = .ok (.putfield 40, 3) := by decide +kernel
theorem dX5_recover_20 : decode cX5_recover 20 = .ok (.aload_n 0, 1) := by decide +kernel
theorem dX5_recover_21 : decode cX5_recover 21 = .ok (.iconst 0, 1) := by decide +kernel
theorem dX5_recover_22 : decode cX5_recover 22 = .ok (.putfield 66, 3) := by decide +kernel
theorem dX5_recover_25 : decode cX5_recover 25 = .ok (.aload_n 0, 1) := by decide +kernel
theorem dX5_recover_26 : decode cX5_recover 26 = .ok (.iconst (-1), 1) := by decide +kernel
theorem dX5_recover_27 : decode cX5_recover 27 = .ok (.putfield 24, 3) := by decide +kernel
theorem dX5_recover_30 : decode cX5_recover 30 = .ok (.aload_n 0, 1) := by decide +kernel
theorem dX5_recover_31 : decode cX5_recover 31 = .ok (.invokevirtual 133, 3) := by decide +kernel
theorem dX5_recover_34 : decode cX5_recover 34 = .ok (.ireturn, 1) := by decide +kernel
theorem dX5_word_0 : decode cX5_word 0 = .ok (.aload_n 0, 1) := by decide +kernel
theorem dX5_word_1 : decode cX5_word 1 = .ok (.iload_n 1, 1) := by decide +kernel
theorem dX5_word_2 : decode cX5_word 2 = .ok (.ifCond .lt 19, 3) := by decide +kernel
theorem dX5_word_5 : decode cX5_word 5 = .ok (.iload_n 1, 1) := by decide +kernel
theorem dX5_word_6 : decode cX5_word 6 = .ok (.bipush 64, 2) := by decide +kernel
theorem dX5_word_8 : decode cX5_word 8 = .ok (.if_icmp .ge 13, 3) := by decide +kernel
theorem dX5_word_11 : decode cX5_word 11 = .ok (.iload_n 2, 1) := by decide +kernel
theorem dX5_word_12 : decode cX5_word 12 = .ok (.ifCond .lt 9, 3) := by decide +kernel
theorem dX5_word_15 : decode cX5_word 15 = .ok (.iload_n 2, 1) := by decide +kernel
theorem dX5_word_16 : decode cX5_word 16 = .ok (.bipush 8, 2) := by decide +kernel
theorem dX5_word_18 : decode cX5_word 18 = .ok (.if_icmp .lt 7, 3) := by decide +kernel
theorem dX5_word_21 : decode cX5_word 21 = .ok (.iconst 1, 1) := by decide +kernel
theorem dX5_word_22 : decode cX5_word 22 = .ok (.goto 4, 3) := by decide +kernel
theorem dX5_word_25 : decode cX5_word 25 = .ok (.iconst 0, 1) := by decide +kernel
theorem dX5_word_26 : decode cX5_word 26 = .ok (.putfield 43, 3) := by decide +kernel
theorem dX5_word_29 : decode cX5_word 29 = .ok (.aload_n 0, 1) := by decide +kernel
theorem dX5_word_30 : decode cX5_word 30 = .ok (.getfield 43, 3) := by decide +kernel
theorem dX5_word_33 : decode cX5_word 33 = .ok (.ifCond .le 7, 3) := by decide +kernel
theorem dX5_word_36 : decode cX5_word 36 = .ok (.iconst 0, 1) := by decide +kernel
theorem dX5_word_37 : decode cX5_word 37 = .ok (.goto 14, 3) := by decide +kernel
theorem dX5_word_40 : decode cX5_word 40 = .ok (.aload_n 0, 1) := by decide +kernel
theorem dX5_word_41 : decode cX5_word 41 = .ok (.getfield 7, 3) := by decide +kernel
theorem dX5_word_44 : decode cX5_word 44 = .ok (.bipush 8, 2) := by decide +kernel
theorem dX5_word_46 : decode cX5_word 46 = .ok (.iload_n 1, 1) := by decide +kernel
theorem dX5_word_47 : decode cX5_word 47 = .ok (.imul, 1) := by decide +kernel
theorem dX5_word_48 : decode cX5_word 48 = .ok (.iload_n 2, 1) := by decide +kernel
theorem dX5_word_49 : decode cX5_word 49 = .ok (.iadd, 1) := by decide +kernel
theorem dX5_word_50 : decode cX5_word 50 = .ok (.iaload, 1) := by decide +kernel
theorem dX5_word_51 : decode cX5_word 51 = .ok (.ireturn, 1) := by decide +kernel
set_option maxRecDepth 20000 in
theorem ggX5_told_X5_findLive : GoodIn wsX5_told wsX5_findLive := goodIn_r _ [10, 2, 11, 12, 13, 9, 14, 15, 16, 17, 18, 19, 20, 21, 22, 23, 24, 25, 26, 27, 28, 29, 30, 31, 52, 53, 54, 55, 56, 57, 58, 59, 60, 61, 62, 63, 64, 65, 66] (by decide +kernel) (by decide +kernel)
set_option maxRecDepth 20000 in
theorem gX5_told_X5_findLive : GoodIn wsX5_told (wsV RX5 111 RX5 yX5_findLive wsX5_findLive) := goodIn_app (goodIn_of _ (by decide +kernel)) ggX5_told_X5_findLive
set_option maxRecDepth 20000 in
theorem ggX5_told_X5_formOf : GoodIn wsX5_told wsX5_formOf := goodIn_r _ [35, 23, 52, 53, 54, 55, 56, 57, 58, 59, 60, 61, 62, 63, 64, 65, 66] (by decide +kernel) (by decide +kernel)
set_option maxRecDepth 20000 in
theorem gX5_told_X5_formOf : GoodIn wsX5_told (wsV RX5 101 RX5 yX5_formOf wsX5_formOf) := goodIn_app (goodIn_of _ (by decide +kernel)) ggX5_told_X5_formOf
set_option maxRecDepth 20000 in
theorem ggX5_told_X5_texts : GoodIn wsX5_told wsX5_texts := goodIn_r _ [39, 40, 41, 42, 9, 43, 19, 20, 21, 22, 23, 44, 45, 46, 47, 32, 33, 34, 35, 11, 12, 13, 14, 15, 16, 17, 18, 24, 25, 26, 27, 28, 29, 30, 31, 52, 53, 54, 55, 56, 57, 58, 59, 60, 61, 62, 63, 64, 65, 66] (by decide +kernel) (by decide +kernel)
set_option maxRecDepth 20000 in
theorem gX5_told_X5_texts : GoodIn wsX5_told (wsV RX5 133 RX5 yX5_texts wsX5_texts) := goodIn_app (goodIn_of _ (by decide +kernel)) ggX5_told_X5_texts
set_option maxRecDepth 20000 in
theorem ggX5_told_X5_greatest : GoodIn wsX5_told wsX5_greatest := goodIn_r _ [51, 19, 20, 21, 9, 22, 23, 52, 53, 54, 55, 56, 57, 58, 59, 60, 61, 62, 63, 64, 65, 66] (by decide +kernel) (by decide +kernel)
set_option maxRecDepth 20000 in
theorem gX5_told_X5_greatest : GoodIn wsX5_told (wsV RX5 107 RX5 yX5_greatest wsX5_greatest) := goodIn_app (goodIn_of _ (by decide +kernel)) ggX5_told_X5_greatest
theorem dX5_told_0 : decode cX5_told 0 = .ok (.aload_n 0, 1) := by decide +kernel
theorem dX5_told_1 : decode cX5_told 1 = .ok (.iload_n 1, 1) := by decide +kernel
theorem dX5_told_2 : decode cX5_told 2 = .ok (.ifCond .lt 9, 3) := by decide +kernel
theorem dX5_told_5 : decode cX5_told 5 = .ok (.iload_n 1, 1) := by decide +kernel
theorem dX5_told_6 : decode cX5_told 6 = .ok (.bipush 7, 2) := by decide +kernel
theorem dX5_told_8 : decode cX5_told 8 = .ok (.if_icmp .le 7, 3) := by decide +kernel
theorem dX5_told_11 : decode cX5_told 11 = .ok (.iconst 1, 1) := by decide +kernel
theorem dX5_told_12 : decode cX5_told 12 = .ok (.goto 4, 3) := by decide +kernel
theorem dX5_told_15 : decode cX5_told 15 = .ok (.iconst 0, 1) := by decide +kernel
theorem dX5_told_16 : decode cX5_told 16 = .ok (.putfield 43, 3) := by decide +kernel
theorem dX5_told_19 : decode cX5_told 19 = .ok (.aload_n 0, 1) := by decide +kernel
theorem dX5_told_20 : decode cX5_told 20 = .ok (.getfield 43, 3) := by decide +kernel
theorem dX5_told_23 : decode cX5_told 23 = .ok (.ifCond .le 5, 3) := by decide +kernel
theorem dX5_told_26 : decode cX5_told 26 = .ok (.iconst 0, 1) := by decide +kernel
theorem dX5_told_27 : decode cX5_told 27 = .ok (.ireturn, 1) := by decide +kernel
theorem dX5_told_28 : decode cX5_told 28 = .ok (.aload_n 0, 1) := by decide +kernel
theorem dX5_told_29 : decode cX5_told 29 = .ok (.invokevirtual 111, 3) := by decide +kernel
theorem dX5_told_32 : decode cX5_told 32 = .ok (.istore_n 2, 1) := by decide +kernel
theorem dX5_told_33 : decode cX5_told 33 = .ok (.iconst 0, 1) := by decide +kernel
theorem dX5_told_34 : decode cX5_told 34 = .ok (.istore_n 3, 1) := by decide +kernel
theorem dX5_told_35 : decode cX5_told 35 = .ok (.iconst 0, 1) := by decide +kernel
theorem dX5_told_36 : decode cX5_told 36 = .ok (.istore 4, 2) := by decide +kernel
theorem dX5_told_38 : decode cX5_told 38 = .ok (.iload 4, 2) := by decide +kernel
theorem dX5_told_40 : decode cX5_told 40 = .ok (.bipush 64, 2) := by decide +kernel
theorem dX5_told_42 : decode cX5_told 42 = .ok (.if_icmp .ge 37, 3) := by decide +kernel
theorem dX5_told_45 : decode cX5_told 45 = .ok (.iload_n 3, 1) := by decide +kernel
theorem dX5_told_46 : decode cX5_told 46 = .ok (.aload_n 0, 1) := by decide +kernel
theorem dX5_told_47 : decode cX5_told 47 = .ok (.getfield 36, 3) := by decide +kernel
theorem dX5_told_50 : decode cX5_told 50 = .ok (.iload 4, 2) := by decide +kernel
theorem dX5_told_52 : decode cX5_told 52 = .ok (.baload, 1) := by decide +kernel
theorem dX5_told_53 : decode cX5_told 53 = .ok (.ifCond .eq 17, 3) := by decide +kernel
theorem dX5_told_56 : decode cX5_told 56 = .ok (.aload_n 0, 1) := by decide +kernel
theorem dX5_told_57 : decode cX5_told 57 = .ok (.iload 4, 2) := by decide +kernel
theorem dX5_told_59 : decode cX5_told 59 = .ok (.invokevirtual 101, 3) := by decide +kernel
theorem dX5_told_62 : decode cX5_told 62 = .ok (.iconst 2, 1) := by decide +kernel
theorem dX5_told_63 : decode cX5_told 63 = .ok (.if_icmp .ne 7, 3) := by decide +kernel
theorem dX5_told_66 : decode cX5_told 66 = .ok (.iconst 1, 1) := by decide +kernel
theorem dX5_told_67 : decode cX5_told 67 = .ok (.goto 4, 3) := by decide +kernel
theorem dX5_told_70 : decode cX5_told 70 = .ok (.iconst 0, 1) := by decide +kernel
theorem dX5_told_71 : decode cX5_told 71 = .ok (.iadd, 1) := by decide +kernel
theorem dX5_told_72 : decode cX5_told 72 = .ok (.istore_n 3, 1) := by decide +kernel
theorem dX5_told_73 : decode cX5_told 73 = .ok (.iinc 4 1, 3) := by decide +kernel
theorem dX5_told_76 : decode cX5_told 76 = .ok (.goto (-38), 3) := by decide +kernel
theorem dX5_told_79 : decode cX5_told 79 = .ok (.iload_n 1, 1) := by decide +kernel
theorem dX5_told_80 : decode cX5_told 80 = .ok (.tableswitch 81 0 6 #[44, 49, 51, 56, 58, 63, 68], 44) := by decide +kernel
theorem dX5_told_124 : decode cX5_told 124 = .ok (.aload_n 0, 1) := by decide +kernel
theorem dX5_told_125 : decode cX5_told 125 = .ok (.invokevirtual 133, 3) := by decide +kernel
theorem dX5_told_128 : decode cX5_told 128 = .ok (.ireturn, 1) := by decide +kernel
theorem dX5_told_129 : decode cX5_told 129 = .ok (.iload_n 2, 1) := by decide +kernel
theorem dX5_told_130 : decode cX5_told 130 = .ok (.ireturn, 1) := by decide +kernel
theorem dX5_told_131 : decode cX5_told 131 = .ok (.bipush 64, 2) := by decide +kernel
theorem dX5_told_133 : decode cX5_told 133 = .ok (.iload_n 2, 1) := by decide +kernel
theorem dX5_told_134 : decode cX5_told 134 = .ok (.isub, 1) := by decide +kernel
theorem dX5_told_135 : decode cX5_told 135 = .ok (.ireturn, 1) := by decide +kernel
theorem dX5_told_136 : decode cX5_told 136 = .ok (.iload_n 3, 1) := by decide +kernel
theorem dX5_told_137 : decode cX5_told 137 = .ok (.ireturn, 1) := by decide +kernel
theorem dX5_told_138 : decode cX5_told 138 = .ok (.aload_n 0, 1) := by decide +kernel
theorem dX5_told_139 : decode cX5_told 139 = .ok (.invokevirtual 107, 3) := by decide +kernel
theorem dX5_told_142 : decode cX5_told 142 = .ok (.ireturn, 1) := by decide +kernel
theorem dX5_told_143 : decode cX5_told 143 = .ok (.aload_n 0, 1) := by decide +kernel
theorem dX5_told_144 : decode cX5_told 144 = .ok (.getfield 104, 3) := by decide +kernel
theorem dX5_told_147 : decode cX5_told 147 = .ok (.ireturn, 1) := by decide +kernel
theorem dX5_told_148 : decode cX5_told 148 = .ok (.aload_n 0, 1) := by decide +kernel
theorem dX5_told_149 : decode cX5_told 149 = .ok (.getfield 16, 3) := by decide +kernel
theorem dX5_told_152 : decode cX5_told 152 = .ok (.ifCond .eq 7, 3) := by decide +kernel
theorem dX5_told_155 : decode cX5_told 155 = .ok (.iconst 1, 1) := by decide +kernel
theorem dX5_told_156 : decode cX5_told 156 = .ok (.goto 4, 3) := by decide +kernel
theorem dX5_told_159 : decode cX5_told 159 = .ok (.iconst 0, 1) := by decide +kernel
theorem dX5_told_160 : decode cX5_told 160 = .ok (.ireturn, 1) := by decide +kernel
theorem dX5_told_161 : decode cX5_told 161 = .ok (.aload_n 0, 1) := by decide +kernel
theorem dX5_told_162 : decode cX5_told 162 = .ok (.getfield 40, 3) := by decide +kernel
theorem dX5_told_165 : decode cX5_told 165 = .ok (.ireturn, 1) := by decide +kernel
set_option maxRecDepth 20000 in
theorem ggX5_number_X5_find : GoodIn wsX5_number wsX5_find := goodIn_r _ [6, 7, 8, 9, 5, 10, 11, 12, 13, 14, 15, 16, 17, 18, 19, 20, 21, 22, 23, 24, 25, 26, 27, 28, 29, 30, 31, 36, 37, 38, 39, 40, 41, 42, 43, 44, 45, 46, 47, 48, 49, 50] (by decide +kernel) (by decide +kernel)
set_option maxRecDepth 20000 in
theorem gX5_number_X5_find : GoodIn wsX5_number (wsV RX5 124 RX5 yX5_find wsX5_find) := goodIn_app (goodIn_of _ (by decide +kernel)) ggX5_number_X5_find
set_option maxRecDepth 20000 in
theorem ggX5_number_X5_formOf : GoodIn wsX5_number wsX5_formOf := goodIn_r _ [35, 11, 36, 37, 38, 39, 40, 41, 42, 43, 44, 45, 46, 47, 48, 49, 50] (by decide +kernel) (by decide +kernel)
set_option maxRecDepth 20000 in
theorem gX5_number_X5_formOf : GoodIn wsX5_number (wsV RX5 101 RX5 yX5_formOf wsX5_formOf) := goodIn_app (goodIn_of _ (by decide +kernel)) ggX5_number_X5_formOf
set_option maxRecDepth 20000 in
theorem ggX5_number_X5_numberOf : GoodIn wsX5_number wsX5_numberOf := goodIn_r _ [10, 11, 36, 37, 38, 39, 40, 41, 42, 43, 44, 45, 46, 47, 48, 49, 50] (by decide +kernel) (by decide +kernel)
set_option maxRecDepth 20000 in
theorem gX5_number_X5_numberOf : GoodIn wsX5_number (wsV RX5 82 RX5 yX5_numberOf wsX5_numberOf) := goodIn_app (goodIn_of _ (by decide +kernel)) ggX5_number_X5_numberOf
theorem dX5_number_0 : decode cX5_number 0 = .ok (.aload_n 0, 1) := by decide +kernel
theorem dX5_number_1 : decode cX5_number 1 = .ok (.iconst 0, 1) := by decide +kernel
theorem dX5_number_2 : decode cX5_number 2 = .ok (.putfield 43, 3) := by decide +kernel
theorem dX5_number_5 : decode cX5_number 5 = .ok (.aload_n 0, 1) := by decide +kernel
theorem dX5_number_6 : decode cX5_number 6 = .ok (.iload_n 1, 1) := by decide +kernel
theorem dX5_number_7 : decode cX5_number 7 = .ok (.invokevirtual 124, 3) := by decide +kernel
theorem dX5_number_10 : decode cX5_number 10 = .ok (.istore_n 2, 1) := by decide +kernel
theorem dX5_number_11 : decode cX5_number 11 = .ok (.iload_n 2, 1) := by decide +kernel
theorem dX5_number_12 : decode cX5_number 12 = .ok (.ifCond .ge 8, 3) := by decide +kernel
theorem dX5_number_15 : decode cX5_number 15 = .ok (.bipush (-2), 2) := by decide +kernel
theorem dX5_number_17 : decode cX5_number 17 = .ok (.goto 26, 3) := by decide +kernel
theorem dX5_number_20 : decode cX5_number 20 = .ok (.aload_n 0, 1) := by decide +kernel
theorem dX5_number_21 : decode cX5_number 21 = .ok (.iload_n 2, 1) := by decide +kernel
theorem dX5_number_22 : decode cX5_number 22 = .ok (.invokevirtual 101, 3) := by decide +kernel
theorem dX5_number_25 : decode cX5_number 25 = .ok (.iconst 2, 1) := by decide +kernel
theorem dX5_number_26 : decode cX5_number 26 = .ok (.if_icmp .ne 12, 3) := by decide +kernel
theorem dX5_number_29 : decode cX5_number 29 = .ok (.aload_n 0, 1) := by decide +kernel
theorem dX5_number_30 : decode cX5_number 30 = .ok (.iload_n 2, 1) := by decide +kernel
theorem dX5_number_31 : decode cX5_number 31 = .ok (.invokevirtual 82, 3) := by decide +kernel
theorem dX5_number_34 : decode cX5_number 34 = .ok (.ineg, 1) := by decide +kernel
theorem dX5_number_35 : decode cX5_number 35 = .ok (.goto 8, 3) := by decide +kernel
theorem dX5_number_38 : decode cX5_number 38 = .ok (.aload_n 0, 1) := by decide +kernel
theorem dX5_number_39 : decode cX5_number 39 = .ok (.iload_n 2, 1) := by decide +kernel
theorem dX5_number_40 : decode cX5_number 40 = .ok (.invokevirtual 82, 3) := by decide +kernel
theorem dX5_number_43 : decode cX5_number 43 = .ok (.ireturn, 1) := by decide +kernel
set_option maxRecDepth 20000 in
theorem ggX5_key_X5_isText : GoodIn wsX5_key wsX5_isText := goodIn_r _ [6, 7, 8, 9, 5, 10, 11, 12, 13, 14, 15, 16, 17, 18, 19, 20, 21, 22, 23, 24, 25, 26, 27, 28, 29, 30, 31, 32, 33, 34, 35, 36, 37, 38, 39, 40, 41, 42, 43, 44, 45, 46, 47, 48, 49, 50] (by decide +kernel) (by decide +kernel)
set_option maxRecDepth 20000 in
theorem gX5_key_X5_isText : GoodIn wsX5_key (wsV RX5 130 RX5 yX5_isText wsX5_isText) := goodIn_app (goodIn_of _ (by decide +kernel)) ggX5_key_X5_isText
set_option maxRecDepth 20000 in
theorem ggX5_key_X5_keyOf : GoodIn wsX5_key wsX5_keyOf := goodIn_r _ [35, 11, 36, 37, 38, 39, 40, 41, 42, 43, 44, 45, 46, 47, 48, 49, 50] (by decide +kernel) (by decide +kernel)
set_option maxRecDepth 20000 in
theorem gX5_key_X5_keyOf : GoodIn wsX5_key (wsV RX5 92 RX5 yX5_keyOf wsX5_keyOf) := goodIn_app (goodIn_of _ (by decide +kernel)) ggX5_key_X5_keyOf
theorem dX5_key_0 : decode cX5_key 0 = .ok (.aload_n 0, 1) := by decide +kernel
theorem dX5_key_1 : decode cX5_key 1 = .ok (.iconst 0, 1) := by decide +kernel
theorem dX5_key_2 : decode cX5_key 2 = .ok (.putfield 43, 3) := by decide +kernel
theorem dX5_key_5 : decode cX5_key 5 = .ok (.iconst 0, 1) := by decide +kernel
theorem dX5_key_6 : decode cX5_key 6 = .ok (.istore_n 2, 1) := by decide +kernel
theorem dX5_key_7 : decode cX5_key 7 = .ok (.iload_n 2, 1) := by decide +kernel
theorem dX5_key_8 : decode cX5_key 8 = .ok (.bipush 64, 2) := by decide +kernel
theorem dX5_key_10 : decode cX5_key 10 = .ok (.if_icmp .ge 77, 3) := by decide +kernel
theorem dX5_key_13 : decode cX5_key 13 = .ok (.aload_n 0, 1) := by decide +kernel
theorem dX5_key_14 : decode cX5_key 14 = .ok (.iload_n 2, 1) := by decide +kernel
theorem dX5_key_15 : decode cX5_key 15 = .ok (.invokevirtual 130, 3) := by decide +kernel
theorem dX5_key_18 : decode cX5_key 18 = .ok (.ifCond .eq 63, 3) := by decide +kernel
theorem dX5_key_21 : decode cX5_key 21 = .ok (.iconst 0, 1) := by decide +kernel
theorem dX5_key_22 : decode cX5_key 22 = .ok (.istore_n 3, 1) := by decide +kernel
theorem dX5_key_23 : decode cX5_key 23 = .ok (.iconst 0, 1) := by decide +kernel
theorem dX5_key_24 : decode cX5_key 24 = .ok (.istore 4, 2) := by decide +kernel
theorem dX5_key_26 : decode cX5_key 26 = .ok (.iload 4, 2) := by decide +kernel
theorem dX5_key_28 : decode cX5_key 28 = .ok (.bipush 64, 2) := by decide +kernel
theorem dX5_key_30 : decode cX5_key 30 = .ok (.if_icmp .ge 40, 3) := by decide +kernel
theorem dX5_key_33 : decode cX5_key 33 = .ok (.iload_n 3, 1) := by decide +kernel
theorem dX5_key_34 : decode cX5_key 34 = .ok (.aload_n 0, 1) := by decide +kernel
theorem dX5_key_35 : decode cX5_key 35 = .ok (.iload 4, 2) := by decide +kernel
theorem dX5_key_37 : decode cX5_key 37 = .ok (.invokevirtual 130, 3) := by decide +kernel
theorem dX5_key_40 : decode cX5_key 40 = .ok (.ifCond .eq 21, 3) := by decide +kernel
theorem dX5_key_43 : decode cX5_key 43 = .ok (.aload_n 0, 1) := by decide +kernel
theorem dX5_key_44 : decode cX5_key 44 = .ok (.iload 4, 2) := by decide +kernel
theorem dX5_key_46 : decode cX5_key 46 = .ok (.invokevirtual 92, 3) := by decide +kernel
theorem dX5_key_49 : decode cX5_key 49 = .ok (.aload_n 0, 1) := by decide +kernel
theorem dX5_key_50 : decode cX5_key 50 = .ok (.iload_n 2, 1) := by decide +kernel
theorem dX5_key_51 : decode cX5_key 51 = .ok (.invokevirtual 92, 3) := by decide +kernel
theorem dX5_key_54 : decode cX5_key 54 = .ok (.if_icmp .ge 7, 3) := by decide +kernel
theorem dX5_key_57 : decode cX5_key 57 = .ok (.iconst 1, 1) := by decide +kernel
theorem dX5_key_58 : decode cX5_key 58 = .ok (.goto 4, 3) := by decide +kernel
theorem dX5_key_61 : decode cX5_key 61 = .ok (.iconst 0, 1) := by decide +kernel
theorem dX5_key_62 : decode cX5_key 62 = .ok (.iadd, 1) := by decide +kernel
theorem dX5_key_63 : decode cX5_key 63 = .ok (.istore_n 3, 1) := by decide +kernel
theorem dX5_key_64 : decode cX5_key 64 = .ok (.iinc 4 1, 3) := by decide +kernel
theorem dX5_key_67 : decode cX5_key 67 = .ok (.goto (-41), 3) := by decide +kernel
theorem dX5_key_70 : decode cX5_key 70 = .ok (.iload_n 3, 1) := by decide +kernel
theorem dX5_key_71 : decode cX5_key 71 = .ok (.iload_n 1, 1) := by decide +kernel
theorem dX5_key_72 : decode cX5_key 72 = .ok (.if_icmp .ne 9, 3) := by decide +kernel
theorem dX5_key_75 : decode cX5_key 75 = .ok (.aload_n 0, 1) := by decide +kernel
theorem dX5_key_76 : decode cX5_key 76 = .ok (.iload_n 2, 1) := by decide +kernel
theorem dX5_key_77 : decode cX5_key 77 = .ok (.invokevirtual 92, 3) := by decide +kernel
theorem dX5_key_80 : decode cX5_key 80 = .ok (.ireturn, 1) := by decide +kernel
theorem dX5_key_81 : decode cX5_key 81 = .ok (.iinc 2 1, 3) := by decide +kernel
theorem dX5_key_84 : decode cX5_key 84 = .ok (.goto (-77), 3) := by decide +kernel
theorem dX5_key_87 : decode cX5_key 87 = .ok (.iconst 0, 1) := by decide +kernel
theorem dX5_key_88 : decode cX5_key 88 = .ok (.ireturn, 1) := by decide +kernel

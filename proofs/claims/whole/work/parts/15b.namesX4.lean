set_option maxRecDepth 20000 in
theorem ggX4_init_X2_init : GoodIn wsX4_init wsX2_init := goodIn_r _ [24, 25, 2, 3, 19, 26, 27, 28, 42, 43, 44, 45] (by decide +kernel) (by decide +kernel)
set_option maxRecDepth 20000 in
theorem gX4_init_X2_init_n9 : GoodIn wsX4_init (wsX2_init) := ggX4_init_X2_init
set_option maxRecDepth 20000 in
theorem ggX4_init_X0_init : GoodIn wsX4_init wsX0_init := goodIn_r _ [31, 32, 2, 3, 33, 34, 35, 36, 37, 55, 56, 57, 58] (by decide +kernel) (by decide +kernel)
set_option maxRecDepth 20000 in
theorem gX4_init_X0_init : GoodIn wsX4_init (wsX0_init) := ggX4_init_X0_init
set_option maxRecDepth 20000 in
theorem ggX4_init_X3_init : GoodIn wsX4_init wsX3_init := goodIn_r _ [39, 40, 2, 3, 19, 41, 59, 60] (by decide +kernel) (by decide +kernel)
set_option maxRecDepth 20000 in
theorem gX4_init_X3_init_n27 : GoodIn wsX4_init (wsX3_init) := ggX4_init_X3_init
theorem dX4_init_0 : decode cX4_init 0 = .ok (.aload_n 0, 1) := by decide +kernel
theorem dX4_init_1 : decode cX4_init 1 = .ok (.invokespecial 1, 3) := by decide +kernel
theorem dX4_init_4 : decode cX4_init 4 = .ok (.aload_n 0, 1) := by decide +kernel
theorem dX4_init_5 : decode cX4_init 5 = .ok (.new 7, 3) := by decide +kernel
theorem dX4_init_8 : decode cX4_init 8 = .ok (.dup, 1) := by decide +kernel
theorem dX4_init_9 : decode cX4_init 9 = .ok (.invokespecial 9, 3) := by decide +kernel
theorem dX4_init_12 : decode cX4_init 12 = .ok (.putfield 10, 3) := by decide +kernel
theorem dX4_init_15 : decode cX4_init 15 = .ok (.aload_n 0, 1) := by decide +kernel
theorem dX4_init_16 : decode cX4_init 16 = .ok (.new 16, 3) := by decide +kernel
theorem dX4_init_19 : decode cX4_init 19 = .ok (.dup, 1) := by decide +kernel
theorem dX4_init_20 : decode cX4_init 20 = .ok (.aload_n 0, 1) := by decide +kernel
theorem dX4_init_21 : decode cX4_init 21 = .ok (.getfield 10, 3) := by decide +kernel
theorem dX4_init_24 : decode cX4_init 24 = .ok (.invokespecial 18, 3) := by decide +kernel
theorem dX4_init_27 : decode cX4_init 27 = .ok (.putfield 21, 3) := by decide +kernel
theorem dX4_init_30 : decode cX4_init 30 = .ok (.aload_n 0, 1) := by decide +kernel
theorem dX4_init_31 : decode cX4_init 31 = .ok (.new 25, 3) := by decide +kernel
theorem dX4_init_34 : decode cX4_init 34 = .ok (.dup, 1) := by decide +kernel
theorem dX4_init_35 : decode cX4_init 35 = .ok (.invokespecial 27, 3) := by decide +kernel
theorem dX4_init_38 : decode cX4_init 38 = .ok (.putfield 28, 3) := by decide +kernel
theorem dX4_init_41 : decode cX4_init 41 = .ok (.aload_n 0, 1) := by decide +kernel
theorem dX4_init_42 : decode cX4_init 42 = .ok (.new 25, 3) := by decide +kernel
theorem dX4_init_45 : decode cX4_init 45 = .ok (.dup, 1) := by decide +kernel
theorem dX4_init_46 : decode cX4_init 46 = .ok (.invokespecial 27, 3) := by decide +kernel
theorem dX4_init_49 : decode cX4_init 49 = .ok (.putfield 32, 3) := by decide +kernel
theorem dX4_init_52 : decode cX4_init 52 = .ok (.aload_n 0, 1) := by decide +kernel
theorem dX4_init_53 : decode cX4_init 53 = .ok (.new 25, 3) := by decide +kernel
theorem dX4_init_56 : decode cX4_init 56 = .ok (.dup, 1) := by decide +kernel
theorem dX4_init_57 : decode cX4_init 57 = .ok (.invokespecial 27, 3) := by decide +kernel
theorem dX4_init_60 : decode cX4_init 60 = .ok (.putfield 35, 3) := by decide +kernel
theorem dX4_init_63 : decode cX4_init 63 = .ok (.aload_n 0, 1) := by decide +kernel
theorem dX4_init_64 : decode cX4_init 64 = .ok (.new 25, 3) := by decide +kernel
theorem dX4_init_67 : decode cX4_init 67 = .ok (.dup, 1) := by decide +kernel
theorem dX4_init_68 : decode cX4_init 68 = .ok (.invokespecial 27, 3) := by decide +kernel
theorem dX4_init_71 : decode cX4_init 71 = .ok (.putfield 38, 3) := by decide +kernel
theorem dX4_init_74 : decode cX4_init 74 = .ok (.aload_n 0, 1) := by decide +kernel
theorem dX4_init_75 : decode cX4_init 75 = .ok (.bipush 8, 2) := by decide +kernel
theorem dX4_init_77 : decode cX4_init 77 = .ok (.newarray .int, 2) := by decide +kernel
theorem dX4_init_79 : decode cX4_init 79 = .ok (.putfield 41, 3) := by decide +kernel
theorem dX4_init_82 : decode cX4_init 82 = .ok (.aload_n 0, 1) := by decide +kernel
theorem dX4_init_83 : decode cX4_init 83 = .ok (.bipush 8, 2) := by decide +kernel
theorem dX4_init_85 : decode cX4_init 85 = .ok (.newarray .int, 2) := by decide +kernel
theorem dX4_init_87 : decode cX4_init 87 = .ok (.putfield 45, 3) := by decide +kernel
theorem dX4_init_90 : decode cX4_init 90 = .ok (.aload_n 0, 1) := by decide +kernel
theorem dX4_init_91 : decode cX4_init 91 = .ok (.iconst (-1), 1) := by decide +kernel
theorem dX4_init_92 : decode cX4_init 92 = .ok (.putfield 48, 3) := by decide +kernel
theorem dX4_init_95 : decode cX4_init 95 = .ok (.return_, 1) := by decide +kernel
set_option maxRecDepth 20000 in
theorem ggX4_feed_X3_size : GoodIn wsX4_feed wsX3_size := goodIn_r _ [8, 9, 24, 25] (by decide +kernel) (by decide +kernel)
set_option maxRecDepth 20000 in
theorem gX4_feed_X3_size : GoodIn wsX4_feed (wsV RX4 52 RX3 yX3_size wsX3_size) := goodIn_app (goodIn_of _ (by decide +kernel)) ggX4_feed_X3_size
set_option maxRecDepth 20000 in
theorem ggX4_feed_X3_append : GoodIn wsX4_feed wsX3_append := goodIn_r _ [13, 9, 14, 24, 25] (by decide +kernel) (by decide +kernel)
set_option maxRecDepth 20000 in
theorem gX4_feed_X3_append : GoodIn wsX4_feed (wsV RX4 59 RX3 yX3_append wsX3_append) := goodIn_app (goodIn_of _ (by decide +kernel)) ggX4_feed_X3_append
theorem dX4_feed_0 : decode cX4_feed 0 = .ok (.iload_n 1, 1) := by decide +kernel
theorem dX4_feed_1 : decode cX4_feed 1 = .ok (.iconst 1, 1) := by decide +kernel
theorem dX4_feed_2 : decode cX4_feed 2 = .ok (.if_icmp .lt 24, 3) := by decide +kernel
theorem dX4_feed_5 : decode cX4_feed 5 = .ok (.iload_n 1, 1) := by decide +kernel
theorem dX4_feed_6 : decode cX4_feed 6 = .ok (.bipush 8, 2) := by decide +kernel
theorem dX4_feed_8 : decode cX4_feed 8 = .ok (.if_icmp .gt 18, 3) := by decide +kernel
theorem dX4_feed_11 : decode cX4_feed 11 = .ok (.aload_n 0, 1) := by decide +kernel
theorem dX4_feed_12 : decode cX4_feed 12 = .ok (.getfield 28, 3) := by decide +kernel
theorem dX4_feed_15 : decode cX4_feed 15 = .ok (.invokevirtual 52, 3) := by decide +kernel
theorem dX4_feed_18 : decode cX4_feed 18 = .ok (.iload_n 1, 1) := by decide +kernel
theorem dX4_feed_19 : decode cX4_feed 19 = .ok (.iadd, 1) := by decide +kernel
theorem dX4_feed_20 : decode cX4_feed 20 = .ok (.sipush 400, 3) := by decide +kernel
theorem dX4_feed_23 : decode cX4_feed 23 = .ok (.if_icmp .le 11, 3) := by decide +kernel
theorem dX4_feed_26 : decode cX4_feed 26 = .ok (.new 56, 3) := by decide +kernel
theorem dX4_feed_29 : decode cX4_feed 29 = .ok (.dup, 1) := by decide +kernel
theorem dX4_feed_30 : decode cX4_feed 30 = .ok (.invokespecial 58, 3) := by decide +kernel
theorem dX4_feed_33 : decode cX4_feed 33 = .ok (.athrow, 1) := by decide +kernel
theorem dX4_feed_34 : decode cX4_feed 34 = .ok (.iconst 0, 1) := by decide +kernel
theorem dX4_feed_35 : decode cX4_feed 35 = .ok (.istore 4, 2) := by decide +kernel
theorem dX4_feed_37 : decode cX4_feed 37 = .ok (.iload 4, 2) := by decide +kernel
theorem dX4_feed_39 : decode cX4_feed 39 = .ok (.iload_n 1, 1) := by decide +kernel
theorem dX4_feed_40 : decode cX4_feed 40 = .ok (.if_icmp .ge 24, 3) := by decide +kernel
theorem dX4_feed_43 : decode cX4_feed 43 = .ok (.aload_n 0, 1) := by decide +kernel
theorem dX4_feed_44 : decode cX4_feed 44 = .ok (.getfield 28, 3) := by decide +kernel
theorem dX4_feed_47 : decode cX4_feed 47 = .ok (.lload_n 2, 1) := by decide +kernel
theorem dX4_feed_48 : decode cX4_feed 48 = .ok (.bipush 8, 2) := by decide +kernel
theorem dX4_feed_50 : decode cX4_feed 50 = .ok (.iload 4, 2) := by decide +kernel
theorem dX4_feed_52 : decode cX4_feed 52 = .ok (.imul, 1) := by decide +kernel
theorem dX4_feed_53 : decode cX4_feed 53 = .ok (.lushr, 1) := by decide +kernel
theorem dX4_feed_54 : decode cX4_feed 54 = .ok (.l2i, 1) := by decide +kernel
theorem dX4_feed_55 : decode cX4_feed 55 = .ok (.invokevirtual 59, 3) := by decide +kernel
theorem dX4_feed_58 : decode cX4_feed 58 = .ok (.iinc 4 1, 3) := by decide +kernel
theorem dX4_feed_61 : decode cX4_feed 61 = .ok (.goto (-24), 3) := by decide +kernel
theorem dX4_feed_64 : decode cX4_feed 64 = .ok (.aload_n 0, 1) := by decide +kernel
theorem dX4_feed_65 : decode cX4_feed 65 = .ok (.getfield 28, 3) := by decide +kernel
theorem dX4_feed_68 : decode cX4_feed 68 = .ok (.invokevirtual 52, 3) := by decide +kernel
theorem dX4_feed_71 : decode cX4_feed 71 = .ok (.ireturn, 1) := by decide +kernel
set_option maxRecDepth 20000 in
theorem ggX4_commit_X2_isOn : GoodIn wsX4_commit wsX2_isOn := goodIn_r _ [8, 9, 149, 150, 151, 152] (by decide +kernel) (by decide +kernel)
set_option maxRecDepth 20000 in
theorem gX4_commit_X2_isOn : GoodIn wsX4_commit (wsV RX4 63 RX2 yX2_isOn wsX2_isOn) := goodIn_app (goodIn_of _ (by decide +kernel)) ggX4_commit_X2_isOn
set_option maxRecDepth 20000 in
theorem ggX4_commit_X1_encode : GoodIn wsX4_commit wsX1_encode := goodIn_r _ [13, 14, 15, 16, 17, 18, 19, 20, 21, 22, 23, 24, 25, 26, 27, 28, 29, 30, 12, 31, 32, 33, 34, 35, 36, 37, 38, 39, 40, 41, 42, 43, 44, 45, 46, 153, 154] (by decide +kernel) (by decide +kernel)
set_option maxRecDepth 20000 in
theorem gX4_commit_X1_encode : GoodIn wsX4_commit (va_wsS RX4 67 yX1_encode wsX1_encode) := goodIn_app (goodIn_of _ (by decide +kernel)) ggX4_commit_X1_encode
set_option maxRecDepth 20000 in
theorem ggX4_commit_X3_size : GoodIn wsX4_commit wsX3_size := goodIn_r _ [23, 19, 153, 154] (by decide +kernel) (by decide +kernel)
set_option maxRecDepth 20000 in
theorem gX4_commit_X3_size : GoodIn wsX4_commit (wsV RX4 52 RX3 yX3_size wsX3_size) := goodIn_app (goodIn_of _ (by decide +kernel)) ggX4_commit_X3_size
set_option maxRecDepth 20000 in
theorem ggX4_commit_X3_becomeLike : GoodIn wsX4_commit wsX3_becomeLike := goodIn_r _ [51, 19, 52, 15, 16, 17, 18, 53, 40, 41, 42, 28, 54, 25, 26, 27, 153, 154] (by decide +kernel) (by decide +kernel)
set_option maxRecDepth 20000 in
theorem gX4_commit_X3_becomeLike : GoodIn wsX4_commit (wsV RX4 73 RX3 yX3_becomeLike wsX3_becomeLike) := goodIn_app (goodIn_of _ (by decide +kernel)) ggX4_commit_X3_becomeLike
set_option maxRecDepth 20000 in
theorem ggX4_commit_X3_empty : GoodIn wsX4_commit wsX3_empty := goodIn_r _ [18, 19, 153, 154] (by decide +kernel) (by decide +kernel)
set_option maxRecDepth 20000 in
theorem gX4_commit_X3_empty : GoodIn wsX4_commit (wsV RX4 77 RX3 yX3_empty wsX3_empty) := goodIn_app (goodIn_of _ (by decide +kernel)) ggX4_commit_X3_empty
set_option maxRecDepth 20000 in
theorem ggX4_commit_X4_putRecord : GoodIn wsX4_commit wsX4_putRecord := goodIn_r _ [60, 3, 1, 61, 62, 47, 21, 22, 17, 23, 19, 63, 64, 59, 65, 66, 67, 68, 69, 70, 71, 72, 73, 74, 75, 76, 77, 78, 79, 80, 81, 7, 82, 83, 84, 85, 86, 87, 88, 89, 90, 91, 92, 93, 94, 95, 96, 97, 98, 99, 100, 101, 102, 103, 104, 105, 106, 107, 108, 109, 110, 111, 112, 113, 114, 115, 116, 117, 118, 119, 120, 121, 122, 34, 123, 124, 125, 126, 127, 128, 129, 130, 131, 132, 133, 134, 53, 40, 41, 42, 28, 135, 136, 137, 138, 9, 139, 140, 141, 142, 143, 144, 145, 146, 147, 148, 153, 154, 155, 156, 157, 158, 149, 150, 151, 152] (by decide +kernel) (by decide +kernel)
set_option maxRecDepth 20000 in
theorem gX4_commit_X4_putRecord : GoodIn wsX4_commit (wsV RX4 80 RX4 yX4_putRecord wsX4_putRecord) := goodIn_app (goodIn_of _ (by decide +kernel)) ggX4_commit_X4_putRecord
theorem dX4_commit_0 : decode cX4_commit 0 = .ok (.aload_n 0, 1) := by decide +kernel
theorem dX4_commit_1 : decode cX4_commit 1 = .ok (.getfield 10, 3) := by decide +kernel
theorem dX4_commit_4 : decode cX4_commit 4 = .ok (.invokevirtual 63, 3) := by decide +kernel
theorem dX4_commit_7 : decode cX4_commit 7 = .ok (.ifCond .ne 6, 3) := by decide +kernel
theorem dX4_commit_10 : decode cX4_commit 10 = .ok (.bipush (-4), 2) := by decide +kernel
theorem dX4_commit_12 : decode cX4_commit 12 = .ok (.ireturn, 1) := by decide +kernel
theorem dX4_commit_13 : decode cX4_commit 13 = .ok (.aload_n 0, 1) := by decide +kernel
theorem dX4_commit_14 : decode cX4_commit 14 = .ok (.getfield 28, 3) := by decide +kernel
theorem dX4_commit_17 : decode cX4_commit 17 = .ok (.aload_n 0, 1) := by decide +kernel
theorem dX4_commit_18 : decode cX4_commit 18 = .ok (.getfield 35, 3) := by decide +kernel
theorem dX4_commit_21 : decode cX4_commit 21 = .ok (.invokestatic 67, 3) := by decide +kernel
theorem dX4_commit_24 : decode cX4_commit 24 = .ok (.iconst 1, 1) := by decide +kernel
theorem dX4_commit_25 : decode cX4_commit 25 = .ok (.istore_n 2, 1) := by decide +kernel
theorem dX4_commit_26 : decode cX4_commit 26 = .ok (.aload_n 0, 1) := by decide +kernel
theorem dX4_commit_27 : decode cX4_commit 27 = .ok (.getfield 35, 3) := by decide +kernel
theorem dX4_commit_30 : decode cX4_commit 30 = .ok (.invokevirtual 52, 3) := by decide +kernel
theorem dX4_commit_33 : decode cX4_commit 33 = .ok (.aload_n 0, 1) := by decide +kernel
theorem dX4_commit_34 : decode cX4_commit 34 = .ok (.getfield 28, 3) := by decide +kernel
theorem dX4_commit_37 : decode cX4_commit 37 = .ok (.invokevirtual 52, 3) := by decide +kernel
theorem dX4_commit_40 : decode cX4_commit 40 = .ok (.if_icmp .lt 16, 3) := by decide +kernel
theorem dX4_commit_43 : decode cX4_commit 43 = .ok (.iconst 0, 1) := by decide +kernel
theorem dX4_commit_44 : decode cX4_commit 44 = .ok (.istore_n 2, 1) := by decide +kernel
theorem dX4_commit_45 : decode cX4_commit 45 = .ok (.aload_n 0, 1) := by decide +kernel
theorem dX4_commit_46 : decode cX4_commit 46 = .ok (.getfield 35, 3) := by decide +kernel
theorem dX4_commit_49 : decode cX4_commit 49 = .ok (.aload_n 0, 1) := by decide +kernel
theorem dX4_commit_50 : decode cX4_commit 50 = .ok (.getfield 28, 3) := by decide +kernel
theorem dX4_commit_53 : decode cX4_commit 53 = .ok (.invokevirtual 73, 3) := by decide +kernel
theorem dX4_commit_56 : decode cX4_commit 56 = .ok (.aload_n 0, 1) := by decide +kernel
theorem dX4_commit_57 : decode cX4_commit 57 = .ok (.getfield 28, 3) := by decide +kernel
theorem dX4_commit_60 : decode cX4_commit 60 = .ok (.invokevirtual 77, 3) := by decide +kernel
theorem dX4_commit_63 : decode cX4_commit 63 = .ok (.aload_n 0, 1) := by decide +kernel
theorem dX4_commit_64 : decode cX4_commit 64 = .ok (.iload_n 1, 1) := by decide +kernel
theorem dX4_commit_65 : decode cX4_commit 65 = .ok (.iload_n 2, 1) := by decide +kernel
theorem dX4_commit_66 : decode cX4_commit 66 = .ok (.invokevirtual 80, 3) := by decide +kernel
theorem dX4_commit_69 : decode cX4_commit 69 = .ok (.ireturn, 1) := by decide +kernel
set_option maxRecDepth 20000 in
theorem ggX4_delete_X2_isOn : GoodIn wsX4_delete wsX2_isOn := goodIn_r _ [8, 9, 134, 135, 136, 137] (by decide +kernel) (by decide +kernel)
set_option maxRecDepth 20000 in
theorem gX4_delete_X2_isOn : GoodIn wsX4_delete (wsV RX4 63 RX2 yX2_isOn wsX2_isOn) := goodIn_app (goodIn_of _ (by decide +kernel)) ggX4_delete_X2_isOn
set_option maxRecDepth 20000 in
theorem ggX4_delete_X4_surveyed : GoodIn wsX4_delete wsX4_surveyed := goodIn_r _ [14, 2, 15, 16, 17, 18, 19, 20, 21, 22, 23, 24, 25, 26, 7, 27, 28, 29, 30, 31, 32, 33, 34, 35, 36, 37, 38, 39, 40, 41, 42, 43, 44, 45, 46, 47, 48, 49, 50, 51, 52, 53, 125, 126, 127, 128, 129, 130, 131, 132, 133, 138, 139, 140, 141, 134, 135, 136, 137] (by decide +kernel) (by decide +kernel)
set_option maxRecDepth 20000 in
theorem gX4_delete_X4_surveyed : GoodIn wsX4_delete (wsV RX4 84 RX4 yX4_surveyed wsX4_surveyed) := goodIn_app (goodIn_of _ (by decide +kernel)) ggX4_delete_X4_surveyed
set_option maxRecDepth 20000 in
theorem ggX4_delete_X0_firstBlock : GoodIn wsX4_delete wsX0_firstBlock := goodIn_r _ [57, 21, 58, 59, 60, 18, 61, 23, 62, 63, 64, 7, 65, 33, 34, 35, 36, 37, 50, 51, 52, 53, 138, 139, 140, 141, 134, 135, 136, 137] (by decide +kernel) (by decide +kernel)
set_option maxRecDepth 20000 in
theorem gX4_delete_X0_firstBlock : GoodIn wsX4_delete (wsV RX4 88 RX0 yX0_firstBlock wsX0_firstBlock) := goodIn_app (goodIn_of _ (by decide +kernel)) ggX4_delete_X0_firstBlock
set_option maxRecDepth 20000 in
theorem ggX4_delete_X0_isText : GoodIn wsX4_delete wsX0_isText := goodIn_r _ [69, 21, 58, 59, 60, 18, 61, 23, 62, 63, 64, 7, 65, 33, 34, 35, 36, 37, 70, 71, 72, 73, 138, 139, 140, 141, 134, 135, 136, 137] (by decide +kernel) (by decide +kernel)
set_option maxRecDepth 20000 in
theorem gX4_delete_X0_isText : GoodIn wsX4_delete (wsV RX4 92 RX0 yX0_isText wsX0_isText) := goodIn_app (goodIn_of _ (by decide +kernel)) ggX4_delete_X0_isText
set_option maxRecDepth 20000 in
theorem ggX4_delete_X3_empty : GoodIn wsX4_delete wsX3_empty := goodIn_r _ [78, 79, 142, 143] (by decide +kernel) (by decide +kernel)
set_option maxRecDepth 20000 in
theorem gX4_delete_X3_empty : GoodIn wsX4_delete (wsV RX4 77 RX3 yX3_empty wsX3_empty) := goodIn_app (goodIn_of _ (by decide +kernel)) ggX4_delete_X3_empty
set_option maxRecDepth 20000 in
theorem ggX4_delete_X4_putRecord : GoodIn wsX4_delete wsX4_putRecord := goodIn_r _ [83, 3, 1, 2, 84, 85, 86, 87, 77, 88, 79, 89, 90, 13, 91, 10, 11, 12, 14, 15, 16, 17, 18, 19, 20, 21, 22, 23, 24, 25, 26, 7, 27, 28, 29, 30, 31, 32, 33, 34, 35, 36, 37, 38, 39, 40, 41, 42, 43, 44, 45, 46, 47, 48, 49, 50, 51, 52, 53, 92, 93, 94, 95, 58, 59, 60, 61, 96, 97, 98, 99, 100, 101, 102, 103, 104, 105, 106, 107, 108, 109, 110, 111, 112, 113, 114, 115, 116, 117, 118, 119, 120, 121, 122, 123, 9, 124, 125, 126, 127, 128, 129, 130, 131, 132, 133, 142, 143, 138, 139, 140, 141, 134, 135, 136, 137] (by decide +kernel) (by decide +kernel)
set_option maxRecDepth 20000 in
theorem gX4_delete_X4_putRecord : GoodIn wsX4_delete (wsV RX4 80 RX4 yX4_putRecord wsX4_putRecord) := goodIn_app (goodIn_of _ (by decide +kernel)) ggX4_delete_X4_putRecord
theorem dX4_delete_0 : decode cX4_delete 0 = .ok (.aload_n 0, 1) := by decide +kernel
theorem dX4_delete_1 : decode cX4_delete 1 = .ok (.getfield 10, 3) := by decide +kernel
theorem dX4_delete_4 : decode cX4_delete 4 = .ok (.invokevirtual 63, 3) := by decide +kernel
theorem dX4_delete_7 : decode cX4_delete 7 = .ok (.ifCond .ne 6, 3) := by decide +kernel
theorem dX4_delete_10 : decode cX4_delete 10 = .ok (.bipush (-4), 2) := by decide +kernel
theorem dX4_delete_12 : decode cX4_delete 12 = .ok (.ireturn, 1) := by decide +kernel
theorem dX4_delete_13 : decode cX4_delete 13 = .ok (.aload_n 0, 1) := by decide +kernel
theorem dX4_delete_14 : decode cX4_delete 14 = .ok (.invokevirtual 84, 3) := by decide +kernel
theorem dX4_delete_17 : decode cX4_delete 17 = .ok (.iload_n 1, 1) := by decide +kernel
theorem dX4_delete_18 : decode cX4_delete 18 = .ok (.invokevirtual 88, 3) := by decide +kernel
theorem dX4_delete_21 : decode cX4_delete 21 = .ok (.istore_n 2, 1) := by decide +kernel
theorem dX4_delete_22 : decode cX4_delete 22 = .ok (.aload_n 0, 1) := by decide +kernel
theorem dX4_delete_23 : decode cX4_delete 23 = .ok (.getfield 21, 3) := by decide +kernel
theorem dX4_delete_26 : decode cX4_delete 26 = .ok (.iload_n 2, 1) := by decide +kernel
theorem dX4_delete_27 : decode cX4_delete 27 = .ok (.invokevirtual 92, 3) := by decide +kernel
theorem dX4_delete_30 : decode cX4_delete 30 = .ok (.ifCond .ne 6, 3) := by decide +kernel
theorem dX4_delete_33 : decode cX4_delete 33 = .ok (.bipush (-2), 2) := by decide +kernel
theorem dX4_delete_35 : decode cX4_delete 35 = .ok (.ireturn, 1) := by decide +kernel
theorem dX4_delete_36 : decode cX4_delete 36 = .ok (.aload_n 0, 1) := by decide +kernel
theorem dX4_delete_37 : decode cX4_delete 37 = .ok (.getfield 35, 3) := by decide +kernel
theorem dX4_delete_40 : decode cX4_delete 40 = .ok (.invokevirtual 77, 3) := by decide +kernel
theorem dX4_delete_43 : decode cX4_delete 43 = .ok (.aload_n 0, 1) := by decide +kernel
theorem dX4_delete_44 : decode cX4_delete 44 = .ok (.iload_n 1, 1) := by decide +kernel
theorem dX4_delete_45 : decode cX4_delete 45 = .ok (.iconst 2, 1) := by decide +kernel
theorem dX4_delete_46 : decode cX4_delete 46 = .ok (.invokevirtual 80, 3) := by decide +kernel
theorem dX4_delete_49 : decode cX4_delete 49 = .ok (.ireturn, 1) := by decide +kernel
set_option maxRecDepth 20000 in
theorem ggX4_load_X2_isOn : GoodIn wsX4_load wsX2_isOn := goodIn_r _ [10, 11, 146, 147, 148, 149] (by decide +kernel) (by decide +kernel)
set_option maxRecDepth 20000 in
theorem gX4_load_X2_isOn : GoodIn wsX4_load (wsV RX4 63 RX2 yX2_isOn wsX2_isOn) := goodIn_app (goodIn_of _ (by decide +kernel)) ggX4_load_X2_isOn
set_option maxRecDepth 20000 in
theorem ggX4_load_X4_surveyed : GoodIn wsX4_load wsX4_surveyed := goodIn_r _ [16, 2, 17, 18, 19, 20, 21, 22, 23, 24, 25, 26, 27, 28, 9, 29, 30, 31, 32, 33, 34, 35, 36, 37, 38, 39, 40, 41, 42, 43, 44, 45, 46, 47, 48, 49, 50, 51, 52, 53, 54, 55, 137, 138, 139, 140, 141, 142, 143, 144, 145, 150, 151, 152, 153, 146, 147, 148, 149] (by decide +kernel) (by decide +kernel)
set_option maxRecDepth 20000 in
theorem gX4_load_X4_surveyed : GoodIn wsX4_load (wsV RX4 84 RX4 yX4_surveyed wsX4_surveyed) := goodIn_app (goodIn_of _ (by decide +kernel)) ggX4_load_X4_surveyed
set_option maxRecDepth 20000 in
theorem ggX4_load_X0_firstBlock : GoodIn wsX4_load wsX0_firstBlock := goodIn_r _ [59, 23, 60, 61, 62, 20, 63, 25, 64, 65, 66, 9, 67, 35, 36, 37, 38, 39, 52, 53, 54, 55, 150, 151, 152, 153, 146, 147, 148, 149] (by decide +kernel) (by decide +kernel)
set_option maxRecDepth 20000 in
theorem gX4_load_X0_firstBlock : GoodIn wsX4_load (wsV RX4 88 RX0 yX0_firstBlock wsX0_firstBlock) := goodIn_app (goodIn_of _ (by decide +kernel)) ggX4_load_X0_firstBlock
set_option maxRecDepth 20000 in
theorem ggX4_load_X0_isText : GoodIn wsX4_load wsX0_isText := goodIn_r _ [71, 23, 60, 61, 62, 20, 63, 25, 64, 65, 66, 9, 67, 35, 36, 37, 38, 39, 72, 73, 74, 75, 150, 151, 152, 153, 146, 147, 148, 149] (by decide +kernel) (by decide +kernel)
set_option maxRecDepth 20000 in
theorem gX4_load_X0_isText : GoodIn wsX4_load (wsV RX4 92 RX0 yX0_isText wsX0_isText) := goodIn_app (goodIn_of _ (by decide +kernel)) ggX4_load_X0_isText
set_option maxRecDepth 20000 in
theorem ggX4_load_X4_gatherContent : GoodIn wsX4_load wsX4_gatherContent := goodIn_r _ [79, 3, 1, 80, 81, 82, 83, 84, 85, 86, 45, 46, 9, 47, 35, 36, 37, 38, 39, 87, 32, 33, 34, 88, 89, 90, 91, 92, 93, 65, 66, 67, 94, 95, 96, 97, 98, 99, 100, 101, 102, 103, 104, 105, 106, 107, 137, 138, 139, 140, 141, 142, 143, 144, 145, 154, 155, 146, 147, 148, 149] (by decide +kernel) (by decide +kernel)
set_option maxRecDepth 20000 in
theorem gX4_load_X4_gatherContent : GoodIn wsX4_load (wsV RX4 96 RX4 yX4_gatherContent wsX4_gatherContent) := goodIn_app (goodIn_of _ (by decide +kernel)) ggX4_load_X4_gatherContent
set_option maxRecDepth 20000 in
theorem ggX4_load_X2_formOf : GoodIn wsX4_load wsX2_formOf := goodIn_r _ [75, 35, 36, 37, 9, 38, 39, 146, 147, 148, 149] (by decide +kernel) (by decide +kernel)
set_option maxRecDepth 20000 in
theorem gX4_load_X2_formOf : GoodIn wsX4_load (wsV RX4 99 RX2 yX2_formOf wsX2_formOf) := goodIn_app (goodIn_of _ (by decide +kernel)) ggX4_load_X2_formOf
set_option maxRecDepth 20000 in
theorem ggX4_load_X1_decode : GoodIn wsX4_load wsX1_decode := goodIn_r _ [112, 113, 81, 82, 83, 84, 85, 114, 95, 96, 97, 115, 116, 117, 118, 107, 119, 120, 111, 121, 122, 104, 105, 106, 123, 124, 125, 126, 127, 128, 129, 130, 131, 154, 155] (by decide +kernel) (by decide +kernel)
set_option maxRecDepth 20000 in
theorem gX4_load_X1_decode : GoodIn wsX4_load (va_wsS RX4 102 yX1_decode wsX1_decode) := goodIn_app (goodIn_of _ (by decide +kernel)) ggX4_load_X1_decode
set_option maxRecDepth 20000 in
theorem ggX4_load_X3_becomeLike : GoodIn wsX4_load wsX3_becomeLike := goodIn_r _ [135, 85, 136, 81, 82, 83, 84, 130, 116, 117, 118, 107, 131, 104, 105, 106, 154, 155] (by decide +kernel) (by decide +kernel)
set_option maxRecDepth 20000 in
theorem gX4_load_X3_becomeLike : GoodIn wsX4_load (wsV RX4 73 RX3 yX3_becomeLike wsX3_becomeLike) := goodIn_app (goodIn_of _ (by decide +kernel)) ggX4_load_X3_becomeLike
set_option maxRecDepth 20000 in
theorem ggX4_load_X3_size : GoodIn wsX4_load wsX3_size := goodIn_r _ [97, 85, 154, 155] (by decide +kernel) (by decide +kernel)
set_option maxRecDepth 20000 in
theorem gX4_load_X3_size : GoodIn wsX4_load (wsV RX4 52 RX3 yX3_size wsX3_size) := goodIn_app (goodIn_of _ (by decide +kernel)) ggX4_load_X3_size
theorem dX4_load_0 : decode cX4_load 0 = .ok (.aload_n 0, 1) := by decide +kernel
theorem dX4_load_1 : decode cX4_load 1 = .ok (.getfield 10, 3) := by decide +kernel
theorem dX4_load_4 : decode cX4_load 4 = .ok (.invokevirtual 63, 3) := by decide +kernel
theorem dX4_load_7 : decode cX4_load 7 = .ok (.ifCond .ne 6, 3) := by decide +kernel
theorem dX4_load_10 : decode cX4_load 10 = .ok (.bipush (-4), 2) := by decide +kernel
theorem dX4_load_12 : decode cX4_load 12 = .ok (.ireturn, 1) := by decide +kernel
theorem dX4_load_13 : decode cX4_load 13 = .ok (.aload_n 0, 1) := by decide +kernel
theorem dX4_load_14 : decode cX4_load 14 = .ok (.invokevirtual 84, 3) := by decide +kernel
theorem dX4_load_17 : decode cX4_load 17 = .ok (.iload_n 1, 1) := by decide +kernel
theorem dX4_load_18 : decode cX4_load 18 = .ok (.invokevirtual 88, 3) := by decide +kernel
theorem dX4_load_21 : decode cX4_load 21 = .ok (.istore_n 2, 1) := by decide +kernel
theorem dX4_load_22 : decode cX4_load 22 = .ok (.aload_n 0, 1) := by decide +kernel
theorem dX4_load_23 : decode cX4_load 23 = .ok (.getfield 21, 3) := by decide +kernel
theorem dX4_load_26 : decode cX4_load 26 = .ok (.iload_n 2, 1) := by decide +kernel
theorem dX4_load_27 : decode cX4_load 27 = .ok (.invokevirtual 92, 3) := by decide +kernel
theorem dX4_load_30 : decode cX4_load 30 = .ok (.ifCond .ne 6, 3) := by decide +kernel
theorem dX4_load_33 : decode cX4_load 33 = .ok (.bipush (-2), 2) := by decide +kernel
theorem dX4_load_35 : decode cX4_load 35 = .ok (.ireturn, 1) := by decide +kernel
theorem dX4_load_36 : decode cX4_load 36 = .ok (.aload_n 0, 1) := by decide +kernel
theorem dX4_load_37 : decode cX4_load 37 = .ok (.iload_n 2, 1) := by decide +kernel
theorem dX4_load_38 : decode cX4_load 38 = .ok (.invokevirtual 96, 3) := by decide +kernel
theorem dX4_load_41 : decode cX4_load 41 = .ok (.aload_n 0, 1) := by decide +kernel
theorem dX4_load_42 : decode cX4_load 42 = .ok (.getfield 10, 3) := by decide +kernel
theorem dX4_load_45 : decode cX4_load 45 = .ok (.iload_n 2, 1) := by decide +kernel
theorem dX4_load_46 : decode cX4_load 46 = .ok (.invokevirtual 99, 3) := by decide +kernel
theorem dX4_load_49 : decode cX4_load 49 = .ok (.iconst 1, 1) := by decide +kernel
theorem dX4_load_50 : decode cX4_load 50 = .ok (.if_icmp .ne 29, 3) := by decide +kernel
theorem dX4_load_53 : decode cX4_load 53 = .ok (.aload_n 0, 1) := by decide +kernel
theorem dX4_load_54 : decode cX4_load 54 = .ok (.getfield 35, 3) := by decide +kernel
theorem dX4_load_57 : decode cX4_load 57 = .ok (.aload_n 0, 1) := by decide +kernel
theorem dX4_load_58 : decode cX4_load 58 = .ok (.getfield 38, 3) := by decide +kernel
theorem dX4_load_61 : decode cX4_load 61 = .ok (.invokestatic 102, 3) := by decide +kernel
theorem dX4_load_64 : decode cX4_load 64 = .ok (.pop, 1) := by decide +kernel
theorem dX4_load_65 : decode cX4_load 65 = .ok (.aload_n 0, 1) := by decide +kernel
theorem dX4_load_66 : decode cX4_load 66 = .ok (.getfield 32, 3) := by decide +kernel
theorem dX4_load_69 : decode cX4_load 69 = .ok (.aload_n 0, 1) := by decide +kernel
theorem dX4_load_70 : decode cX4_load 70 = .ok (.getfield 38, 3) := by decide +kernel
theorem dX4_load_73 : decode cX4_load 73 = .ok (.invokevirtual 73, 3) := by decide +kernel
theorem dX4_load_76 : decode cX4_load 76 = .ok (.goto 14, 3) := by decide +kernel
theorem dX4_load_79 : decode cX4_load 79 = .ok (.aload_n 0, 1) := by decide +kernel
theorem dX4_load_80 : decode cX4_load 80 = .ok (.getfield 32, 3) := by decide +kernel
theorem dX4_load_83 : decode cX4_load 83 = .ok (.aload_n 0, 1) := by decide +kernel
theorem dX4_load_84 : decode cX4_load 84 = .ok (.getfield 35, 3) := by decide +kernel
theorem dX4_load_87 : decode cX4_load 87 = .ok (.invokevirtual 73, 3) := by decide +kernel
theorem dX4_load_90 : decode cX4_load 90 = .ok (.aload_n 0, 1) := by decide +kernel
theorem dX4_load_91 : decode cX4_load 91 = .ok (.getfield 32, 3) := by decide +kernel
theorem dX4_load_94 : decode cX4_load 94 = .ok (.invokevirtual 52, 3) := by decide +kernel
theorem dX4_load_97 : decode cX4_load 97 = .ok (.ireturn, 1) := by decide +kernel
set_option maxRecDepth 20000 in
theorem ggX4_out_X3_size : GoodIn wsX4_out wsX3_size := goodIn_r _ [6, 7, 22, 23] (by decide +kernel) (by decide +kernel)
set_option maxRecDepth 20000 in
theorem gX4_out_X3_size : GoodIn wsX4_out (wsV RX4 52 RX3 yX3_size wsX3_size) := goodIn_app (goodIn_of _ (by decide +kernel)) ggX4_out_X3_size
set_option maxRecDepth 20000 in
theorem ggX4_out_X3_at : GoodIn wsX4_out wsX3_at := goodIn_r _ [11, 7, 12, 22, 23] (by decide +kernel) (by decide +kernel)
set_option maxRecDepth 20000 in
theorem gX4_out_X3_at : GoodIn wsX4_out (wsV RX4 106 RX3 yX3_at wsX3_at) := goodIn_app (goodIn_of _ (by decide +kernel)) ggX4_out_X3_at
theorem dX4_out_0 : decode cX4_out 0 = .ok (.iload_n 1, 1) := by decide +kernel
theorem dX4_out_1 : decode cX4_out 1 = .ok (.ifCond .lt 14, 3) := by decide +kernel
theorem dX4_out_4 : decode cX4_out 4 = .ok (.iload_n 1, 1) := by decide +kernel
theorem dX4_out_5 : decode cX4_out 5 = .ok (.aload_n 0, 1) := by decide +kernel
theorem dX4_out_6 : decode cX4_out 6 = .ok (.getfield 32, 3) := by decide +kernel
theorem dX4_out_9 : decode cX4_out 9 = .ok (.invokevirtual 52, 3) := by decide +kernel
theorem dX4_out_12 : decode cX4_out 12 = .ok (.if_icmp .lt 5, 3) := by decide +kernel
theorem dX4_out_15 : decode cX4_out 15 = .ok (.iconst (-1), 1) := by decide +kernel
theorem dX4_out_16 : decode cX4_out 16 = .ok (.ireturn, 1) := by decide +kernel
theorem dX4_out_17 : decode cX4_out 17 = .ok (.aload_n 0, 1) := by decide +kernel
theorem dX4_out_18 : decode cX4_out 18 = .ok (.getfield 32, 3) := by decide +kernel
theorem dX4_out_21 : decode cX4_out 21 = .ok (.iload_n 1, 1) := by decide +kernel
theorem dX4_out_22 : decode cX4_out 22 = .ok (.invokevirtual 106, 3) := by decide +kernel
theorem dX4_out_25 : decode cX4_out 25 = .ok (.ireturn, 1) := by decide +kernel
set_option maxRecDepth 20000 in
theorem ggX4_clean_X2_isOn : GoodIn wsX4_clean wsX2_isOn := goodIn_r _ [8, 9, 84, 85, 86, 87] (by decide +kernel) (by decide +kernel)
set_option maxRecDepth 20000 in
theorem gX4_clean_X2_isOn : GoodIn wsX4_clean (wsV RX4 63 RX2 yX2_isOn wsX2_isOn) := goodIn_app (goodIn_of _ (by decide +kernel)) ggX4_clean_X2_isOn
set_option maxRecDepth 20000 in
theorem ggX4_clean_X4_surveyed : GoodIn wsX4_clean wsX4_surveyed := goodIn_r _ [14, 2, 15, 16, 17, 18, 19, 20, 21, 22, 23, 24, 25, 26, 7, 27, 28, 29, 30, 31, 32, 33, 34, 35, 36, 37, 38, 39, 40, 41, 42, 43, 44, 45, 46, 47, 48, 49, 50, 51, 52, 53, 75, 76, 77, 78, 79, 80, 81, 82, 83, 88, 89, 90, 91, 84, 85, 86, 87] (by decide +kernel) (by decide +kernel)
set_option maxRecDepth 20000 in
theorem gX4_clean_X4_surveyed : GoodIn wsX4_clean (wsV RX4 84 RX4 yX4_surveyed wsX4_surveyed) := goodIn_app (goodIn_of _ (by decide +kernel)) ggX4_clean_X4_surveyed
set_option maxRecDepth 20000 in
theorem ggX4_clean_X0_isLeftOver : GoodIn wsX4_clean wsX0_isLeftOver := goodIn_r _ [57, 21, 58, 59, 60, 18, 61, 23, 29, 30, 31, 7, 32, 33, 34, 35, 36, 37, 88, 89, 90, 91, 84, 85, 86, 87] (by decide +kernel) (by decide +kernel)
set_option maxRecDepth 20000 in
theorem gX4_clean_X0_isLeftOver : GoodIn wsX4_clean (wsV RX4 109 RX0 yX0_isLeftOver wsX0_isLeftOver) := goodIn_app (goodIn_of _ (by decide +kernel)) ggX4_clean_X0_isLeftOver
set_option maxRecDepth 20000 in
theorem ggX4_clean_X2_write : GoodIn wsX4_clean wsX2_write := goodIn_r _ [65, 9, 66, 37, 28, 84, 85, 86, 87] (by decide +kernel) (by decide +kernel)
set_option maxRecDepth 20000 in
theorem gX4_clean_X2_write : GoodIn wsX4_clean (wsV RX4 112 RX2 yX2_write wsX2_write) := goodIn_app (goodIn_of _ (by decide +kernel)) ggX4_clean_X2_write
set_option maxRecDepth 20000 in
theorem ggX4_clean_X0_isLiveGrave : GoodIn wsX4_clean wsX0_isLiveGrave := goodIn_r _ [70, 21, 58, 59, 60, 18, 61, 23, 71, 72, 73, 7, 74, 33, 34, 35, 36, 37, 88, 89, 90, 91, 84, 85, 86, 87] (by decide +kernel) (by decide +kernel)
set_option maxRecDepth 20000 in
theorem gX4_clean_X0_isLiveGrave : GoodIn wsX4_clean (wsV RX4 116 RX0 yX0_isLiveGrave wsX0_isLiveGrave) := goodIn_app (goodIn_of _ (by decide +kernel)) ggX4_clean_X0_isLiveGrave
theorem dX4_clean_0 : decode cX4_clean 0 = .ok (.aload_n 0, 1) := by decide +kernel
theorem dX4_clean_1 : decode cX4_clean 1 = .ok (.getfield 10, 3) := by decide +kernel
theorem dX4_clean_4 : decode cX4_clean 4 = .ok (.invokevirtual 63, 3) := by decide +kernel
theorem dX4_clean_7 : decode cX4_clean 7 = .ok (.ifCond .ne 6, 3) := by decide +kernel
theorem dX4_clean_10 : decode cX4_clean 10 = .ok (.bipush (-4), 2) := by decide +kernel
theorem dX4_clean_12 : decode cX4_clean 12 = .ok (.ireturn, 1) := by decide +kernel
theorem dX4_clean_13 : decode cX4_clean 13 = .ok (.aload_n 0, 1) := by decide +kernel
theorem dX4_clean_14 : decode cX4_clean 14 = .ok (.invokevirtual 84, 3) := by decide +kernel
theorem dX4_clean_17 : decode cX4_clean 17 = .ok (.pop, 1) := by decide +kernel
theorem dX4_clean_18 : decode cX4_clean 18 = .ok (.iconst 0, 1) := by decide +kernel
theorem dX4_clean_19 : decode cX4_clean 19 = .ok (.istore_n 1, 1) := by decide +kernel
theorem dX4_clean_20 : decode cX4_clean 20 = .ok (.iconst 0, 1) := by decide +kernel
theorem dX4_clean_21 : decode cX4_clean 21 = .ok (.istore_n 2, 1) := by decide +kernel
theorem dX4_clean_22 : decode cX4_clean 22 = .ok (.iload_n 2, 1) := by decide +kernel
theorem dX4_clean_23 : decode cX4_clean 23 = .ok (.bipush 64, 2) := by decide +kernel
theorem dX4_clean_25 : decode cX4_clean 25 = .ok (.if_icmp .ge 41, 3) := by decide +kernel
theorem dX4_clean_28 : decode cX4_clean 28 = .ok (.aload_n 0, 1) := by decide +kernel
theorem dX4_clean_29 : decode cX4_clean 29 = .ok (.getfield 21, 3) := by decide +kernel
theorem dX4_clean_32 : decode cX4_clean 32 = .ok (.iload_n 2, 1) := by decide +kernel
theorem dX4_clean_33 : decode cX4_clean 33 = .ok (.invokevirtual 109, 3) := by decide +kernel
theorem dX4_clean_36 : decode cX4_clean 36 = .ok (.ifCond .eq 24, 3) := by decide +kernel
theorem dX4_clean_39 : decode cX4_clean 39 = .ok (.aload_n 0, 1) := by decide +kernel
theorem dX4_clean_40 : decode cX4_clean 40 = .ok (.getfield 10, 3) := by decide +kernel
theorem dX4_clean_43 : decode cX4_clean 43 = .ok (.iload_n 2, 1) := by decide +kernel
theorem dX4_clean_44 : decode cX4_clean 44 = .ok (.aload_n 0, 1) := by decide +kernel
theorem dX4_clean_45 : decode cX4_clean 45 = .ok (.getfield 45, 3) := by decide +kernel
theorem dX4_clean_48 : decode cX4_clean 48 = .ok (.invokevirtual 112, 3) := by decide +kernel
theorem dX4_clean_51 : decode cX4_clean 51 = .ok (.ifCond .ne 6, 3) := by decide +kernel
theorem dX4_clean_54 : decode cX4_clean 54 = .ok (.bipush (-4), 2) := by decide +kernel
theorem dX4_clean_56 : decode cX4_clean 56 = .ok (.ireturn, 1) := by decide +kernel
theorem dX4_clean_57 : decode cX4_clean 57 = .ok (.iinc 1 1, 3) := by decide +kernel
theorem dX4_clean_60 : decode cX4_clean 60 = .ok (.iinc 2 1, 3) := by decide +kernel
theorem dX4_clean_63 : decode cX4_clean 63 = .ok (.goto (-41), 3) := by decide +kernel
theorem dX4_clean_66 : decode cX4_clean 66 = .ok (.iconst 0, 1) := by decide +kernel
theorem dX4_clean_67 : decode cX4_clean 67 = .ok (.istore_n 2, 1) := by decide +kernel
theorem dX4_clean_68 : decode cX4_clean 68 = .ok (.iload_n 2, 1) := by decide +kernel
theorem dX4_clean_69 : decode cX4_clean 69 = .ok (.bipush 64, 2) := by decide +kernel
theorem dX4_clean_71 : decode cX4_clean 71 = .ok (.if_icmp .ge 41, 3) := by decide +kernel
theorem dX4_clean_74 : decode cX4_clean 74 = .ok (.aload_n 0, 1) := by decide +kernel
theorem dX4_clean_75 : decode cX4_clean 75 = .ok (.getfield 21, 3) := by decide +kernel
theorem dX4_clean_78 : decode cX4_clean 78 = .ok (.iload_n 2, 1) := by decide +kernel
theorem dX4_clean_79 : decode cX4_clean 79 = .ok (.invokevirtual 116, 3) := by decide +kernel
theorem dX4_clean_82 : decode cX4_clean 82 = .ok (.ifCond .eq 24, 3) := by decide +kernel
theorem dX4_clean_85 : decode cX4_clean 85 = .ok (.aload_n 0, 1) := by decide +kernel
theorem dX4_clean_86 : decode cX4_clean 86 = .ok (.getfield 10, 3) := by decide +kernel
theorem dX4_clean_89 : decode cX4_clean 89 = .ok (.iload_n 2, 1) := by decide +kernel
theorem dX4_clean_90 : decode cX4_clean 90 = .ok (.aload_n 0, 1) := by decide +kernel
theorem dX4_clean_91 : decode cX4_clean 91 = .ok (.getfield 45, 3) := by decide +kernel
theorem dX4_clean_94 : decode cX4_clean 94 = .ok (.invokevirtual 112, 3) := by decide +kernel
theorem dX4_clean_97 : decode cX4_clean 97 = .ok (.ifCond .ne 6, 3) := by decide +kernel
theorem dX4_clean_100 : decode cX4_clean 100 = .ok (.bipush (-4), 2) := by decide +kernel
theorem dX4_clean_102 : decode cX4_clean 102 = .ok (.ireturn, 1) := by decide +kernel
theorem dX4_clean_103 : decode cX4_clean 103 = .ok (.iinc 1 1, 3) := by decide +kernel
theorem dX4_clean_106 : decode cX4_clean 106 = .ok (.iinc 2 1, 3) := by decide +kernel
theorem dX4_clean_109 : decode cX4_clean 109 = .ok (.goto (-41), 3) := by decide +kernel
theorem dX4_clean_112 : decode cX4_clean 112 = .ok (.iload_n 1, 1) := by decide +kernel
theorem dX4_clean_113 : decode cX4_clean 113 = .ok (.ireturn, 1) := by decide +kernel
set_option maxRecDepth 20000 in
theorem ggX4_power_X2_isOn : GoodIn wsX4_power wsX2_isOn := goodIn_r _ [10, 11, 30, 31, 32, 33] (by decide +kernel) (by decide +kernel)
set_option maxRecDepth 20000 in
theorem gX4_power_X2_isOn : GoodIn wsX4_power (wsV RX4 63 RX2 yX2_isOn wsX2_isOn) := goodIn_app (goodIn_of _ (by decide +kernel)) ggX4_power_X2_isOn
set_option maxRecDepth 20000 in
theorem ggX4_power_X2_writesLeft : GoodIn wsX4_power wsX2_writesLeft := goodIn_r _ [15, 16, 30, 31, 32, 33] (by decide +kernel) (by decide +kernel)
set_option maxRecDepth 20000 in
theorem gX4_power_X2_writesLeft : GoodIn wsX4_power (wsV RX4 122 RX2 yX2_writesLeft wsX2_writesLeft) := goodIn_app (goodIn_of _ (by decide +kernel)) ggX4_power_X2_writesLeft
set_option maxRecDepth 20000 in
theorem ggX4_power_X2_allowWrites : GoodIn wsX4_power wsX2_allowWrites := goodIn_r _ [20, 16, 30, 31, 32, 33] (by decide +kernel) (by decide +kernel)
set_option maxRecDepth 20000 in
theorem gX4_power_X2_allowWrites : GoodIn wsX4_power (wsV RX4 125 RX2 yX2_allowWrites wsX2_allowWrites) := goodIn_app (goodIn_of _ (by decide +kernel)) ggX4_power_X2_allowWrites
theorem dX4_power_0 : decode cX4_power 0 = .ok (.iload_n 1, 1) := by decide +kernel
theorem dX4_power_1 : decode cX4_power 1 = .ok (.iconst (-1), 1) := by decide +kernel
theorem dX4_power_2 : decode cX4_power 2 = .ok (.if_icmp .lt 10, 3) := by decide +kernel
theorem dX4_power_5 : decode cX4_power 5 = .ok (.iload_n 1, 1) := by decide +kernel
theorem dX4_power_6 : decode cX4_power 6 = .ok (.sipush 1000, 3) := by decide +kernel
theorem dX4_power_9 : decode cX4_power 9 = .ok (.if_icmp .le 11, 3) := by decide +kernel
theorem dX4_power_12 : decode cX4_power 12 = .ok (.new 56, 3) := by decide +kernel
theorem dX4_power_15 : decode cX4_power 15 = .ok (.dup, 1) := by decide +kernel
theorem dX4_power_16 : decode cX4_power 16 = .ok (.invokespecial 58, 3) := by decide +kernel
theorem dX4_power_19 : decode cX4_power 19 = .ok (.athrow, 1) := by decide +kernel
theorem dX4_power_20 : decode cX4_power 20 = .ok (.aload_n 0, 1) := by decide +kernel
theorem dX4_power_21 : decode cX4_power 21 = .ok (.getfield 10, 3) := by decide +kernel
theorem dX4_power_24 : decode cX4_power 24 = .ok (.invokevirtual 63, 3) := by decide +kernel
theorem dX4_power_27 : decode cX4_power 27 = .ok (.ifCond .ne 11, 3) := by decide +kernel
theorem dX4_power_30 : decode cX4_power 30 = .ok (.new 119, 3) := by decide +kernel
theorem dX4_power_33 : decode cX4_power 33 = .ok (.dup, 1) := by decide +kernel
theorem dX4_power_34 : decode cX4_power 34 = .ok (.invokespecial 121, 3) := by decide +kernel
theorem dX4_power_37 : decode cX4_power 37 = .ok (.athrow, 1) := by decide +kernel
theorem dX4_power_38 : decode cX4_power 38 = .ok (.aload_n 0, 1) := by decide +kernel
theorem dX4_power_39 : decode cX4_power 39 = .ok (.getfield 10, 3) := by decide +kernel
theorem dX4_power_42 : decode cX4_power 42 = .ok (.invokevirtual 122, 3) := by decide +kernel
theorem dX4_power_45 : decode cX4_power 45 = .ok (.istore_n 2, 1) := by decide +kernel
theorem dX4_power_46 : decode cX4_power 46 = .ok (.aload_n 0, 1) := by decide +kernel
theorem dX4_power_47 : decode cX4_power 47 = .ok (.getfield 10, 3) := by decide +kernel
theorem dX4_power_50 : decode cX4_power 50 = .ok (.iload_n 1, 1) := by decide +kernel
theorem dX4_power_51 : decode cX4_power 51 = .ok (.invokevirtual 125, 3) := by decide +kernel
theorem dX4_power_54 : decode cX4_power 54 = .ok (.iload_n 2, 1) := by decide +kernel
theorem dX4_power_55 : decode cX4_power 55 = .ok (.ireturn, 1) := by decide +kernel
set_option maxRecDepth 20000 in
theorem ggX4_recover_X2_switchOn : GoodIn wsX4_recover wsX2_switchOn := goodIn_r _ [9, 10, 11, 92, 93, 94, 95] (by decide +kernel) (by decide +kernel)
set_option maxRecDepth 20000 in
theorem gX4_recover_X2_switchOn : GoodIn wsX4_recover (wsV RX4 128 RX2 yX2_switchOn wsX2_switchOn) := goodIn_app (goodIn_of _ (by decide +kernel)) ggX4_recover_X2_switchOn
set_option maxRecDepth 20000 in
theorem ggX4_recover_X3_empty : GoodIn wsX4_recover wsX3_empty := goodIn_r _ [16, 17, 96, 97] (by decide +kernel) (by decide +kernel)
set_option maxRecDepth 20000 in
theorem gX4_recover_X3_empty : GoodIn wsX4_recover (wsV RX4 77 RX3 yX3_empty wsX3_empty) := goodIn_app (goodIn_of _ (by decide +kernel)) ggX4_recover_X3_empty
set_option maxRecDepth 20000 in
theorem ggX4_recover_X4_surveyed : GoodIn wsX4_recover wsX4_surveyed := goodIn_r _ [22, 23, 24, 25, 26, 27, 28, 29, 30, 31, 32, 33, 34, 35, 8, 36, 37, 38, 39, 40, 41, 42, 43, 44, 45, 46, 47, 48, 49, 50, 51, 52, 53, 54, 55, 56, 57, 58, 59, 60, 61, 62, 83, 84, 85, 86, 87, 88, 89, 90, 91, 98, 99, 100, 101, 92, 93, 94, 95] (by decide +kernel) (by decide +kernel)
set_option maxRecDepth 20000 in
theorem gX4_recover_X4_surveyed : GoodIn wsX4_recover (wsV RX4 84 RX4 yX4_surveyed wsX4_surveyed) := goodIn_app (goodIn_of _ (by decide +kernel)) ggX4_recover_X4_surveyed
set_option maxRecDepth 20000 in
theorem ggX4_recover_X0_countTexts : GoodIn wsX4_recover wsX0_countTexts := goodIn_r _ [66, 67, 68, 69, 27, 70, 30, 71, 72, 73, 74, 32, 75, 76, 77, 8, 78, 42, 43, 44, 45, 46, 79, 80, 81, 82, 98, 99, 100, 101, 92, 93, 94, 95] (by decide +kernel) (by decide +kernel)
set_option maxRecDepth 20000 in
theorem gX4_recover_X0_countTexts : GoodIn wsX4_recover (wsV RX4 131 RX0 yX0_countTexts wsX0_countTexts) := goodIn_app (goodIn_of _ (by decide +kernel)) ggX4_recover_X0_countTexts
theorem dX4_recover_0 : decode cX4_recover 0 = .ok (.aload_n 0, 1) := by decide +kernel
theorem dX4_recover_1 : decode cX4_recover 1 = .ok (.getfield 10, 3) := by decide +kernel
theorem dX4_recover_4 : decode cX4_recover 4 = .ok (.invokevirtual 128, 3) := by decide +kernel
theorem dX4_recover_7 : decode cX4_recover 7 = .ok (.aload_n 0, 1) := by decide +kernel
theorem dX4_recover_8 : decode cX4_recover 8 = .ok (.getfield 28, 3) := by decide +kernel
theorem dX4_recover_11 : decode cX4_recover 11 = .ok (.invokevirtual 77, 3) := by decide +kernel
theorem dX4_recover_14 : decode cX4_recover 14 = .ok (.aload_n 0, 1) := by decide +kernel
theorem dX4_recover_15 : decode cX4_recover 15 = .ok (.getfield 32, 3) := by decide +kernel
theorem dX4_recover_18 : decode cX4_recover 18 = .ok (.invokevirtual 77, 3) := by decide +kernel
theorem dX4_recover_21 : decode cX4_recover 21 = .ok (.aload_n 0, 1) := by decide +kernel
theorem dX4_recover_22 : decode cX4_recover 22 = .ok (.iconst (-1), 1) := by decide +kernel
theorem dX4_recover_23 : decode cX4_recover 23 = .ok (.putfield 48, 3) := by decide +kernel
theorem dX4_recover_26 : decode cX4_recover 26 = .ok (.aload_n 0, 1) := by decide +kernel
theorem dX4_recover_27 : decode cX4_recover 27 = .ok (.invokevirtual 84, 3) := by decide +kernel
theorem dX4_recover_30 : decode cX4_recover 30 = .ok (.invokevirtual 131, 3) := by decide +kernel
theorem dX4_recover_33 : decode cX4_recover 33 = .ok (.ireturn, 1) := by decide +kernel
set_option maxRecDepth 20000 in
theorem ggX4_word_X2_wordAt : GoodIn wsX4_word wsX2_wordAt := goodIn_r _ [8, 9, 19, 20, 21, 22] (by decide +kernel) (by decide +kernel)
set_option maxRecDepth 20000 in
theorem gX4_word_X2_wordAt : GoodIn wsX4_word (wsV RX4 137 RX2 yX2_wordAt wsX2_wordAt) := goodIn_app (goodIn_of _ (by decide +kernel)) ggX4_word_X2_wordAt
theorem dX4_word_0 : decode cX4_word 0 = .ok (.iload_n 1, 1) := by decide +kernel
theorem dX4_word_1 : decode cX4_word 1 = .ok (.ifCond .lt 19, 3) := by decide +kernel
theorem dX4_word_4 : decode cX4_word 4 = .ok (.iload_n 1, 1) := by decide +kernel
theorem dX4_word_5 : decode cX4_word 5 = .ok (.bipush 64, 2) := by decide +kernel
theorem dX4_word_7 : decode cX4_word 7 = .ok (.if_icmp .ge 13, 3) := by decide +kernel
theorem dX4_word_10 : decode cX4_word 10 = .ok (.iload_n 2, 1) := by decide +kernel
theorem dX4_word_11 : decode cX4_word 11 = .ok (.ifCond .lt 9, 3) := by decide +kernel
theorem dX4_word_14 : decode cX4_word 14 = .ok (.iload_n 2, 1) := by decide +kernel
theorem dX4_word_15 : decode cX4_word 15 = .ok (.bipush 8, 2) := by decide +kernel
theorem dX4_word_17 : decode cX4_word 17 = .ok (.if_icmp .lt 11, 3) := by decide +kernel
theorem dX4_word_20 : decode cX4_word 20 = .ok (.new 134, 3) := by decide +kernel
theorem dX4_word_23 : decode cX4_word 23 = .ok (.dup, 1) := by decide +kernel
theorem dX4_word_24 : decode cX4_word 24 = .ok (.invokespecial 136, 3) := by decide +kernel
theorem dX4_word_27 : decode cX4_word 27 = .ok (.athrow, 1) := by decide +kernel
theorem dX4_word_28 : decode cX4_word 28 = .ok (.aload_n 0, 1) := by decide +kernel
theorem dX4_word_29 : decode cX4_word 29 = .ok (.getfield 10, 3) := by decide +kernel
theorem dX4_word_32 : decode cX4_word 32 = .ok (.iload_n 1, 1) := by decide +kernel
theorem dX4_word_33 : decode cX4_word 33 = .ok (.iload_n 2, 1) := by decide +kernel
theorem dX4_word_34 : decode cX4_word 34 = .ok (.invokevirtual 137, 3) := by decide +kernel
theorem dX4_word_37 : decode cX4_word 37 = .ok (.ireturn, 1) := by decide +kernel
set_option maxRecDepth 20000 in
theorem ggX4_told_X4_surveyed : GoodIn wsX4_told wsX4_surveyed := goodIn_r _ [9, 10, 11, 12, 13, 14, 15, 16, 17, 18, 19, 20, 21, 22, 23, 24, 25, 26, 27, 28, 29, 30, 31, 32, 33, 34, 35, 36, 37, 38, 39, 40, 41, 42, 43, 44, 45, 46, 47, 48, 49, 50, 104, 105, 106, 107, 108, 109, 110, 111, 112, 113, 114, 115, 116, 117, 118, 119, 120] (by decide +kernel) (by decide +kernel)
set_option maxRecDepth 20000 in
theorem gX4_told_X4_surveyed : GoodIn wsX4_told (wsV RX4 84 RX4 yX4_surveyed wsX4_surveyed) := goodIn_app (goodIn_of _ (by decide +kernel)) ggX4_told_X4_surveyed
set_option maxRecDepth 20000 in
theorem ggX4_told_X0_countTexts : GoodIn wsX4_told wsX0_countTexts := goodIn_r _ [54, 55, 56, 57, 14, 58, 17, 59, 60, 61, 62, 19, 63, 64, 65, 23, 66, 30, 31, 32, 33, 34, 67, 68, 69, 70, 113, 114, 115, 116, 117, 118, 119, 120] (by decide +kernel) (by decide +kernel)
set_option maxRecDepth 20000 in
theorem gX4_told_X0_countTexts : GoodIn wsX4_told (wsV RX4 131 RX0 yX0_countTexts wsX0_countTexts) := goodIn_app (goodIn_of _ (by decide +kernel)) ggX4_told_X0_countTexts
set_option maxRecDepth 20000 in
theorem ggX4_told_X0_countLive : GoodIn wsX4_told wsX0_countLive := goodIn_r _ [74, 59, 60, 61, 14, 62, 19, 113, 114, 115, 116] (by decide +kernel) (by decide +kernel)
set_option maxRecDepth 20000 in
theorem gX4_told_X0_countLive : GoodIn wsX4_told (wsV RX4 140 RX0 yX0_countLive wsX0_countLive) := goodIn_app (goodIn_of _ (by decide +kernel)) ggX4_told_X0_countLive
set_option maxRecDepth 20000 in
theorem ggX4_told_X0_countLiveGraves : GoodIn wsX4_told wsX0_countLiveGraves := goodIn_r _ [78, 79, 80, 81, 14, 82, 17, 59, 60, 61, 62, 19, 67, 68, 69, 23, 70, 30, 31, 32, 33, 34, 113, 114, 115, 116, 117, 118, 119, 120] (by decide +kernel) (by decide +kernel)
set_option maxRecDepth 20000 in
theorem gX4_told_X0_countLiveGraves : GoodIn wsX4_told (wsV RX4 143 RX0 yX0_countLiveGraves wsX0_countLiveGraves) := goodIn_app (goodIn_of _ (by decide +kernel)) ggX4_told_X0_countLiveGraves
set_option maxRecDepth 20000 in
theorem ggX4_told_X2_greatestNumber : GoodIn wsX4_told wsX2_greatestNumber := goodIn_r _ [86, 87, 88, 89, 90, 91, 27, 28, 23, 29, 30, 31, 32, 33, 34, 117, 118, 119, 120] (by decide +kernel) (by decide +kernel)
set_option maxRecDepth 20000 in
theorem gX4_told_X2_greatestNumber : GoodIn wsX4_told (wsV RX4 146 RX2 yX2_greatestNumber wsX2_greatestNumber) := goodIn_app (goodIn_of _ (by decide +kernel)) ggX4_told_X2_greatestNumber
set_option maxRecDepth 20000 in
theorem ggX4_told_X2_writesDone : GoodIn wsX4_told wsX2_writesDone := goodIn_r _ [24, 25, 117, 118, 119, 120] (by decide +kernel) (by decide +kernel)
set_option maxRecDepth 20000 in
theorem gX4_told_X2_writesDone : GoodIn wsX4_told (wsV RX4 149 RX2 yX2_writesDone wsX2_writesDone) := goodIn_app (goodIn_of _ (by decide +kernel)) ggX4_told_X2_writesDone
set_option maxRecDepth 20000 in
theorem ggX4_told_X2_isOn : GoodIn wsX4_told wsX2_isOn := goodIn_r _ [96, 97, 117, 118, 119, 120] (by decide +kernel) (by decide +kernel)
set_option maxRecDepth 20000 in
theorem gX4_told_X2_isOn : GoodIn wsX4_told (wsV RX4 63 RX2 yX2_isOn wsX2_isOn) := goodIn_app (goodIn_of _ (by decide +kernel)) ggX4_told_X2_isOn
set_option maxRecDepth 20000 in
theorem ggX4_told_X3_size : GoodIn wsX4_told wsX3_size := goodIn_r _ [102, 103, 121, 122] (by decide +kernel) (by decide +kernel)
set_option maxRecDepth 20000 in
theorem gX4_told_X3_size : GoodIn wsX4_told (wsV RX4 52 RX3 yX3_size wsX3_size) := goodIn_app (goodIn_of _ (by decide +kernel)) ggX4_told_X3_size
theorem dX4_told_0 : decode cX4_told 0 = .ok (.iload_n 1, 1) := by decide +kernel
theorem dX4_told_1 : decode cX4_told 1 = .ok (.tableswitch 122 0 7 #[47, 55, 63, 74, 82, 90, 98, 114], 47) := by decide +kernel
theorem dX4_told_48 : decode cX4_told 48 = .ok (.aload_n 0, 1) := by decide +kernel
theorem dX4_told_49 : decode cX4_told 49 = .ok (.invokevirtual 84, 3) := by decide +kernel
theorem dX4_told_52 : decode cX4_told 52 = .ok (.invokevirtual 131, 3) := by decide +kernel
theorem dX4_told_55 : decode cX4_told 55 = .ok (.ireturn, 1) := by decide +kernel
theorem dX4_told_56 : decode cX4_told 56 = .ok (.aload_n 0, 1) := by decide +kernel
theorem dX4_told_57 : decode cX4_told 57 = .ok (.invokevirtual 84, 3) := by decide +kernel
theorem dX4_told_60 : decode cX4_told 60 = .ok (.invokevirtual 140, 3) := by decide +kernel
theorem dX4_told_63 : decode cX4_told 63 = .ok (.ireturn, 1) := by decide +kernel
theorem dX4_told_64 : decode cX4_told 64 = .ok (.bipush 64, 2) := by decide +kernel
theorem dX4_told_66 : decode cX4_told 66 = .ok (.aload_n 0, 1) := by decide +kernel
theorem dX4_told_67 : decode cX4_told 67 = .ok (.invokevirtual 84, 3) := by decide +kernel
theorem dX4_told_70 : decode cX4_told 70 = .ok (.invokevirtual 140, 3) := by decide +kernel
theorem dX4_told_73 : decode cX4_told 73 = .ok (.isub, 1) := by decide +kernel
theorem dX4_told_74 : decode cX4_told 74 = .ok (.ireturn, 1) := by decide +kernel
theorem dX4_told_75 : decode cX4_told 75 = .ok (.aload_n 0, 1) := by decide +kernel
theorem dX4_told_76 : decode cX4_told 76 = .ok (.invokevirtual 84, 3) := by decide +kernel
theorem dX4_told_79 : decode cX4_told 79 = .ok (.invokevirtual 143, 3) := by decide +kernel
theorem dX4_told_82 : decode cX4_told 82 = .ok (.ireturn, 1) := by decide +kernel
theorem dX4_told_83 : decode cX4_told 83 = .ok (.aload_n 0, 1) := by decide +kernel
theorem dX4_told_84 : decode cX4_told 84 = .ok (.getfield 10, 3) := by decide +kernel
theorem dX4_told_87 : decode cX4_told 87 = .ok (.invokevirtual 146, 3) := by decide +kernel
theorem dX4_told_90 : decode cX4_told 90 = .ok (.ireturn, 1) := by decide +kernel
theorem dX4_told_91 : decode cX4_told 91 = .ok (.aload_n 0, 1) := by decide +kernel
theorem dX4_told_92 : decode cX4_told 92 = .ok (.getfield 10, 3) := by decide +kernel
theorem dX4_told_95 : decode cX4_told 95 = .ok (.invokevirtual 149, 3) := by decide +kernel
theorem dX4_told_98 : decode cX4_told 98 = .ok (.ireturn, 1) := by decide +kernel
theorem dX4_told_99 : decode cX4_told 99 = .ok (.aload_n 0, 1) := by decide +kernel
theorem dX4_told_100 : decode cX4_told 100 = .ok (.getfield 10, 3) := by decide +kernel
theorem dX4_told_103 : decode cX4_told 103 = .ok (.invokevirtual 63, 3) := by decide +kernel
theorem dX4_told_106 : decode cX4_told 106 = .ok (.ifCond .eq 7, 3) := by decide +kernel
theorem dX4_told_109 : decode cX4_told 109 = .ok (.iconst 1, 1) := by decide +kernel
theorem dX4_told_110 : decode cX4_told 110 = .ok (.goto 4, 3) := by decide +kernel
theorem dX4_told_113 : decode cX4_told 113 = .ok (.iconst 0, 1) := by decide +kernel
theorem dX4_told_114 : decode cX4_told 114 = .ok (.ireturn, 1) := by decide +kernel
theorem dX4_told_115 : decode cX4_told 115 = .ok (.aload_n 0, 1) := by decide +kernel
theorem dX4_told_116 : decode cX4_told 116 = .ok (.getfield 28, 3) := by decide +kernel
theorem dX4_told_119 : decode cX4_told 119 = .ok (.invokevirtual 52, 3) := by decide +kernel
theorem dX4_told_122 : decode cX4_told 122 = .ok (.ireturn, 1) := by decide +kernel
theorem dX4_told_123 : decode cX4_told 123 = .ok (.new 134, 3) := by decide +kernel
theorem dX4_told_126 : decode cX4_told 126 = .ok (.dup, 1) := by decide +kernel
theorem dX4_told_127 : decode cX4_told 127 = .ok (.invokespecial 136, 3) := by decide +kernel
theorem dX4_told_130 : decode cX4_told 130 = .ok (.athrow, 1) := by decide +kernel
set_option maxRecDepth 20000 in
theorem ggX4_number_X4_surveyed : GoodIn wsX4_number wsX4_surveyed := goodIn_r _ [7, 1, 8, 9, 10, 11, 12, 13, 14, 15, 16, 17, 18, 19, 20, 21, 22, 23, 24, 25, 26, 27, 28, 29, 30, 31, 32, 33, 34, 35, 36, 37, 38, 39, 40, 41, 42, 43, 44, 45, 46, 47, 69, 70, 71, 72, 73, 74, 75, 76, 77, 78, 79, 80, 81, 82, 83, 84, 85] (by decide +kernel) (by decide +kernel)
set_option maxRecDepth 20000 in
theorem gX4_number_X4_surveyed : GoodIn wsX4_number (wsV RX4 84 RX4 yX4_surveyed wsX4_surveyed) := goodIn_app (goodIn_of _ (by decide +kernel)) ggX4_number_X4_surveyed
set_option maxRecDepth 20000 in
theorem ggX4_number_X0_firstBlock : GoodIn wsX4_number wsX0_firstBlock := goodIn_r _ [51, 14, 52, 53, 54, 11, 55, 16, 56, 57, 58, 20, 59, 27, 28, 29, 30, 31, 44, 45, 46, 47, 78, 79, 80, 81, 82, 83, 84, 85] (by decide +kernel) (by decide +kernel)
set_option maxRecDepth 20000 in
theorem gX4_number_X0_firstBlock : GoodIn wsX4_number (wsV RX4 88 RX0 yX0_firstBlock wsX0_firstBlock) := goodIn_app (goodIn_of _ (by decide +kernel)) ggX4_number_X0_firstBlock
set_option maxRecDepth 20000 in
theorem ggX4_number_X0_isText : GoodIn wsX4_number wsX0_isText := goodIn_r _ [63, 14, 52, 53, 54, 11, 55, 16, 56, 57, 58, 20, 59, 27, 28, 29, 30, 31, 64, 65, 66, 67, 78, 79, 80, 81, 82, 83, 84, 85] (by decide +kernel) (by decide +kernel)
set_option maxRecDepth 20000 in
theorem gX4_number_X0_isText : GoodIn wsX4_number (wsV RX4 92 RX0 yX0_isText wsX0_isText) := goodIn_app (goodIn_of _ (by decide +kernel)) ggX4_number_X0_isText
set_option maxRecDepth 20000 in
theorem ggX4_number_X2_numberOf : GoodIn wsX4_number wsX2_numberOf := goodIn_r _ [26, 27, 28, 29, 20, 30, 31, 82, 83, 84, 85] (by decide +kernel) (by decide +kernel)
set_option maxRecDepth 20000 in
theorem gX4_number_X2_numberOf : GoodIn wsX4_number (wsV RX4 152 RX2 yX2_numberOf wsX2_numberOf) := goodIn_app (goodIn_of _ (by decide +kernel)) ggX4_number_X2_numberOf
theorem dX4_number_0 : decode cX4_number 0 = .ok (.aload_n 0, 1) := by decide +kernel
theorem dX4_number_1 : decode cX4_number 1 = .ok (.invokevirtual 84, 3) := by decide +kernel
theorem dX4_number_4 : decode cX4_number 4 = .ok (.iload_n 1, 1) := by decide +kernel
theorem dX4_number_5 : decode cX4_number 5 = .ok (.invokevirtual 88, 3) := by decide +kernel
theorem dX4_number_8 : decode cX4_number 8 = .ok (.istore_n 2, 1) := by decide +kernel
theorem dX4_number_9 : decode cX4_number 9 = .ok (.iload_n 2, 1) := by decide +kernel
theorem dX4_number_10 : decode cX4_number 10 = .ok (.iconst (-1), 1) := by decide +kernel
theorem dX4_number_11 : decode cX4_number 11 = .ok (.if_icmp .ne 6, 3) := by decide +kernel
theorem dX4_number_14 : decode cX4_number 14 = .ok (.bipush (-2), 2) := by decide +kernel
theorem dX4_number_16 : decode cX4_number 16 = .ok (.ireturn, 1) := by decide +kernel
theorem dX4_number_17 : decode cX4_number 17 = .ok (.aload_n 0, 1) := by decide +kernel
theorem dX4_number_18 : decode cX4_number 18 = .ok (.getfield 21, 3) := by decide +kernel
theorem dX4_number_21 : decode cX4_number 21 = .ok (.iload_n 2, 1) := by decide +kernel
theorem dX4_number_22 : decode cX4_number 22 = .ok (.invokevirtual 92, 3) := by decide +kernel
theorem dX4_number_25 : decode cX4_number 25 = .ok (.ifCond .eq 14, 3) := by decide +kernel
theorem dX4_number_28 : decode cX4_number 28 = .ok (.aload_n 0, 1) := by decide +kernel
theorem dX4_number_29 : decode cX4_number 29 = .ok (.getfield 10, 3) := by decide +kernel
theorem dX4_number_32 : decode cX4_number 32 = .ok (.iload_n 2, 1) := by decide +kernel
theorem dX4_number_33 : decode cX4_number 33 = .ok (.invokevirtual 152, 3) := by decide +kernel
theorem dX4_number_36 : decode cX4_number 36 = .ok (.goto 12, 3) := by decide +kernel
theorem dX4_number_39 : decode cX4_number 39 = .ok (.aload_n 0, 1) := by decide +kernel
theorem dX4_number_40 : decode cX4_number 40 = .ok (.getfield 10, 3) := by decide +kernel
theorem dX4_number_43 : decode cX4_number 43 = .ok (.iload_n 2, 1) := by decide +kernel
theorem dX4_number_44 : decode cX4_number 44 = .ok (.invokevirtual 152, 3) := by decide +kernel
theorem dX4_number_47 : decode cX4_number 47 = .ok (.ineg, 1) := by decide +kernel
theorem dX4_number_48 : decode cX4_number 48 = .ok (.ireturn, 1) := by decide +kernel
set_option maxRecDepth 20000 in
theorem ggX4_key_X4_surveyed : GoodIn wsX4_key wsX4_surveyed := goodIn_r _ [6, 7, 8, 9, 10, 11, 12, 13, 14, 15, 16, 17, 18, 19, 20, 21, 22, 23, 24, 25, 26, 27, 28, 29, 30, 31, 32, 33, 34, 35, 36, 37, 38, 39, 40, 41, 42, 43, 44, 45, 46, 47, 73, 74, 75, 76, 77, 78, 79, 80, 81, 82, 83, 84, 85, 86, 87, 88, 89] (by decide +kernel) (by decide +kernel)
set_option maxRecDepth 20000 in
theorem gX4_key_X4_surveyed : GoodIn wsX4_key (wsV RX4 84 RX4 yX4_surveyed wsX4_surveyed) := goodIn_app (goodIn_of _ (by decide +kernel)) ggX4_key_X4_surveyed
set_option maxRecDepth 20000 in
theorem ggX4_key_X0_firstBlockOfRank : GoodIn wsX4_key wsX0_firstBlockOfRank := goodIn_r _ [51, 14, 52, 53, 54, 11, 55, 56, 57, 58, 59, 16, 60, 61, 62, 20, 63, 27, 28, 29, 30, 31, 64, 65, 66, 67, 44, 45, 46, 47, 68, 69, 70, 71, 82, 83, 84, 85, 86, 87, 88, 89] (by decide +kernel) (by decide +kernel)
set_option maxRecDepth 20000 in
theorem gX4_key_X0_firstBlockOfRank : GoodIn wsX4_key (wsV RX4 155 RX0 yX0_firstBlockOfRank wsX0_firstBlockOfRank) := goodIn_app (goodIn_of _ (by decide +kernel)) ggX4_key_X0_firstBlockOfRank
set_option maxRecDepth 20000 in
theorem ggX4_key_X2_keyOf : GoodIn wsX4_key wsX2_keyOf := goodIn_r _ [47, 27, 28, 29, 20, 30, 31, 86, 87, 88, 89] (by decide +kernel) (by decide +kernel)
set_option maxRecDepth 20000 in
theorem gX4_key_X2_keyOf : GoodIn wsX4_key (wsV RX4 158 RX2 yX2_keyOf wsX2_keyOf) := goodIn_app (goodIn_of _ (by decide +kernel)) ggX4_key_X2_keyOf
theorem dX4_key_0 : decode cX4_key 0 = .ok (.aload_n 0, 1) := by decide +kernel
theorem dX4_key_1 : decode cX4_key 1 = .ok (.invokevirtual 84, 3) := by decide +kernel
theorem dX4_key_4 : decode cX4_key 4 = .ok (.iload_n 1, 1) := by decide +kernel
theorem dX4_key_5 : decode cX4_key 5 = .ok (.invokevirtual 155, 3) := by decide +kernel
theorem dX4_key_8 : decode cX4_key 8 = .ok (.istore_n 2, 1) := by decide +kernel
theorem dX4_key_9 : decode cX4_key 9 = .ok (.iload_n 2, 1) := by decide +kernel
theorem dX4_key_10 : decode cX4_key 10 = .ok (.iconst (-1), 1) := by decide +kernel
theorem dX4_key_11 : decode cX4_key 11 = .ok (.if_icmp .ne 7, 3) := by decide +kernel
theorem dX4_key_14 : decode cX4_key 14 = .ok (.iconst 0, 1) := by decide +kernel
theorem dX4_key_15 : decode cX4_key 15 = .ok (.goto 11, 3) := by decide +kernel
theorem dX4_key_18 : decode cX4_key 18 = .ok (.aload_n 0, 1) := by decide +kernel
theorem dX4_key_19 : decode cX4_key 19 = .ok (.getfield 10, 3) := by decide +kernel
theorem dX4_key_22 : decode cX4_key 22 = .ok (.iload_n 2, 1) := by decide +kernel
theorem dX4_key_23 : decode cX4_key 23 = .ok (.invokevirtual 158, 3) := by decide +kernel
theorem dX4_key_26 : decode cX4_key 26 = .ok (.ireturn, 1) := by decide +kernel
set_option maxRecDepth 20000 in
theorem ggX4_pack_X1_encode : GoodIn wsX4_pack wsX1_encode := goodIn_r _ [6, 7, 8, 9, 10, 11, 12, 13, 14, 15, 16, 17, 18, 19, 20, 21, 22, 23, 5, 24, 25, 26, 27, 28, 29, 30, 31, 32, 33, 34, 35, 36, 37, 38, 39, 51, 52] (by decide +kernel) (by decide +kernel)
set_option maxRecDepth 20000 in
theorem gX4_pack_X1_encode : GoodIn wsX4_pack (va_wsS RX4 67 yX1_encode wsX1_encode) := goodIn_app (goodIn_of _ (by decide +kernel)) ggX4_pack_X1_encode
set_option maxRecDepth 20000 in
theorem ggX4_pack_X3_empty : GoodIn wsX4_pack wsX3_empty := goodIn_r _ [11, 12, 51, 52] (by decide +kernel) (by decide +kernel)
set_option maxRecDepth 20000 in
theorem gX4_pack_X3_empty : GoodIn wsX4_pack (wsV RX4 77 RX3 yX3_empty wsX3_empty) := goodIn_app (goodIn_of _ (by decide +kernel)) ggX4_pack_X3_empty
set_option maxRecDepth 20000 in
theorem ggX4_pack_X3_size : GoodIn wsX4_pack wsX3_size := goodIn_r _ [16, 12, 51, 52] (by decide +kernel) (by decide +kernel)
set_option maxRecDepth 20000 in
theorem gX4_pack_X3_size : GoodIn wsX4_pack (wsV RX4 52 RX3 yX3_size wsX3_size) := goodIn_app (goodIn_of _ (by decide +kernel)) ggX4_pack_X3_size
theorem dX4_pack_0 : decode cX4_pack 0 = .ok (.aload_n 0, 1) := by decide +kernel
theorem dX4_pack_1 : decode cX4_pack 1 = .ok (.getfield 28, 3) := by decide +kernel
theorem dX4_pack_4 : decode cX4_pack 4 = .ok (.aload_n 0, 1) := by decide +kernel
theorem dX4_pack_5 : decode cX4_pack 5 = .ok (.getfield 32, 3) := by decide +kernel
theorem dX4_pack_8 : decode cX4_pack 8 = .ok (.invokestatic 67, 3) := by decide +kernel
theorem dX4_pack_11 : decode cX4_pack 11 = .ok (.aload_n 0, 1) := by decide +kernel
theorem dX4_pack_12 : decode cX4_pack 12 = .ok (.getfield 28, 3) := by decide +kernel
theorem dX4_pack_15 : decode cX4_pack 15 = .ok (.invokevirtual 77, 3) := by decide +kernel
theorem dX4_pack_18 : decode cX4_pack 18 = .ok (.aload_n 0, 1) := by decide +kernel
theorem dX4_pack_19 : decode cX4_pack 19 = .ok (.getfield 32, 3) := by decide +kernel
theorem dX4_pack_22 : decode cX4_pack 22 = .ok (.invokevirtual 52, 3) := by decide +kernel
theorem dX4_pack_25 : decode cX4_pack 25 = .ok (.ireturn, 1) := by decide +kernel
set_option maxRecDepth 20000 in
theorem ggX4_unpack_X1_decode : GoodIn wsX4_unpack wsX1_decode := goodIn_r _ [8, 9, 10, 11, 12, 13, 14, 15, 16, 17, 18, 19, 20, 21, 22, 23, 24, 25, 7, 26, 27, 28, 29, 30, 31, 32, 33, 34, 35, 36, 37, 38, 39, 56, 57] (by decide +kernel) (by decide +kernel)
set_option maxRecDepth 20000 in
theorem gX4_unpack_X1_decode : GoodIn wsX4_unpack (va_wsS RX4 102 yX1_decode wsX1_decode) := goodIn_app (goodIn_of _ (by decide +kernel)) ggX4_unpack_X1_decode
set_option maxRecDepth 20000 in
theorem ggX4_unpack_X3_empty : GoodIn wsX4_unpack wsX3_empty := goodIn_r _ [13, 14, 56, 57] (by decide +kernel) (by decide +kernel)
set_option maxRecDepth 20000 in
theorem gX4_unpack_X3_empty : GoodIn wsX4_unpack (wsV RX4 77 RX3 yX3_empty wsX3_empty) := goodIn_app (goodIn_of _ (by decide +kernel)) ggX4_unpack_X3_empty
set_option maxRecDepth 20000 in
theorem ggX4_unpack_X3_becomeLike : GoodIn wsX4_unpack wsX3_becomeLike := goodIn_r _ [44, 14, 45, 10, 11, 12, 13, 38, 20, 21, 22, 23, 39, 28, 29, 30, 56, 57] (by decide +kernel) (by decide +kernel)
set_option maxRecDepth 20000 in
theorem gX4_unpack_X3_becomeLike : GoodIn wsX4_unpack (wsV RX4 73 RX3 yX3_becomeLike wsX3_becomeLike) := goodIn_app (goodIn_of _ (by decide +kernel)) ggX4_unpack_X3_becomeLike
set_option maxRecDepth 20000 in
theorem ggX4_unpack_X3_size : GoodIn wsX4_unpack wsX3_size := goodIn_r _ [18, 14, 56, 57] (by decide +kernel) (by decide +kernel)
set_option maxRecDepth 20000 in
theorem gX4_unpack_X3_size : GoodIn wsX4_unpack (wsV RX4 52 RX3 yX3_size wsX3_size) := goodIn_app (goodIn_of _ (by decide +kernel)) ggX4_unpack_X3_size
theorem dX4_unpack_0 : decode cX4_unpack 0 = .ok (.aload_n 0, 1) := by decide +kernel
theorem dX4_unpack_1 : decode cX4_unpack 1 = .ok (.getfield 28, 3) := by decide +kernel
theorem dX4_unpack_4 : decode cX4_unpack 4 = .ok (.aload_n 0, 1) := by decide +kernel
theorem dX4_unpack_5 : decode cX4_unpack 5 = .ok (.getfield 38, 3) := by decide +kernel
theorem dX4_unpack_8 : decode cX4_unpack 8 = .ok (.invokestatic 102, 3) := by decide +kernel
theorem dX4_unpack_11 : decode cX4_unpack 11 = .ok (.istore_n 1, 1) := by decide +kernel
theorem dX4_unpack_12 : decode cX4_unpack 12 = .ok (.aload_n 0, 1) := by decide +kernel
theorem dX4_unpack_13 : decode cX4_unpack 13 = .ok (.getfield 28, 3) := by decide +kernel
theorem dX4_unpack_16 : decode cX4_unpack 16 = .ok (.invokevirtual 77, 3) := by decide +kernel
theorem dX4_unpack_19 : decode cX4_unpack 19 = .ok (.iload_n 1, 1) := by decide +kernel
theorem dX4_unpack_20 : decode cX4_unpack 20 = .ok (.iconst (-1), 1) := by decide +kernel
theorem dX4_unpack_21 : decode cX4_unpack 21 = .ok (.if_icmp .eq 10, 3) := by decide +kernel
theorem dX4_unpack_24 : decode cX4_unpack 24 = .ok (.aload_n 0, 1) := by decide +kernel
theorem dX4_unpack_25 : decode cX4_unpack 25 = .ok (.iload_n 1, 1) := by decide +kernel
theorem dX4_unpack_26 : decode cX4_unpack 26 = .ok (.putfield 48, 3) := by decide +kernel
theorem dX4_unpack_29 : decode cX4_unpack 29 = .ok (.iconst (-1), 1) := by decide +kernel
theorem dX4_unpack_30 : decode cX4_unpack 30 = .ok (.ireturn, 1) := by decide +kernel
theorem dX4_unpack_31 : decode cX4_unpack 31 = .ok (.aload_n 0, 1) := by decide +kernel
theorem dX4_unpack_32 : decode cX4_unpack 32 = .ok (.getfield 32, 3) := by decide +kernel
theorem dX4_unpack_35 : decode cX4_unpack 35 = .ok (.aload_n 0, 1) := by decide +kernel
theorem dX4_unpack_36 : decode cX4_unpack 36 = .ok (.getfield 38, 3) := by decide +kernel
theorem dX4_unpack_39 : decode cX4_unpack 39 = .ok (.invokevirtual 73, 3) := by decide +kernel
theorem dX4_unpack_42 : decode cX4_unpack 42 = .ok (.aload_n 0, 1) := by decide +kernel
theorem dX4_unpack_43 : decode cX4_unpack 43 = .ok (.getfield 32, 3) := by decide +kernel
theorem dX4_unpack_46 : decode cX4_unpack 46 = .ok (.invokevirtual 52, 3) := by decide +kernel
theorem dX4_unpack_49 : decode cX4_unpack 49 = .ok (.ireturn, 1) := by decide +kernel
theorem dX4_place_0 : decode cX4_place 0 = .ok (.aload_n 0, 1) := by decide +kernel
theorem dX4_place_1 : decode cX4_place 1 = .ok (.getfield 48, 3) := by decide +kernel
theorem dX4_place_4 : decode cX4_place 4 = .ok (.ireturn, 1) := by decide +kernel
set_option maxRecDepth 20000 in
theorem ggX4_surveyed_X0_survey : GoodIn wsX4_surveyed wsX0_survey := goodIn_r _ [6, 7, 8, 9, 10, 11, 12, 13, 14, 15, 16, 17, 18, 19, 20, 21, 22, 23, 24, 25, 26, 27, 28, 5, 29, 30, 31, 32, 33, 34, 35, 36, 37, 38, 39, 40, 41, 51, 52, 53, 54, 55, 56, 57, 58] (by decide +kernel) (by decide +kernel)
set_option maxRecDepth 20000 in
theorem gX4_surveyed_X0_survey : GoodIn wsX4_surveyed (wsV RX4 161 RX0 yX0_survey wsX0_survey) := goodIn_app (goodIn_of _ (by decide +kernel)) ggX4_surveyed_X0_survey
theorem dX4_surveyed_0 : decode cX4_surveyed 0 = .ok (.aload_n 0, 1) := by decide +kernel
theorem dX4_surveyed_1 : decode cX4_surveyed 1 = .ok (.getfield 21, 3) := by decide +kernel
theorem dX4_surveyed_4 : decode cX4_surveyed 4 = .ok (.invokevirtual 161, 3) := by decide +kernel
theorem dX4_surveyed_7 : decode cX4_surveyed 7 = .ok (.aload_n 0, 1) := by decide +kernel
theorem dX4_surveyed_8 : decode cX4_surveyed 8 = .ok (.getfield 21, 3) := by decide +kernel
theorem dX4_surveyed_11 : decode cX4_surveyed 11 = .ok (.areturn, 1) := by decide +kernel
set_option maxRecDepth 20000 in
theorem ggX4_putRecord_X3_size : GoodIn wsX4_putRecord wsX3_size := goodIn_r _ [9, 10, 106, 107] (by decide +kernel) (by decide +kernel)
set_option maxRecDepth 20000 in
theorem gX4_putRecord_X3_size : GoodIn wsX4_putRecord (wsV RX4 52 RX3 yX3_size wsX3_size) := goodIn_app (goodIn_of _ (by decide +kernel)) ggX4_putRecord_X3_size
set_option maxRecDepth 20000 in
theorem ggX4_putRecord_X4_partsFor : GoodIn wsX4_putRecord wsX4_partsFor := goodIn_r _ [14] (by decide +kernel) (by decide +kernel)
set_option maxRecDepth 20000 in
theorem gX4_putRecord_X4_partsFor : GoodIn wsX4_putRecord (va_wsS RX4 164 yX4_partsFor wsX4_partsFor) := goodIn_app (goodIn_of _ (by decide +kernel)) ggX4_putRecord_X4_partsFor
set_option maxRecDepth 20000 in
theorem ggX4_putRecord_X4_surveyed : GoodIn wsX4_putRecord wsX4_surveyed := goodIn_r _ [18, 3, 19, 20, 21, 22, 23, 24, 25, 26, 27, 28, 29, 30, 31, 32, 33, 34, 35, 36, 37, 38, 39, 40, 41, 42, 43, 44, 45, 46, 47, 48, 49, 50, 51, 52, 53, 54, 55, 56, 57, 58, 97, 98, 99, 100, 101, 102, 103, 104, 105, 108, 109, 110, 111, 112, 113, 114, 115] (by decide +kernel) (by decide +kernel)
set_option maxRecDepth 20000 in
theorem gX4_putRecord_X4_surveyed : GoodIn wsX4_putRecord (wsV RX4 84 RX4 yX4_surveyed wsX4_surveyed) := goodIn_app (goodIn_of _ (by decide +kernel)) ggX4_putRecord_X4_surveyed
set_option maxRecDepth 20000 in
theorem ggX4_putRecord_X0_countLive : GoodIn wsX4_putRecord wsX0_countLive := goodIn_r _ [62, 63, 64, 65, 22, 66, 27, 108, 109, 110, 111] (by decide +kernel) (by decide +kernel)
set_option maxRecDepth 20000 in
theorem gX4_putRecord_X0_countLive : GoodIn wsX4_putRecord (wsV RX4 140 RX0 yX0_countLive wsX0_countLive) := goodIn_app (goodIn_of _ (by decide +kernel)) ggX4_putRecord_X0_countLive
set_option maxRecDepth 20000 in
theorem ggX4_putRecord_X2_greatestNumber : GoodIn wsX4_putRecord wsX2_greatestNumber := goodIn_r _ [70, 71, 72, 73, 74, 75, 35, 36, 31, 37, 38, 39, 40, 41, 42, 112, 113, 114, 115] (by decide +kernel) (by decide +kernel)
set_option maxRecDepth 20000 in
theorem gX4_putRecord_X2_greatestNumber : GoodIn wsX4_putRecord (wsV RX4 146 RX2 yX2_greatestNumber wsX2_greatestNumber) := goodIn_app (goodIn_of _ (by decide +kernel)) ggX4_putRecord_X2_greatestNumber
set_option maxRecDepth 20000 in
theorem ggX4_putRecord_X0_isLive : GoodIn wsX4_putRecord wsX0_isLive := goodIn_r _ [66, 27, 108, 109, 110, 111] (by decide +kernel) (by decide +kernel)
set_option maxRecDepth 20000 in
theorem gX4_putRecord_X0_isLive : GoodIn wsX4_putRecord (wsV RX4 167 RX0 yX0_isLive wsX0_isLive) := goodIn_app (goodIn_of _ (by decide +kernel)) ggX4_putRecord_X0_isLive
set_option maxRecDepth 20000 in
theorem ggX4_putRecord_X4_fillRow : GoodIn wsX4_putRecord wsX4_fillRow := goodIn_r _ [80, 4, 81, 1, 5, 6, 7, 8, 9, 10, 82, 83, 84, 85, 86, 87, 88, 89, 90, 97, 98, 99, 100, 101, 102, 103, 104, 105, 106, 107] (by decide +kernel) (by decide +kernel)
set_option maxRecDepth 20000 in
theorem gX4_putRecord_X4_fillRow : GoodIn wsX4_putRecord (wsV RX4 170 RX4 yX4_fillRow wsX4_fillRow) := goodIn_app (goodIn_of _ (by decide +kernel)) ggX4_putRecord_X4_fillRow
set_option maxRecDepth 20000 in
theorem ggX4_putRecord_X2_write : GoodIn wsX4_putRecord wsX2_write := goodIn_r _ [94, 95, 96, 42, 33, 112, 113, 114, 115] (by decide +kernel) (by decide +kernel)
set_option maxRecDepth 20000 in
theorem gX4_putRecord_X2_write : GoodIn wsX4_putRecord (wsV RX4 112 RX2 yX2_write wsX2_write) := goodIn_app (goodIn_of _ (by decide +kernel)) ggX4_putRecord_X2_write
theorem dX4_putRecord_0 : decode cX4_putRecord 0 = .ok (.aload_n 0, 1) := by decide +kernel
theorem dX4_putRecord_1 : decode cX4_putRecord 1 = .ok (.getfield 35, 3) := by decide +kernel
theorem dX4_putRecord_4 : decode cX4_putRecord 4 = .ok (.invokevirtual 52, 3) := by decide +kernel
theorem dX4_putRecord_7 : decode cX4_putRecord 7 = .ok (.invokestatic 164, 3) := by decide +kernel
theorem dX4_putRecord_10 : decode cX4_putRecord 10 = .ok (.istore_n 3, 1) := by decide +kernel
theorem dX4_putRecord_11 : decode cX4_putRecord 11 = .ok (.bipush 64, 2) := by decide +kernel
theorem dX4_putRecord_13 : decode cX4_putRecord 13 = .ok (.aload_n 0, 1) := by decide +kernel
theorem dX4_putRecord_14 : decode cX4_putRecord 14 = .ok (.invokevirtual 84, 3) := by decide +kernel
theorem dX4_putRecord_17 : decode cX4_putRecord 17 = .ok (.invokevirtual 140, 3) := by decide +kernel
theorem dX4_putRecord_20 : decode cX4_putRecord 20 = .ok (.isub, 1) := by decide +kernel
theorem dX4_putRecord_21 : decode cX4_putRecord 21 = .ok (.iload_n 3, 1) := by decide +kernel
theorem dX4_putRecord_22 : decode cX4_putRecord 22 = .ok (.if_icmp .ge 6, 3) := by decide +kernel
theorem dX4_putRecord_25 : decode cX4_putRecord 25 = .ok (.bipush (-3), 2) := by decide +kernel
theorem dX4_putRecord_27 : decode cX4_putRecord 27 = .ok (.ireturn, 1) := by decide +kernel
theorem dX4_putRecord_28 : decode cX4_putRecord 28 = .ok (.aload_n 0, 1) := by decide +kernel
theorem dX4_putRecord_29 : decode cX4_putRecord 29 = .ok (.getfield 10, 3) := by decide +kernel
theorem dX4_putRecord_32 : decode cX4_putRecord 32 = .ok (.invokevirtual 146, 3) := by decide +kernel
theorem dX4_putRecord_35 : decode cX4_putRecord 35 = .ok (.iconst 1, 1) := by decide +kernel
theorem dX4_putRecord_36 : decode cX4_putRecord 36 = .ok (.iadd, 1) := by decide +kernel
theorem dX4_putRecord_37 : decode cX4_putRecord 37 = .ok (.istore 4, 2) := by decide +kernel
theorem dX4_putRecord_39 : decode cX4_putRecord 39 = .ok (.iconst 0, 1) := by decide +kernel
theorem dX4_putRecord_40 : decode cX4_putRecord 40 = .ok (.istore 5, 2) := by decide +kernel
theorem dX4_putRecord_42 : decode cX4_putRecord 42 = .ok (.iconst 0, 1) := by decide +kernel
theorem dX4_putRecord_43 : decode cX4_putRecord 43 = .ok (.istore 6, 2) := by decide +kernel
theorem dX4_putRecord_45 : decode cX4_putRecord 45 = .ok (.iload 6, 2) := by decide +kernel
theorem dX4_putRecord_47 : decode cX4_putRecord 47 = .ok (.bipush 64, 2) := by decide +kernel
theorem dX4_putRecord_49 : decode cX4_putRecord 49 = .ok (.if_icmp .ge 60, 3) := by decide +kernel
theorem dX4_putRecord_52 : decode cX4_putRecord 52 = .ok (.iload 5, 2) := by decide +kernel
theorem dX4_putRecord_54 : decode cX4_putRecord 54 = .ok (.iload_n 3, 1) := by decide +kernel
theorem dX4_putRecord_55 : decode cX4_putRecord 55 = .ok (.if_icmp .ge 54, 3) := by decide +kernel
theorem dX4_putRecord_58 : decode cX4_putRecord 58 = .ok (.aload_n 0, 1) := by decide +kernel
theorem dX4_putRecord_59 : decode cX4_putRecord 59 = .ok (.getfield 21, 3) := by decide +kernel
theorem dX4_putRecord_62 : decode cX4_putRecord 62 = .ok (.iload 6, 2) := by decide +kernel
theorem dX4_putRecord_64 : decode cX4_putRecord 64 = .ok (.invokevirtual 167, 3) := by decide +kernel
theorem dX4_putRecord_67 : decode cX4_putRecord 67 = .ok (.ifCond .ne 36, 3) := by decide +kernel
theorem dX4_putRecord_70 : decode cX4_putRecord 70 = .ok (.aload_n 0, 1) := by decide +kernel
theorem dX4_putRecord_71 : decode cX4_putRecord 71 = .ok (.iload 4, 2) := by decide +kernel
theorem dX4_putRecord_73 : decode cX4_putRecord 73 = .ok (.iload 5, 2) := by decide +kernel
theorem dX4_putRecord_75 : decode cX4_putRecord 75 = .ok (.iload_n 3, 1) := by decide +kernel
theorem dX4_putRecord_76 : decode cX4_putRecord 76 = .ok (.iload_n 2, 1) := by decide +kernel
theorem dX4_putRecord_77 : decode cX4_putRecord 77 = .ok (.iload_n 1, 1) := by decide +kernel
theorem dX4_putRecord_78 : decode cX4_putRecord 78 = .ok (.invokevirtual 170, 3) := by decide +kernel
theorem dX4_putRecord_81 : decode cX4_putRecord 81 = .ok (.aload_n 0, 1) := by decide +kernel
theorem dX4_putRecord_82 : decode cX4_putRecord 82 = .ok (.getfield 10, 3) := by decide +kernel
theorem dX4_putRecord_85 : decode cX4_putRecord 85 = .ok (.iload 6, 2) := by decide +kernel
theorem dX4_putRecord_87 : decode cX4_putRecord 87 = .ok (.aload_n 0, 1) := by decide +kernel
theorem dX4_putRecord_88 : decode cX4_putRecord 88 = .ok (.getfield 41, 3) := by decide +kernel
theorem dX4_putRecord_91 : decode cX4_putRecord 91 = .ok (.invokevirtual 112, 3) := by decide +kernel
theorem dX4_putRecord_94 : decode cX4_putRecord 94 = .ok (.ifCond .ne 6, 3) := by decide +kernel
theorem dX4_putRecord_97 : decode cX4_putRecord 97 = .ok (.bipush (-4), 2) := by decide +kernel
theorem dX4_putRecord_99 : decode cX4_putRecord 99 = .ok (.ireturn, 1) := by decide +kernel
theorem dX4_putRecord_100 : decode cX4_putRecord 100 = .ok (.iinc 5 1, 3) := by decide +kernel
theorem dX4_putRecord_103 : decode cX4_putRecord 103 = .ok (.iinc 6 1, 3) := by decide +kernel
theorem dX4_putRecord_106 : decode cX4_putRecord 106 = .ok (.goto (-61), 3) := by decide +kernel
theorem dX4_putRecord_109 : decode cX4_putRecord 109 = .ok (.iload 4, 2) := by decide +kernel
theorem dX4_putRecord_111 : decode cX4_putRecord 111 = .ok (.ireturn, 1) := by decide +kernel
theorem dX4_partsFor_0 : decode cX4_partsFor 0 = .ok (.iload_n 0, 1) := by decide +kernel
theorem dX4_partsFor_1 : decode cX4_partsFor 1 = .ok (.bipush 16, 2) := by decide +kernel
theorem dX4_partsFor_3 : decode cX4_partsFor 3 = .ok (.if_icmp .gt 7, 3) := by decide +kernel
theorem dX4_partsFor_6 : decode cX4_partsFor 6 = .ok (.iconst 1, 1) := by decide +kernel
theorem dX4_partsFor_7 : decode cX4_partsFor 7 = .ok (.goto 12, 3) := by decide +kernel
theorem dX4_partsFor_10 : decode cX4_partsFor 10 = .ok (.iload_n 0, 1) := by decide +kernel
theorem dX4_partsFor_11 : decode cX4_partsFor 11 = .ok (.bipush 16, 2) := by decide +kernel
theorem dX4_partsFor_13 : decode cX4_partsFor 13 = .ok (.iadd, 1) := by decide +kernel
theorem dX4_partsFor_14 : decode cX4_partsFor 14 = .ok (.iconst 1, 1) := by decide +kernel
theorem dX4_partsFor_15 : decode cX4_partsFor 15 = .ok (.isub, 1) := by decide +kernel
theorem dX4_partsFor_16 : decode cX4_partsFor 16 = .ok (.bipush 16, 2) := by decide +kernel
theorem dX4_partsFor_18 : decode cX4_partsFor 18 = .ok (.idiv, 1) := by decide +kernel
theorem dX4_partsFor_19 : decode cX4_partsFor 19 = .ok (.ireturn, 1) := by decide +kernel
set_option maxRecDepth 20000 in
theorem ggX4_fillRow_X3_size : GoodIn wsX4_fillRow wsX3_size := goodIn_r _ [8, 9, 28, 29] (by decide +kernel) (by decide +kernel)
set_option maxRecDepth 20000 in
theorem gX4_fillRow_X3_size : GoodIn wsX4_fillRow (wsV RX4 52 RX3 yX3_size wsX3_size) := goodIn_app (goodIn_of _ (by decide +kernel)) ggX4_fillRow_X3_size
set_option maxRecDepth 20000 in
theorem ggX4_fillRow_X3_fourFrom : GoodIn wsX4_fillRow wsX3_fourFrom := goodIn_r _ [13, 14, 15, 16, 7, 17, 9, 18, 28, 29] (by decide +kernel) (by decide +kernel)
set_option maxRecDepth 20000 in
theorem gX4_fillRow_X3_fourFrom : GoodIn wsX4_fillRow (wsV RX4 175 RX3 yX3_fourFrom wsX3_fourFrom) := goodIn_app (goodIn_of _ (by decide +kernel)) ggX4_fillRow_X3_fourFrom
theorem dX4_fillRow_0 : decode cX4_fillRow 0 = .ok (.aload_n 0, 1) := by decide +kernel
theorem dX4_fillRow_1 : decode cX4_fillRow 1 = .ok (.getfield 41, 3) := by decide +kernel
theorem dX4_fillRow_4 : decode cX4_fillRow 4 = .ok (.iconst 0, 1) := by decide +kernel
theorem dX4_fillRow_5 : decode cX4_fillRow 5 = .ok (.iload_n 1, 1) := by decide +kernel
theorem dX4_fillRow_6 : decode cX4_fillRow 6 = .ok (.iastore, 1) := by decide +kernel
theorem dX4_fillRow_7 : decode cX4_fillRow 7 = .ok (.aload_n 0, 1) := by decide +kernel
theorem dX4_fillRow_8 : decode cX4_fillRow 8 = .ok (.getfield 41, 3) := by decide +kernel
theorem dX4_fillRow_11 : decode cX4_fillRow 11 = .ok (.iconst 1, 1) := by decide +kernel
theorem dX4_fillRow_12 : decode cX4_fillRow 12 = .ok (.iload_n 2, 1) := by decide +kernel
theorem dX4_fillRow_13 : decode cX4_fillRow 13 = .ok (.sipush 256, 3) := by decide +kernel
theorem dX4_fillRow_16 : decode cX4_fillRow 16 = .ok (.iload_n 3, 1) := by decide +kernel
theorem dX4_fillRow_17 : decode cX4_fillRow 17 = .ok (.imul, 1) := by decide +kernel
theorem dX4_fillRow_18 : decode cX4_fillRow 18 = .ok (.iadd, 1) := by decide +kernel
theorem dX4_fillRow_19 : decode cX4_fillRow 19 = .ok (.ldc 174, 2) := by decide +kernel
theorem dX4_fillRow_21 : decode cX4_fillRow 21 = .ok (.iload 4, 2) := by decide +kernel
theorem dX4_fillRow_23 : decode cX4_fillRow 23 = .ok (.imul, 1) := by decide +kernel
theorem dX4_fillRow_24 : decode cX4_fillRow 24 = .ok (.iadd, 1) := by decide +kernel
theorem dX4_fillRow_25 : decode cX4_fillRow 25 = .ok (.iastore, 1) := by decide +kernel
theorem dX4_fillRow_26 : decode cX4_fillRow 26 = .ok (.aload_n 0, 1) := by decide +kernel
theorem dX4_fillRow_27 : decode cX4_fillRow 27 = .ok (.getfield 41, 3) := by decide +kernel
theorem dX4_fillRow_30 : decode cX4_fillRow 30 = .ok (.iconst 2, 1) := by decide +kernel
theorem dX4_fillRow_31 : decode cX4_fillRow 31 = .ok (.iload 5, 2) := by decide +kernel
theorem dX4_fillRow_33 : decode cX4_fillRow 33 = .ok (.iastore, 1) := by decide +kernel
theorem dX4_fillRow_34 : decode cX4_fillRow 34 = .ok (.aload_n 0, 1) := by decide +kernel
theorem dX4_fillRow_35 : decode cX4_fillRow 35 = .ok (.getfield 41, 3) := by decide +kernel
theorem dX4_fillRow_38 : decode cX4_fillRow 38 = .ok (.iconst 3, 1) := by decide +kernel
theorem dX4_fillRow_39 : decode cX4_fillRow 39 = .ok (.aload_n 0, 1) := by decide +kernel
theorem dX4_fillRow_40 : decode cX4_fillRow 40 = .ok (.getfield 35, 3) := by decide +kernel
theorem dX4_fillRow_43 : decode cX4_fillRow 43 = .ok (.invokevirtual 52, 3) := by decide +kernel
theorem dX4_fillRow_46 : decode cX4_fillRow 46 = .ok (.iastore, 1) := by decide +kernel
theorem dX4_fillRow_47 : decode cX4_fillRow 47 = .ok (.iconst 4, 1) := by decide +kernel
theorem dX4_fillRow_48 : decode cX4_fillRow 48 = .ok (.istore 6, 2) := by decide +kernel
theorem dX4_fillRow_50 : decode cX4_fillRow 50 = .ok (.iload 6, 2) := by decide +kernel
theorem dX4_fillRow_52 : decode cX4_fillRow 52 = .ok (.bipush 8, 2) := by decide +kernel
theorem dX4_fillRow_54 : decode cX4_fillRow 54 = .ok (.if_icmp .ge 34, 3) := by decide +kernel
theorem dX4_fillRow_57 : decode cX4_fillRow 57 = .ok (.aload_n 0, 1) := by decide +kernel
theorem dX4_fillRow_58 : decode cX4_fillRow 58 = .ok (.getfield 41, 3) := by decide +kernel
theorem dX4_fillRow_61 : decode cX4_fillRow 61 = .ok (.iload 6, 2) := by decide +kernel
theorem dX4_fillRow_63 : decode cX4_fillRow 63 = .ok (.aload_n 0, 1) := by decide +kernel
theorem dX4_fillRow_64 : decode cX4_fillRow 64 = .ok (.getfield 35, 3) := by decide +kernel
theorem dX4_fillRow_67 : decode cX4_fillRow 67 = .ok (.bipush 16, 2) := by decide +kernel
theorem dX4_fillRow_69 : decode cX4_fillRow 69 = .ok (.iload_n 2, 1) := by decide +kernel
theorem dX4_fillRow_70 : decode cX4_fillRow 70 = .ok (.imul, 1) := by decide +kernel
theorem dX4_fillRow_71 : decode cX4_fillRow 71 = .ok (.iconst 4, 1) := by decide +kernel
theorem dX4_fillRow_72 : decode cX4_fillRow 72 = .ok (.iload 6, 2) := by decide +kernel
theorem dX4_fillRow_74 : decode cX4_fillRow 74 = .ok (.iconst 4, 1) := by decide +kernel
theorem dX4_fillRow_75 : decode cX4_fillRow 75 = .ok (.isub, 1) := by decide +kernel
theorem dX4_fillRow_76 : decode cX4_fillRow 76 = .ok (.imul, 1) := by decide +kernel
theorem dX4_fillRow_77 : decode cX4_fillRow 77 = .ok (.iadd, 1) := by decide +kernel
theorem dX4_fillRow_78 : decode cX4_fillRow 78 = .ok (.invokevirtual 175, 3) := by decide +kernel
theorem dX4_fillRow_81 : decode cX4_fillRow 81 = .ok (.iastore, 1) := by decide +kernel
theorem dX4_fillRow_82 : decode cX4_fillRow 82 = .ok (.iinc 6 1, 3) := by decide +kernel
theorem dX4_fillRow_85 : decode cX4_fillRow 85 = .ok (.goto (-35), 3) := by decide +kernel
theorem dX4_fillRow_88 : decode cX4_fillRow 88 = .ok (.return_, 1) := by decide +kernel
set_option maxRecDepth 20000 in
theorem ggX4_gatherContent_X3_empty : GoodIn wsX4_gatherContent wsX3_empty := goodIn_r _ [7, 8, 55, 56] (by decide +kernel) (by decide +kernel)
set_option maxRecDepth 20000 in
theorem gX4_gatherContent_X3_empty : GoodIn wsX4_gatherContent (wsV RX4 77 RX3 yX3_empty wsX3_empty) := goodIn_app (goodIn_of _ (by decide +kernel)) ggX4_gatherContent_X3_empty
set_option maxRecDepth 20000 in
theorem ggX4_gatherContent_X2_partsOf : GoodIn wsX4_gatherContent wsX2_partsOf := goodIn_r _ [13, 14, 15, 16, 12, 17, 18, 57, 58, 59, 60] (by decide +kernel) (by decide +kernel)
set_option maxRecDepth 20000 in
theorem gX4_gatherContent_X2_partsOf : GoodIn wsX4_gatherContent (wsV RX4 178 RX2 yX2_partsOf wsX2_partsOf) := goodIn_app (goodIn_of _ (by decide +kernel)) ggX4_gatherContent_X2_partsOf
set_option maxRecDepth 20000 in
theorem ggX4_gatherContent_X2_numberOf : GoodIn wsX4_gatherContent wsX2_numberOf := goodIn_r _ [22, 14, 15, 16, 12, 17, 18, 57, 58, 59, 60] (by decide +kernel) (by decide +kernel)
set_option maxRecDepth 20000 in
theorem gX4_gatherContent_X2_numberOf : GoodIn wsX4_gatherContent (wsV RX4 152 RX2 yX2_numberOf wsX2_numberOf) := goodIn_app (goodIn_of _ (by decide +kernel)) ggX4_gatherContent_X2_numberOf
set_option maxRecDepth 20000 in
theorem ggX4_gatherContent_X2_blockOf : GoodIn wsX4_gatherContent wsX2_blockOf := goodIn_r _ [26, 27, 20, 21, 12, 22, 14, 15, 16, 17, 18, 28, 29, 30, 31, 57, 58, 59, 60] (by decide +kernel) (by decide +kernel)
set_option maxRecDepth 20000 in
theorem gX4_gatherContent_X2_blockOf : GoodIn wsX4_gatherContent (wsV RX4 181 RX2 yX2_blockOf wsX2_blockOf) := goodIn_app (goodIn_of _ (by decide +kernel)) ggX4_gatherContent_X2_blockOf
set_option maxRecDepth 20000 in
theorem ggX4_gatherContent_X3_size : GoodIn wsX4_gatherContent wsX3_size := goodIn_r _ [35, 8, 55, 56] (by decide +kernel) (by decide +kernel)
set_option maxRecDepth 20000 in
theorem gX4_gatherContent_X3_size : GoodIn wsX4_gatherContent (wsV RX4 52 RX3 yX3_size wsX3_size) := goodIn_app (goodIn_of _ (by decide +kernel)) ggX4_gatherContent_X3_size
set_option maxRecDepth 20000 in
theorem ggX4_gatherContent_X2_octetsOf : GoodIn wsX4_gatherContent wsX2_octetsOf := goodIn_r _ [39, 14, 15, 16, 12, 17, 18, 57, 58, 59, 60] (by decide +kernel) (by decide +kernel)
set_option maxRecDepth 20000 in
theorem gX4_gatherContent_X2_octetsOf : GoodIn wsX4_gatherContent (wsV RX4 184 RX2 yX2_octetsOf wsX2_octetsOf) := goodIn_app (goodIn_of _ (by decide +kernel)) ggX4_gatherContent_X2_octetsOf
set_option maxRecDepth 20000 in
theorem ggX4_gatherContent_X2_wordAt : GoodIn wsX4_gatherContent wsX2_wordAt := goodIn_r _ [17, 18, 57, 58, 59, 60] (by decide +kernel) (by decide +kernel)
set_option maxRecDepth 20000 in
theorem gX4_gatherContent_X2_wordAt : GoodIn wsX4_gatherContent (wsV RX4 137 RX2 yX2_wordAt wsX2_wordAt) := goodIn_app (goodIn_of _ (by decide +kernel)) ggX4_gatherContent_X2_wordAt
set_option maxRecDepth 20000 in
theorem ggX4_gatherContent_X3_append : GoodIn wsX4_gatherContent wsX3_append := goodIn_r _ [44, 8, 45, 55, 56] (by decide +kernel) (by decide +kernel)
set_option maxRecDepth 20000 in
theorem gX4_gatherContent_X3_append : GoodIn wsX4_gatherContent (wsV RX4 59 RX3 yX3_append wsX3_append) := goodIn_app (goodIn_of _ (by decide +kernel)) ggX4_gatherContent_X3_append
theorem dX4_gatherContent_0 : decode cX4_gatherContent 0 = .ok (.aload_n 0, 1) := by decide +kernel
theorem dX4_gatherContent_1 : decode cX4_gatherContent 1 = .ok (.getfield 35, 3) := by decide +kernel
theorem dX4_gatherContent_4 : decode cX4_gatherContent 4 = .ok (.invokevirtual 77, 3) := by decide +kernel
theorem dX4_gatherContent_7 : decode cX4_gatherContent 7 = .ok (.aload_n 0, 1) := by decide +kernel
theorem dX4_gatherContent_8 : decode cX4_gatherContent 8 = .ok (.getfield 10, 3) := by decide +kernel
theorem dX4_gatherContent_11 : decode cX4_gatherContent 11 = .ok (.iload_n 1, 1) := by decide +kernel
theorem dX4_gatherContent_12 : decode cX4_gatherContent 12 = .ok (.invokevirtual 178, 3) := by decide +kernel
theorem dX4_gatherContent_15 : decode cX4_gatherContent 15 = .ok (.istore_n 2, 1) := by decide +kernel
theorem dX4_gatherContent_16 : decode cX4_gatherContent 16 = .ok (.iconst 0, 1) := by decide +kernel
theorem dX4_gatherContent_17 : decode cX4_gatherContent 17 = .ok (.istore_n 3, 1) := by decide +kernel
theorem dX4_gatherContent_18 : decode cX4_gatherContent 18 = .ok (.iload_n 3, 1) := by decide +kernel
theorem dX4_gatherContent_19 : decode cX4_gatherContent 19 = .ok (.iload_n 2, 1) := by decide +kernel
theorem dX4_gatherContent_20 : decode cX4_gatherContent 20 = .ok (.if_icmp .ge 91, 3) := by decide +kernel
theorem dX4_gatherContent_23 : decode cX4_gatherContent 23 = .ok (.aload_n 0, 1) := by decide +kernel
theorem dX4_gatherContent_24 : decode cX4_gatherContent 24 = .ok (.getfield 10, 3) := by decide +kernel
theorem dX4_gatherContent_27 : decode cX4_gatherContent 27 = .ok (.aload_n 0, 1) := by decide +kernel
theorem dX4_gatherContent_28 : decode cX4_gatherContent 28 = .ok (.getfield 10, 3) := by decide +kernel
theorem dX4_gatherContent_31 : decode cX4_gatherContent 31 = .ok (.iload_n 1, 1) := by decide +kernel
theorem dX4_gatherContent_32 : decode cX4_gatherContent 32 = .ok (.invokevirtual 152, 3) := by decide +kernel
theorem dX4_gatherContent_35 : decode cX4_gatherContent 35 = .ok (.iload_n 3, 1) := by decide +kernel
theorem dX4_gatherContent_36 : decode cX4_gatherContent 36 = .ok (.invokevirtual 181, 3) := by decide +kernel
theorem dX4_gatherContent_39 : decode cX4_gatherContent 39 = .ok (.istore 4, 2) := by decide +kernel
theorem dX4_gatherContent_41 : decode cX4_gatherContent 41 = .ok (.iconst 0, 1) := by decide +kernel
theorem dX4_gatherContent_42 : decode cX4_gatherContent 42 = .ok (.istore 5, 2) := by decide +kernel
theorem dX4_gatherContent_44 : decode cX4_gatherContent 44 = .ok (.iload 5, 2) := by decide +kernel
theorem dX4_gatherContent_46 : decode cX4_gatherContent 46 = .ok (.bipush 16, 2) := by decide +kernel
theorem dX4_gatherContent_48 : decode cX4_gatherContent 48 = .ok (.if_icmp .ge 57, 3) := by decide +kernel
theorem dX4_gatherContent_51 : decode cX4_gatherContent 51 = .ok (.aload_n 0, 1) := by decide +kernel
theorem dX4_gatherContent_52 : decode cX4_gatherContent 52 = .ok (.getfield 35, 3) := by decide +kernel
theorem dX4_gatherContent_55 : decode cX4_gatherContent 55 = .ok (.invokevirtual 52, 3) := by decide +kernel
theorem dX4_gatherContent_58 : decode cX4_gatherContent 58 = .ok (.aload_n 0, 1) := by decide +kernel
theorem dX4_gatherContent_59 : decode cX4_gatherContent 59 = .ok (.getfield 10, 3) := by decide +kernel
theorem dX4_gatherContent_62 : decode cX4_gatherContent 62 = .ok (.iload_n 1, 1) := by decide +kernel
theorem dX4_gatherContent_63 : decode cX4_gatherContent 63 = .ok (.invokevirtual 184, 3) := by decide +kernel
theorem dX4_gatherContent_66 : decode cX4_gatherContent 66 = .ok (.if_icmp .ge 39, 3) := by decide +kernel
theorem dX4_gatherContent_69 : decode cX4_gatherContent 69 = .ok (.aload_n 0, 1) := by decide +kernel
theorem dX4_gatherContent_70 : decode cX4_gatherContent 70 = .ok (.getfield 35, 3) := by decide +kernel
theorem dX4_gatherContent_73 : decode cX4_gatherContent 73 = .ok (.aload_n 0, 1) := by decide +kernel
theorem dX4_gatherContent_74 : decode cX4_gatherContent 74 = .ok (.getfield 10, 3) := by decide +kernel
theorem dX4_gatherContent_77 : decode cX4_gatherContent 77 = .ok (.iload 4, 2) := by decide +kernel
theorem dX4_gatherContent_79 : decode cX4_gatherContent 79 = .ok (.iconst 4, 1) := by decide +kernel
theorem dX4_gatherContent_80 : decode cX4_gatherContent 80 = .ok (.iload 5, 2) := by decide +kernel
theorem dX4_gatherContent_82 : decode cX4_gatherContent 82 = .ok (.iconst 4, 1) := by decide +kernel
theorem dX4_gatherContent_83 : decode cX4_gatherContent 83 = .ok (.idiv, 1) := by decide +kernel
theorem dX4_gatherContent_84 : decode cX4_gatherContent 84 = .ok (.iadd, 1) := by decide +kernel
theorem dX4_gatherContent_85 : decode cX4_gatherContent 85 = .ok (.invokevirtual 137, 3) := by decide +kernel
theorem dX4_gatherContent_88 : decode cX4_gatherContent 88 = .ok (.bipush 8, 2) := by decide +kernel
theorem dX4_gatherContent_90 : decode cX4_gatherContent 90 = .ok (.iload 5, 2) := by decide +kernel
theorem dX4_gatherContent_92 : decode cX4_gatherContent 92 = .ok (.iconst 4, 1) := by decide +kernel
theorem dX4_gatherContent_93 : decode cX4_gatherContent 93 = .ok (.irem, 1) := by decide +kernel
theorem dX4_gatherContent_94 : decode cX4_gatherContent 94 = .ok (.imul, 1) := by decide +kernel
theorem dX4_gatherContent_95 : decode cX4_gatherContent 95 = .ok (.iushr, 1) := by decide +kernel
theorem dX4_gatherContent_96 : decode cX4_gatherContent 96 = .ok (.invokevirtual 59, 3) := by decide +kernel
theorem dX4_gatherContent_99 : decode cX4_gatherContent 99 = .ok (.iinc 5 1, 3) := by decide +kernel
theorem dX4_gatherContent_102 : decode cX4_gatherContent 102 = .ok (.goto (-58), 3) := by decide +kernel
theorem dX4_gatherContent_105 : decode cX4_gatherContent 105 = .ok (.iinc 3 1, 3) := by decide +kernel
theorem dX4_gatherContent_108 : decode cX4_gatherContent 108 = .ok (.goto (-90), 3) := by decide +kernel
theorem dX4_gatherContent_111 : decode cX4_gatherContent 111 = .ok (.return_, 1) := by decide +kernel

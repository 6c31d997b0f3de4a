theorem dX5_init_0 : decode cX5_init 0 = .ok (.aload_n 0, 1) := by decide +kernel
theorem dX5_init_1 : decode cX5_init 1 = .ok (.invokespecial 1, 3) := by decide +kernel
theorem dX5_init_4 : decode cX5_init 4 = .ok (.aload_n 0, 1) := by decide +kernel
theorem dX5_init_5 : decode cX5_init 5 = .ok (.sipush 512, 3) := by decide +kernel
theorem dX5_init_8 : decode cX5_init 8 = .ok (.newarray .int, 2) := by decide +kernel
theorem dX5_init_10 : decode cX5_init 10 = .ok (.putfield 7, 3) := by decide +kernel
theorem dX5_init_13 : decode cX5_init 13 = .ok (.aload_n 0, 1) := by decide +kernel
theorem dX5_init_14 : decode cX5_init 14 = .ok (.sipush 400, 3) := by decide +kernel
theorem dX5_init_17 : decode cX5_init 17 = .ok (.newarray .int, 2) := by decide +kernel
theorem dX5_init_19 : decode cX5_init 19 = .ok (.putfield 13, 3) := by decide +kernel
theorem dX5_init_22 : decode cX5_init 22 = .ok (.aload_n 0, 1) := by decide +kernel
theorem dX5_init_23 : decode cX5_init 23 = .ok (.iconst 1, 1) := by decide +kernel
theorem dX5_init_24 : decode cX5_init 24 = .ok (.putfield 16, 3) := by decide +kernel
theorem dX5_init_27 : decode cX5_init 27 = .ok (.aload_n 0, 1) := by decide +kernel
theorem dX5_init_28 : decode cX5_init 28 = .ok (.iconst (-1), 1) := by decide +kernel
theorem dX5_init_29 : decode cX5_init 29 = .ok (.putfield 20, 3) := by decide +kernel
theorem dX5_init_32 : decode cX5_init 32 = .ok (.aload_n 0, 1) := by decide +kernel
theorem dX5_init_33 : decode cX5_init 33 = .ok (.iconst (-1), 1) := by decide +kernel
theorem dX5_init_34 : decode cX5_init 34 = .ok (.putfield 24, 3) := by decide +kernel
theorem dX5_init_37 : decode cX5_init 37 = .ok (.aload_n 0, 1) := by decide +kernel
theorem dX5_init_38 : decode cX5_init 38 = .ok (.sipush 460, 3) := by decide +kernel
theorem dX5_init_41 : decode cX5_init 41 = .ok (.newarray .int, 2) := by decide +kernel
theorem dX5_init_43 : decode cX5_init 43 = .ok (.putfield 27, 3) := by decide +kernel
theorem dX5_init_46 : decode cX5_init 46 = .ok (.aload_n 0, 1) := by decide +kernel
theorem dX5_init_47 : decode cX5_init 47 = .ok (.sipush 460, 3) := by decide +kernel
theorem dX5_init_50 : decode cX5_init 50 = .ok (.newarray .int, 2) := by decide +kernel
theorem dX5_init_52 : decode cX5_init 52 = .ok (.putfield 30, 3) := by decide +kernel
theorem dX5_init_55 : decode cX5_init 55 = .ok (.aload_n 0, 1) := by decide +kernel
theorem dX5_init_56 : decode cX5_init 56 = .ok (.sipush 460, 3) := by decide +kernel
theorem dX5_init_59 : decode cX5_init 59 = .ok (.newarray .int, 2) := by decide +kernel
theorem dX5_init_61 : decode cX5_init 61 = .ok (.putfield 33, 3) := by decide +kernel
theorem dX5_init_64 : decode cX5_init 64 = .ok (.aload_n 0, 1) := by decide +kernel
theorem dX5_init_65 : decode cX5_init 65 = .ok (.bipush 64, 2) := by decide +kernel
theorem dX5_init_67 : decode cX5_init 67 = .ok (.newarray .boolean, 2) := by decide +kernel
theorem dX5_init_69 : decode cX5_init 69 = .ok (.putfield 36, 3) := by decide +kernel
theorem dX5_init_72 : decode cX5_init 72 = .ok (.aload_n 0, 1) := by decide +kernel
theorem dX5_init_73 : decode cX5_init 73 = .ok (.iconst 0, 1) := by decide +kernel
theorem dX5_init_74 : decode cX5_init 74 = .ok (.putfield 40, 3) := by decide +kernel
theorem dX5_init_77 : decode cX5_init 77 = .ok (.return_, 1) := by decide +kernel
theorem dX5_thrown_0 : decode cX5_thrown 0 = .ok (.aload_n 0, 1) := by decide +kernel
theorem dX5_thrown_1 : decode cX5_thrown 1 = .ok (.getfield 43, 3) := by decide +kernel
theorem dX5_thrown_4 : decode cX5_thrown 4 = .ok (.ireturn, 1) := by decide +kernel
theorem dX5_feed_0 : decode cX5_feed 0 = .ok (.aload_n 0, 1) := by decide +kernel
theorem dX5_feed_1 : decode cX5_feed 1 = .ok (.iload_n 1, 1) := by decide +kernel
theorem dX5_feed_2 : decode cX5_feed 2 = .ok (.iconst 1, 1) := by decide +kernel
theorem dX5_feed_3 : decode cX5_feed 3 = .ok (.if_icmp .lt 21, 3) := by decide +kernel
theorem dX5_feed_6 : decode cX5_feed 6 = .ok (.iload_n 1, 1) := by decide +kernel
theorem dX5_feed_7 : decode cX5_feed 7 = .ok (.bipush 8, 2) := by decide +kernel
theorem dX5_feed_9 : decode cX5_feed 9 = .ok (.if_icmp .gt 15, 3) := by decide +kernel
theorem dX5_feed_12 : decode cX5_feed 12 = .ok (.aload_n 0, 1) := by decide +kernel
theorem dX5_feed_13 : decode cX5_feed 13 = .ok (.getfield 40, 3) := by decide +kernel
theorem dX5_feed_16 : decode cX5_feed 16 = .ok (.iload_n 1, 1) := by decide +kernel
theorem dX5_feed_17 : decode cX5_feed 17 = .ok (.iadd, 1) := by decide +kernel
theorem dX5_feed_18 : decode cX5_feed 18 = .ok (.sipush 400, 3) := by decide +kernel
theorem dX5_feed_21 : decode cX5_feed 21 = .ok (.if_icmp .le 7, 3) := by decide +kernel
theorem dX5_feed_24 : decode cX5_feed 24 = .ok (.iconst 1, 1) := by decide +kernel
theorem dX5_feed_25 : decode cX5_feed 25 = .ok (.goto 4, 3) := by decide +kernel
theorem dX5_feed_28 : decode cX5_feed 28 = .ok (.iconst 0, 1) := by decide +kernel
theorem dX5_feed_29 : decode cX5_feed 29 = .ok (.putfield 43, 3) := by decide +kernel
theorem dX5_feed_32 : decode cX5_feed 32 = .ok (.aload_n 0, 1) := by decide +kernel
theorem dX5_feed_33 : decode cX5_feed 33 = .ok (.getfield 43, 3) := by decide +kernel
theorem dX5_feed_36 : decode cX5_feed 36 = .ok (.ifCond .le 5, 3) := by decide +kernel
theorem dX5_feed_39 : decode cX5_feed 39 = .ok (.iconst 0, 1) := by decide +kernel
theorem dX5_feed_40 : decode cX5_feed 40 = .ok (.ireturn, 1) := by decide +kernel
theorem dX5_feed_41 : decode cX5_feed 41 = .ok (.iconst 0, 1) := by decide +kernel
theorem dX5_feed_42 : decode cX5_feed 42 = .ok (.istore 4, 2) := by decide +kernel
theorem dX5_feed_44 : decode cX5_feed 44 = .ok (.iload 4, 2) := by decide +kernel
theorem dX5_feed_46 : decode cX5_feed 46 = .ok (.iload_n 1, 1) := by decide +kernel
theorem dX5_feed_47 : decode cX5_feed 47 = .ok (.if_icmp .ge 33, 3) := by decide +kernel
theorem dX5_feed_50 : decode cX5_feed 50 = .ok (.aload_n 0, 1) := by decide +kernel
theorem dX5_feed_51 : decode cX5_feed 51 = .ok (.getfield 13, 3) := by decide +kernel
theorem dX5_feed_54 : decode cX5_feed 54 = .ok (.aload_n 0, 1) := by decide +kernel
theorem dX5_feed_55 : decode cX5_feed 55 = .ok (.getfield 40, 3) := by decide +kernel
theorem dX5_feed_58 : decode cX5_feed 58 = .ok (.iload 4, 2) := by decide +kernel
theorem dX5_feed_60 : decode cX5_feed 60 = .ok (.iadd, 1) := by decide +kernel
theorem dX5_feed_61 : decode cX5_feed 61 = .ok (.lload_n 2, 1) := by decide +kernel
theorem dX5_feed_62 : decode cX5_feed 62 = .ok (.bipush 8, 2) := by decide +kernel
theorem dX5_feed_64 : decode cX5_feed 64 = .ok (.iload 4, 2) := by decide +kernel
theorem dX5_feed_66 : decode cX5_feed 66 = .ok (.imul, 1) := by decide +kernel
theorem dX5_feed_67 : decode cX5_feed 67 = .ok (.lshr, 1) := by decide +kernel
theorem dX5_feed_68 : decode cX5_feed 68 = .ok (.ldc2_w 46, 3) := by decide +kernel
theorem dX5_feed_71 : decode cX5_feed 71 = .ok (.land, 1) := by decide +kernel
theorem dX5_feed_72 : decode cX5_feed 72 = .ok (.l2i, 1) := by decide +kernel
theorem dX5_feed_73 : decode cX5_feed 73 = .ok (.iastore, 1) := by decide +kernel
theorem dX5_feed_74 : decode cX5_feed 74 = .ok (.iinc 4 1, 3) := by decide +kernel
theorem dX5_feed_77 : decode cX5_feed 77 = .ok (.goto (-33), 3) := by decide +kernel
theorem dX5_feed_80 : decode cX5_feed 80 = .ok (.aload_n 0, 1) := by decide +kernel
theorem dX5_feed_81 : decode cX5_feed 81 = .ok (.dup, 1) := by decide +kernel
theorem dX5_feed_82 : decode cX5_feed 82 = .ok (.getfield 40, 3) := by decide +kernel
theorem dX5_feed_85 : decode cX5_feed 85 = .ok (.iload_n 1, 1) := by decide +kernel
theorem dX5_feed_86 : decode cX5_feed 86 = .ok (.iadd, 1) := by decide +kernel
theorem dX5_feed_87 : decode cX5_feed 87 = .ok (.putfield 40, 3) := by decide +kernel
theorem dX5_feed_90 : decode cX5_feed 90 = .ok (.aload_n 0, 1) := by decide +kernel
theorem dX5_feed_91 : decode cX5_feed 91 = .ok (.getfield 40, 3) := by decide +kernel
theorem dX5_feed_94 : decode cX5_feed 94 = .ok (.ireturn, 1) := by decide +kernel
theorem dX5_alike_0 : decode cX5_alike 0 = .ok (.iconst 0, 1) := by decide +kernel
theorem dX5_alike_1 : decode cX5_alike 1 = .ok (.istore_n 3, 1) := by decide +kernel
theorem dX5_alike_2 : decode cX5_alike 2 = .ok (.iload_n 1, 1) := by decide +kernel
theorem dX5_alike_3 : decode cX5_alike 3 = .ok (.iload_n 3, 1) := by decide +kernel
theorem dX5_alike_4 : decode cX5_alike 4 = .ok (.iadd, 1) := by decide +kernel
theorem dX5_alike_5 : decode cX5_alike 5 = .ok (.aload_n 0, 1) := by decide +kernel
theorem dX5_alike_6 : decode cX5_alike 6 = .ok (.getfield 48, 3) := by decide +kernel
theorem dX5_alike_9 : decode cX5_alike 9 = .ok (.if_icmp .ge 35, 3) := by decide +kernel
theorem dX5_alike_12 : decode cX5_alike 12 = .ok (.iload_n 3, 1) := by decide +kernel
theorem dX5_alike_13 : decode cX5_alike 13 = .ok (.sipush 258, 3) := by decide +kernel
theorem dX5_alike_16 : decode cX5_alike 16 = .ok (.if_icmp .ge 28, 3) := by decide +kernel
theorem dX5_alike_19 : decode cX5_alike 19 = .ok (.aload_n 0, 1) := by decide +kernel
theorem dX5_alike_20 : decode cX5_alike 20 = .ok (.getfield 33, 3) := by decide +kernel
theorem dX5_alike_23 : decode cX5_alike 23 = .ok (.iload_n 1, 1) := by decide +kernel
theorem dX5_alike_24 : decode cX5_alike 24 = .ok (.iload_n 3, 1) := by decide +kernel
theorem dX5_alike_25 : decode cX5_alike 25 = .ok (.iadd, 1) := by decide +kernel
theorem dX5_alike_26 : decode cX5_alike 26 = .ok (.iaload, 1) := by decide +kernel
theorem dX5_alike_27 : decode cX5_alike 27 = .ok (.aload_n 0, 1) := by decide +kernel
theorem dX5_alike_28 : decode cX5_alike 28 = .ok (.getfield 33, 3) := by decide +kernel
theorem dX5_alike_31 : decode cX5_alike 31 = .ok (.iload_n 2, 1) := by decide +kernel
theorem dX5_alike_32 : decode cX5_alike 32 = .ok (.iload_n 3, 1) := by decide +kernel
theorem dX5_alike_33 : decode cX5_alike 33 = .ok (.iadd, 1) := by decide +kernel
theorem dX5_alike_34 : decode cX5_alike 34 = .ok (.iaload, 1) := by decide +kernel
theorem dX5_alike_35 : decode cX5_alike 35 = .ok (.if_icmp .ne 9, 3) := by decide +kernel
theorem dX5_alike_38 : decode cX5_alike 38 = .ok (.iinc 3 1, 3) := by decide +kernel
theorem dX5_alike_41 : decode cX5_alike 41 = .ok (.goto (-39), 3) := by decide +kernel
theorem dX5_alike_44 : decode cX5_alike 44 = .ok (.iload_n 3, 1) := by decide +kernel
theorem dX5_alike_45 : decode cX5_alike 45 = .ok (.ireturn, 1) := by decide +kernel
theorem dX5_put_0 : decode cX5_put 0 = .ok (.aload_n 0, 1) := by decide +kernel
theorem dX5_put_1 : decode cX5_put 1 = .ok (.getfield 30, 3) := by decide +kernel
theorem dX5_put_4 : decode cX5_put 4 = .ok (.aload_n 0, 1) := by decide +kernel
theorem dX5_put_5 : decode cX5_put 5 = .ok (.getfield 51, 3) := by decide +kernel
theorem dX5_put_8 : decode cX5_put 8 = .ok (.iload_n 1, 1) := by decide +kernel
theorem dX5_put_9 : decode cX5_put 9 = .ok (.iastore, 1) := by decide +kernel
theorem dX5_put_10 : decode cX5_put 10 = .ok (.aload_n 0, 1) := by decide +kernel
theorem dX5_put_11 : decode cX5_put 11 = .ok (.dup, 1) := by decide +kernel
theorem dX5_put_12 : decode cX5_put 12 = .ok (.getfield 51, 3) := by decide +kernel
theorem dX5_put_15 : decode cX5_put 15 = .ok (.iconst 1, 1) := by decide +kernel
theorem dX5_put_16 : decode cX5_put 16 = .ok (.iadd, 1) := by decide +kernel
theorem dX5_put_17 : decode cX5_put 17 = .ok (.putfield 51, 3) := by decide +kernel
theorem dX5_put_20 : decode cX5_put 20 = .ok (.return_, 1) := by decide +kernel
set_option maxRecDepth 20000 in
theorem ggX5_code_X5_put : GoodIn wsX5_code wsX5_put := goodIn_r _ [9, 3, 1, 14, 15, 16, 17, 18, 19, 20, 21, 22, 23, 24, 25, 26, 27, 28] (by decide +kernel) (by decide +kernel)
set_option maxRecDepth 20000 in
theorem gX5_code_X5_put : GoodIn wsX5_code (wsV RX5 54 RX5 yX5_put wsX5_put) := goodIn_app (goodIn_of _ (by decide +kernel)) ggX5_code_X5_put
set_option maxRecDepth 20000 in
theorem ggX5_code_X5_alike : GoodIn wsX5_code wsX5_alike := goodIn_r _ [13, 2, 4, 14, 15, 16, 17, 18, 19, 20, 21, 22, 23, 24, 25, 26, 27, 28] (by decide +kernel) (by decide +kernel)
set_option maxRecDepth 20000 in
theorem gX5_code_X5_alike : GoodIn wsX5_code (wsV RX5 58 RX5 yX5_alike wsX5_alike) := goodIn_app (goodIn_of _ (by decide +kernel)) ggX5_code_X5_alike
theorem dX5_code_0 : decode cX5_code 0 = .ok (.aload_n 0, 1) := by decide +kernel
theorem dX5_code_1 : decode cX5_code 1 = .ok (.iconst 0, 1) := by decide +kernel
theorem dX5_code_2 : decode cX5_code 2 = .ok (.putfield 51, 3) := by decide +kernel
theorem dX5_code_5 : decode cX5_code 5 = .ok (.iconst 0, 1) := by decide +kernel
theorem dX5_code_6 : decode cX5_code 6 = .ok (.istore_n 1, 1) := by decide +kernel
theorem dX5_code_7 : decode cX5_code 7 = .ok (.bipush 8, 2) := by decide +kernel
theorem dX5_code_9 : decode cX5_code 9 = .ok (.istore_n 2, 1) := by decide +kernel
theorem dX5_code_10 : decode cX5_code 10 = .ok (.iconst 0, 1) := by decide +kernel
theorem dX5_code_11 : decode cX5_code 11 = .ok (.istore_n 3, 1) := by decide +kernel
theorem dX5_code_12 : decode cX5_code 12 = .ok (.iload_n 1, 1) := by decide +kernel
theorem dX5_code_13 : decode cX5_code 13 = .ok (.aload_n 0, 1) := by decide +kernel
theorem dX5_code_14 : decode cX5_code 14 = .ok (.getfield 48, 3) := by decide +kernel
theorem dX5_code_17 : decode cX5_code 17 = .ok (.if_icmp .ge 154, 3) := by decide +kernel
theorem dX5_code_20 : decode cX5_code 20 = .ok (.iload_n 2, 1) := by decide +kernel
theorem dX5_code_21 : decode cX5_code 21 = .ok (.bipush 8, 2) := by decide +kernel
theorem dX5_code_23 : decode cX5_code 23 = .ok (.if_icmp .ne 15, 3) := by decide +kernel
theorem dX5_code_26 : decode cX5_code 26 = .ok (.aload_n 0, 1) := by decide +kernel
theorem dX5_code_27 : decode cX5_code 27 = .ok (.getfield 51, 3) := by decide +kernel
theorem dX5_code_30 : decode cX5_code 30 = .ok (.istore_n 3, 1) := by decide +kernel
theorem dX5_code_31 : decode cX5_code 31 = .ok (.aload_n 0, 1) := by decide +kernel
theorem dX5_code_32 : decode cX5_code 32 = .ok (.iconst 0, 1) := by decide +kernel
theorem dX5_code_33 : decode cX5_code 33 = .ok (.invokevirtual 54, 3) := by decide +kernel
theorem dX5_code_36 : decode cX5_code 36 = .ok (.iconst 0, 1) := by decide +kernel
theorem dX5_code_37 : decode cX5_code 37 = .ok (.istore_n 2, 1) := by decide +kernel
theorem dX5_code_38 : decode cX5_code 38 = .ok (.iconst 0, 1) := by decide +kernel
theorem dX5_code_39 : decode cX5_code 39 = .ok (.istore 4, 2) := by decide +kernel
theorem dX5_code_41 : decode cX5_code 41 = .ok (.iconst 0, 1) := by decide +kernel
theorem dX5_code_42 : decode cX5_code 42 = .ok (.istore 5, 2) := by decide +kernel
theorem dX5_code_44 : decode cX5_code 44 = .ok (.iconst 1, 1) := by decide +kernel
theorem dX5_code_45 : decode cX5_code 45 = .ok (.istore 6, 2) := by decide +kernel
theorem dX5_code_47 : decode cX5_code 47 = .ok (.iload 6, 2) := by decide +kernel
theorem dX5_code_49 : decode cX5_code 49 = .ok (.sipush 256, 3) := by decide +kernel
theorem dX5_code_52 : decode cX5_code 52 = .ok (.if_icmp .gt 58, 3) := by decide +kernel
theorem dX5_code_55 : decode cX5_code 55 = .ok (.iload 6, 2) := by decide +kernel
theorem dX5_code_57 : decode cX5_code 57 = .ok (.iload_n 1, 1) := by decide +kernel
theorem dX5_code_58 : decode cX5_code 58 = .ok (.if_icmp .gt 52, 3) := by decide +kernel
theorem dX5_code_61 : decode cX5_code 61 = .ok (.aload_n 0, 1) := by decide +kernel
theorem dX5_code_62 : decode cX5_code 62 = .ok (.iload_n 1, 1) := by decide +kernel
theorem dX5_code_63 : decode cX5_code 63 = .ok (.iload_n 1, 1) := by decide +kernel
theorem dX5_code_64 : decode cX5_code 64 = .ok (.iload 6, 2) := by decide +kernel
theorem dX5_code_66 : decode cX5_code 66 = .ok (.isub, 1) := by decide +kernel
theorem dX5_code_67 : decode cX5_code 67 = .ok (.invokevirtual 58, 3) := by decide +kernel
theorem dX5_code_70 : decode cX5_code 70 = .ok (.istore 7, 2) := by decide +kernel
theorem dX5_code_72 : decode cX5_code 72 = .ok (.iload 7, 2) := by decide +kernel
theorem dX5_code_74 : decode cX5_code 74 = .ok (.iload 4, 2) := by decide +kernel
theorem dX5_code_76 : decode cX5_code 76 = .ok (.if_icmp .le 8, 3) := by decide +kernel
theorem dX5_code_79 : decode cX5_code 79 = .ok (.iload 6, 2) := by decide +kernel
theorem dX5_code_81 : decode cX5_code 81 = .ok (.goto 5, 3) := by decide +kernel
theorem dX5_code_84 : decode cX5_code 84 = .ok (.iload 5, 2) := by decide +kernel
theorem dX5_code_86 : decode cX5_code 86 = .ok (.istore 5, 2) := by decide +kernel
theorem dX5_code_88 : decode cX5_code 88 = .ok (.iload 7, 2) := by decide +kernel
theorem dX5_code_90 : decode cX5_code 90 = .ok (.iload 4, 2) := by decide +kernel
theorem dX5_code_92 : decode cX5_code 92 = .ok (.if_icmp .le 8, 3) := by decide +kernel
theorem dX5_code_95 : decode cX5_code 95 = .ok (.iload 7, 2) := by decide +kernel
theorem dX5_code_97 : decode cX5_code 97 = .ok (.goto 5, 3) := by decide +kernel
theorem dX5_code_100 : decode cX5_code 100 = .ok (.iload 4, 2) := by decide +kernel
theorem dX5_code_102 : decode cX5_code 102 = .ok (.istore 4, 2) := by decide +kernel
theorem dX5_code_104 : decode cX5_code 104 = .ok (.iinc 6 1, 3) := by decide +kernel
theorem dX5_code_107 : decode cX5_code 107 = .ok (.goto (-60), 3) := by decide +kernel
theorem dX5_code_110 : decode cX5_code 110 = .ok (.iload 4, 2) := by decide +kernel
theorem dX5_code_112 : decode cX5_code 112 = .ok (.iconst 3, 1) := by decide +kernel
theorem dX5_code_113 : decode cX5_code 113 = .ok (.if_icmp .lt 27, 3) := by decide +kernel
theorem dX5_code_116 : decode cX5_code 116 = .ok (.aload_n 0, 1) := by decide +kernel
theorem dX5_code_117 : decode cX5_code 117 = .ok (.iload 5, 2) := by decide +kernel
theorem dX5_code_119 : decode cX5_code 119 = .ok (.iconst 1, 1) := by decide +kernel
theorem dX5_code_120 : decode cX5_code 120 = .ok (.isub, 1) := by decide +kernel
theorem dX5_code_121 : decode cX5_code 121 = .ok (.invokevirtual 54, 3) := by decide +kernel
theorem dX5_code_124 : decode cX5_code 124 = .ok (.aload_n 0, 1) := by decide +kernel
theorem dX5_code_125 : decode cX5_code 125 = .ok (.iload 4, 2) := by decide +kernel
theorem dX5_code_127 : decode cX5_code 127 = .ok (.iconst 3, 1) := by decide +kernel
theorem dX5_code_128 : decode cX5_code 128 = .ok (.isub, 1) := by decide +kernel
theorem dX5_code_129 : decode cX5_code 129 = .ok (.invokevirtual 54, 3) := by decide +kernel
theorem dX5_code_132 : decode cX5_code 132 = .ok (.iload_n 1, 1) := by decide +kernel
theorem dX5_code_133 : decode cX5_code 133 = .ok (.iload 4, 2) := by decide +kernel
theorem dX5_code_135 : decode cX5_code 135 = .ok (.iadd, 1) := by decide +kernel
theorem dX5_code_136 : decode cX5_code 136 = .ok (.istore_n 1, 1) := by decide +kernel
theorem dX5_code_137 : decode cX5_code 137 = .ok (.goto 28, 3) := by decide +kernel
theorem dX5_code_140 : decode cX5_code 140 = .ok (.aload_n 0, 1) := by decide +kernel
theorem dX5_code_141 : decode cX5_code 141 = .ok (.getfield 30, 3) := by decide +kernel
theorem dX5_code_144 : decode cX5_code 144 = .ok (.iload_n 3, 1) := by decide +kernel
theorem dX5_code_145 : decode cX5_code 145 = .ok (.dup2, 1) := by decide +kernel
theorem dX5_code_146 : decode cX5_code 146 = .ok (.iaload, 1) := by decide +kernel
theorem dX5_code_147 : decode cX5_code 147 = .ok (.iconst 1, 1) := by decide +kernel
theorem dX5_code_148 : decode cX5_code 148 = .ok (.iload_n 2, 1) := by decide +kernel
theorem dX5_code_149 : decode cX5_code 149 = .ok (.ishl, 1) := by decide +kernel
theorem dX5_code_150 : decode cX5_code 150 = .ok (.ior, 1) := by decide +kernel
theorem dX5_code_151 : decode cX5_code 151 = .ok (.iastore, 1) := by decide +kernel
theorem dX5_code_152 : decode cX5_code 152 = .ok (.aload_n 0, 1) := by decide +kernel
theorem dX5_code_153 : decode cX5_code 153 = .ok (.aload_n 0, 1) := by decide +kernel
theorem dX5_code_154 : decode cX5_code 154 = .ok (.getfield 33, 3) := by decide +kernel
theorem dX5_code_157 : decode cX5_code 157 = .ok (.iload_n 1, 1) := by decide +kernel
theorem dX5_code_158 : decode cX5_code 158 = .ok (.iaload, 1) := by decide +kernel
theorem dX5_code_159 : decode cX5_code 159 = .ok (.invokevirtual 54, 3) := by decide +kernel
theorem dX5_code_162 : decode cX5_code 162 = .ok (.iinc 1 1, 3) := by decide +kernel
theorem dX5_code_165 : decode cX5_code 165 = .ok (.iinc 2 1, 3) := by decide +kernel
theorem dX5_code_168 : decode cX5_code 168 = .ok (.goto (-156), 3) := by decide +kernel
theorem dX5_code_171 : decode cX5_code 171 = .ok (.return_, 1) := by decide +kernel
theorem dX5_wrong_0 : decode cX5_wrong 0 = .ok (.aload_n 0, 1) := by decide +kernel
theorem dX5_wrong_1 : decode cX5_wrong 1 = .ok (.iload_n 1, 1) := by decide +kernel
theorem dX5_wrong_2 : decode cX5_wrong 2 = .ok (.putfield 24, 3) := by decide +kernel
theorem dX5_wrong_5 : decode cX5_wrong 5 = .ok (.iconst 0, 1) := by decide +kernel
theorem dX5_wrong_6 : decode cX5_wrong 6 = .ok (.ireturn, 1) := by decide +kernel
set_option maxRecDepth 20000 in
theorem ggX5_decode_X5_wrong : GoodIn wsX5_decode wsX5_wrong := goodIn_r _ [9, 10, 15, 16, 17, 18, 19, 20, 21, 22, 23, 24, 25, 26, 27, 28, 29] (by decide +kernel) (by decide +kernel)
set_option maxRecDepth 20000 in
theorem gX5_decode_X5_wrong : GoodIn wsX5_decode (wsV RX5 62 RX5 yX5_wrong wsX5_wrong) := goodIn_app (goodIn_of _ (by decide +kernel)) ggX5_decode_X5_wrong
set_option maxRecDepth 20000 in
theorem ggX5_decode_X5_put : GoodIn wsX5_decode wsX5_put := goodIn_r _ [14, 4, 1, 15, 16, 17, 18, 19, 20, 21, 22, 23, 24, 25, 26, 27, 28, 29] (by decide +kernel) (by decide +kernel)
set_option maxRecDepth 20000 in
theorem gX5_decode_X5_put : GoodIn wsX5_decode (wsV RX5 54 RX5 yX5_put wsX5_put) := goodIn_app (goodIn_of _ (by decide +kernel)) ggX5_decode_X5_put
theorem dX5_decode_0 : decode cX5_decode 0 = .ok (.aload_n 0, 1) := by decide +kernel
theorem dX5_decode_1 : decode cX5_decode 1 = .ok (.iconst 0, 1) := by decide +kernel
theorem dX5_decode_2 : decode cX5_decode 2 = .ok (.putfield 51, 3) := by decide +kernel
theorem dX5_decode_5 : decode cX5_decode 5 = .ok (.iconst 0, 1) := by decide +kernel
theorem dX5_decode_6 : decode cX5_decode 6 = .ok (.istore_n 1, 1) := by decide +kernel
theorem dX5_decode_7 : decode cX5_decode 7 = .ok (.iload_n 1, 1) := by decide +kernel
theorem dX5_decode_8 : decode cX5_decode 8 = .ok (.aload_n 0, 1) := by decide +kernel
theorem dX5_decode_9 : decode cX5_decode 9 = .ok (.getfield 48, 3) := by decide +kernel
theorem dX5_decode_12 : decode cX5_decode 12 = .ok (.if_icmp .ge 220, 3) := by decide +kernel
theorem dX5_decode_15 : decode cX5_decode 15 = .ok (.iload_n 1, 1) := by decide +kernel
theorem dX5_decode_16 : decode cX5_decode 16 = .ok (.istore_n 2, 1) := by decide +kernel
theorem dX5_decode_17 : decode cX5_decode 17 = .ok (.iinc 1 1, 3) := by decide +kernel
theorem dX5_decode_20 : decode cX5_decode 20 = .ok (.iload_n 1, 1) := by decide +kernel
theorem dX5_decode_21 : decode cX5_decode 21 = .ok (.aload_n 0, 1) := by decide +kernel
theorem dX5_decode_22 : decode cX5_decode 22 = .ok (.getfield 48, 3) := by decide +kernel
theorem dX5_decode_25 : decode cX5_decode 25 = .ok (.if_icmp .ne 9, 3) := by decide +kernel
theorem dX5_decode_28 : decode cX5_decode 28 = .ok (.aload_n 0, 1) := by decide +kernel
theorem dX5_decode_29 : decode cX5_decode 29 = .ok (.iload_n 2, 1) := by decide +kernel
theorem dX5_decode_30 : decode cX5_decode 30 = .ok (.invokevirtual 62, 3) := by decide +kernel
theorem dX5_decode_33 : decode cX5_decode 33 = .ok (.ireturn, 1) := by decide +kernel
theorem dX5_decode_34 : decode cX5_decode 34 = .ok (.iconst 0, 1) := by decide +kernel
theorem dX5_decode_35 : decode cX5_decode 35 = .ok (.istore_n 3, 1) := by decide +kernel
theorem dX5_decode_36 : decode cX5_decode 36 = .ok (.iload_n 3, 1) := by decide +kernel
theorem dX5_decode_37 : decode cX5_decode 37 = .ok (.bipush 8, 2) := by decide +kernel
theorem dX5_decode_39 : decode cX5_decode 39 = .ok (.if_icmp .ge 190, 3) := by decide +kernel
theorem dX5_decode_42 : decode cX5_decode 42 = .ok (.aload_n 0, 1) := by decide +kernel
theorem dX5_decode_43 : decode cX5_decode 43 = .ok (.getfield 33, 3) := by decide +kernel
theorem dX5_decode_46 : decode cX5_decode 46 = .ok (.iload_n 2, 1) := by decide +kernel
theorem dX5_decode_47 : decode cX5_decode 47 = .ok (.iaload, 1) := by decide +kernel
theorem dX5_decode_48 : decode cX5_decode 48 = .ok (.iload_n 3, 1) := by decide +kernel
theorem dX5_decode_49 : decode cX5_decode 49 = .ok (.ishr, 1) := by decide +kernel
theorem dX5_decode_50 : decode cX5_decode 50 = .ok (.iconst 1, 1) := by decide +kernel
theorem dX5_decode_51 : decode cX5_decode 51 = .ok (.iand, 1) := by decide +kernel
theorem dX5_decode_52 : decode cX5_decode 52 = .ok (.iconst 1, 1) := by decide +kernel
theorem dX5_decode_53 : decode cX5_decode 53 = .ok (.if_icmp .ne 7, 3) := by decide +kernel
theorem dX5_decode_56 : decode cX5_decode 56 = .ok (.iconst 1, 1) := by decide +kernel
theorem dX5_decode_57 : decode cX5_decode 57 = .ok (.goto 4, 3) := by decide +kernel
theorem dX5_decode_60 : decode cX5_decode 60 = .ok (.iconst 0, 1) := by decide +kernel
theorem dX5_decode_61 : decode cX5_decode 61 = .ok (.istore 4, 2) := by decide +kernel
theorem dX5_decode_63 : decode cX5_decode 63 = .ok (.iload_n 1, 1) := by decide +kernel
theorem dX5_decode_64 : decode cX5_decode 64 = .ok (.aload_n 0, 1) := by decide +kernel
theorem dX5_decode_65 : decode cX5_decode 65 = .ok (.getfield 48, 3) := by decide +kernel
theorem dX5_decode_68 : decode cX5_decode 68 = .ok (.if_icmp .ne 14, 3) := by decide +kernel
theorem dX5_decode_71 : decode cX5_decode 71 = .ok (.iload 4, 2) := by decide +kernel
theorem dX5_decode_73 : decode cX5_decode 73 = .ok (.ifCond .eq 150, 3) := by decide +kernel
theorem dX5_decode_76 : decode cX5_decode 76 = .ok (.aload_n 0, 1) := by decide +kernel
theorem dX5_decode_77 : decode cX5_decode 77 = .ok (.iload_n 2, 1) := by decide +kernel
theorem dX5_decode_78 : decode cX5_decode 78 = .ok (.invokevirtual 62, 3) := by decide +kernel
theorem dX5_decode_81 : decode cX5_decode 81 = .ok (.ireturn, 1) := by decide +kernel
theorem dX5_decode_82 : decode cX5_decode 82 = .ok (.iload 4, 2) := by decide +kernel
theorem dX5_decode_84 : decode cX5_decode 84 = .ok (.ifCond .eq 35, 3) := by decide +kernel
theorem dX5_decode_87 : decode cX5_decode 87 = .ok (.aload_n 0, 1) := by decide +kernel
theorem dX5_decode_88 : decode cX5_decode 88 = .ok (.getfield 51, 3) := by decide +kernel
theorem dX5_decode_91 : decode cX5_decode 91 = .ok (.sipush 400, 3) := by decide +kernel
theorem dX5_decode_94 : decode cX5_decode 94 = .ok (.if_icmp .ne 9, 3) := by decide +kernel
theorem dX5_decode_97 : decode cX5_decode 97 = .ok (.aload_n 0, 1) := by decide +kernel
theorem dX5_decode_98 : decode cX5_decode 98 = .ok (.iload_n 1, 1) := by decide +kernel
theorem dX5_decode_99 : decode cX5_decode 99 = .ok (.invokevirtual 62, 3) := by decide +kernel
theorem dX5_decode_102 : decode cX5_decode 102 = .ok (.ireturn, 1) := by decide +kernel
theorem dX5_decode_103 : decode cX5_decode 103 = .ok (.aload_n 0, 1) := by decide +kernel
theorem dX5_decode_104 : decode cX5_decode 104 = .ok (.aload_n 0, 1) := by decide +kernel
theorem dX5_decode_105 : decode cX5_decode 105 = .ok (.getfield 33, 3) := by decide +kernel
theorem dX5_decode_108 : decode cX5_decode 108 = .ok (.iload_n 1, 1) := by decide +kernel
theorem dX5_decode_109 : decode cX5_decode 109 = .ok (.iaload, 1) := by decide +kernel
theorem dX5_decode_110 : decode cX5_decode 110 = .ok (.invokevirtual 54, 3) := by decide +kernel
theorem dX5_decode_113 : decode cX5_decode 113 = .ok (.iinc 1 1, 3) := by decide +kernel
theorem dX5_decode_116 : decode cX5_decode 116 = .ok (.goto 107, 3) := by decide +kernel
theorem dX5_decode_119 : decode cX5_decode 119 = .ok (.iload_n 1, 1) := by decide +kernel
theorem dX5_decode_120 : decode cX5_decode 120 = .ok (.iconst 1, 1) := by decide +kernel
theorem dX5_decode_121 : decode cX5_decode 121 = .ok (.iadd, 1) := by decide +kernel
theorem dX5_decode_122 : decode cX5_decode 122 = .ok (.aload_n 0, 1) := by decide +kernel
theorem dX5_decode_123 : decode cX5_decode 123 = .ok (.getfield 48, 3) := by decide +kernel
theorem dX5_decode_126 : decode cX5_decode 126 = .ok (.if_icmp .ne 12, 3) := by decide +kernel
theorem dX5_decode_129 : decode cX5_decode 129 = .ok (.aload_n 0, 1) := by decide +kernel
theorem dX5_decode_130 : decode cX5_decode 130 = .ok (.aload_n 0, 1) := by decide +kernel
theorem dX5_decode_131 : decode cX5_decode 131 = .ok (.getfield 48, 3) := by decide +kernel
theorem dX5_decode_134 : decode cX5_decode 134 = .ok (.invokevirtual 62, 3) := by decide +kernel
theorem dX5_decode_137 : decode cX5_decode 137 = .ok (.ireturn, 1) := by decide +kernel
theorem dX5_decode_138 : decode cX5_decode 138 = .ok (.aload_n 0, 1) := by decide +kernel
theorem dX5_decode_139 : decode cX5_decode 139 = .ok (.getfield 33, 3) := by decide +kernel
theorem dX5_decode_142 : decode cX5_decode 142 = .ok (.iload_n 1, 1) := by decide +kernel
theorem dX5_decode_143 : decode cX5_decode 143 = .ok (.iaload, 1) := by decide +kernel
theorem dX5_decode_144 : decode cX5_decode 144 = .ok (.iconst 1, 1) := by decide +kernel
theorem dX5_decode_145 : decode cX5_decode 145 = .ok (.iadd, 1) := by decide +kernel
theorem dX5_decode_146 : decode cX5_decode 146 = .ok (.istore 5, 2) := by decide +kernel
theorem dX5_decode_148 : decode cX5_decode 148 = .ok (.aload_n 0, 1) := by decide +kernel
theorem dX5_decode_149 : decode cX5_decode 149 = .ok (.getfield 33, 3) := by decide +kernel
theorem dX5_decode_152 : decode cX5_decode 152 = .ok (.iload_n 1, 1) := by decide +kernel
theorem dX5_decode_153 : decode cX5_decode 153 = .ok (.iconst 1, 1) := by decide +kernel
theorem dX5_decode_154 : decode cX5_decode 154 = .ok (.iadd, 1) := by decide +kernel
theorem dX5_decode_155 : decode cX5_decode 155 = .ok (.iaload, 1) := by decide +kernel
theorem dX5_decode_156 : decode cX5_decode 156 = .ok (.iconst 3, 1) := by decide +kernel
theorem dX5_decode_157 : decode cX5_decode 157 = .ok (.iadd, 1) := by decide +kernel
theorem dX5_decode_158 : decode cX5_decode 158 = .ok (.istore 6, 2) := by decide +kernel
theorem dX5_decode_160 : decode cX5_decode 160 = .ok (.iload 5, 2) := by decide +kernel
theorem dX5_decode_162 : decode cX5_decode 162 = .ok (.aload_n 0, 1) := by decide +kernel
theorem dX5_decode_163 : decode cX5_decode 163 = .ok (.getfield 51, 3) := by decide +kernel
theorem dX5_decode_166 : decode cX5_decode 166 = .ok (.if_icmp .gt 16, 3) := by decide +kernel
theorem dX5_decode_169 : decode cX5_decode 169 = .ok (.aload_n 0, 1) := by decide +kernel
theorem dX5_decode_170 : decode cX5_decode 170 = .ok (.getfield 51, 3) := by decide +kernel
theorem dX5_decode_173 : decode cX5_decode 173 = .ok (.iload 6, 2) := by decide +kernel
theorem dX5_decode_175 : decode cX5_decode 175 = .ok (.iadd, 1) := by decide +kernel
theorem dX5_decode_176 : decode cX5_decode 176 = .ok (.sipush 400, 3) := by decide +kernel
theorem dX5_decode_179 : decode cX5_decode 179 = .ok (.if_icmp .le 9, 3) := by decide +kernel
theorem dX5_decode_182 : decode cX5_decode 182 = .ok (.aload_n 0, 1) := by decide +kernel
theorem dX5_decode_183 : decode cX5_decode 183 = .ok (.iload_n 1, 1) := by decide +kernel
theorem dX5_decode_184 : decode cX5_decode 184 = .ok (.invokevirtual 62, 3) := by decide +kernel
theorem dX5_decode_187 : decode cX5_decode 187 = .ok (.ireturn, 1) := by decide +kernel
theorem dX5_decode_188 : decode cX5_decode 188 = .ok (.iconst 0, 1) := by decide +kernel
theorem dX5_decode_189 : decode cX5_decode 189 = .ok (.istore 7, 2) := by decide +kernel
theorem dX5_decode_191 : decode cX5_decode 191 = .ok (.iload 7, 2) := by decide +kernel
theorem dX5_decode_193 : decode cX5_decode 193 = .ok (.iload 6, 2) := by decide +kernel
theorem dX5_decode_195 : decode cX5_decode 195 = .ok (.if_icmp .ge 25, 3) := by decide +kernel
theorem dX5_decode_198 : decode cX5_decode 198 = .ok (.aload_n 0, 1) := by decide +kernel
theorem dX5_decode_199 : decode cX5_decode 199 = .ok (.aload_n 0, 1) := by decide +kernel
theorem dX5_decode_200 : decode cX5_decode 200 = .ok (.getfield 30, 3) := by decide +kernel
theorem dX5_decode_203 : decode cX5_decode 203 = .ok (.aload_n 0, 1) := by decide +kernel
theorem dX5_decode_204 : decode cX5_decode 204 = .ok (.getfield 51, 3) := by decide +kernel
theorem dX5_decode_207 : decode cX5_decode 207 = .ok (.iload 5, 2) := by decide +kernel
theorem dX5_decode_209 : decode cX5_decode 209 = .ok (.isub, 1) := by decide +kernel
theorem dX5_decode_210 : decode cX5_decode 210 = .ok (.iaload, 1) := by decide +kernel
theorem dX5_decode_211 : decode cX5_decode 211 = .ok (.invokevirtual 54, 3) := by decide +kernel
theorem dX5_decode_214 : decode cX5_decode 214 = .ok (.iinc 7 1, 3) := by decide +kernel
theorem dX5_decode_217 : decode cX5_decode 217 = .ok (.goto (-26), 3) := by decide +kernel
theorem dX5_decode_220 : decode cX5_decode 220 = .ok (.iinc 1 2, 3) := by decide +kernel
theorem dX5_decode_223 : decode cX5_decode 223 = .ok (.iinc 3 1, 3) := by decide +kernel
theorem dX5_decode_226 : decode cX5_decode 226 = .ok (.goto (-190), 3) := by decide +kernel
theorem dX5_decode_229 : decode cX5_decode 229 = .ok (.goto (-222), 3) := by decide +kernel
theorem dX5_decode_232 : decode cX5_decode 232 = .ok (.iconst 1, 1) := by decide +kernel
theorem dX5_decode_233 : decode cX5_decode 233 = .ok (.ireturn, 1) := by decide +kernel
theorem dX5_load0_0 : decode cX5_load0 0 = .ok (.aload_n 0, 1) := by decide +kernel
theorem dX5_load0_1 : decode cX5_load0 1 = .ok (.aload_n 0, 1) := by decide +kernel
theorem dX5_load0_2 : decode cX5_load0 2 = .ok (.getfield 51, 3) := by decide +kernel
theorem dX5_load0_5 : decode cX5_load0 5 = .ok (.putfield 66, 3) := by decide +kernel
theorem dX5_load0_8 : decode cX5_load0 8 = .ok (.iconst 0, 1) := by decide +kernel
theorem dX5_load0_9 : decode cX5_load0 9 = .ok (.istore_n 1, 1) := by decide +kernel
theorem dX5_load0_10 : decode cX5_load0 10 = .ok (.iload_n 1, 1) := by decide +kernel
theorem dX5_load0_11 : decode cX5_load0 11 = .ok (.aload_n 0, 1) := by decide +kernel
theorem dX5_load0_12 : decode cX5_load0 12 = .ok (.getfield 51, 3) := by decide +kernel
theorem dX5_load0_15 : decode cX5_load0 15 = .ok (.if_icmp .ge 21, 3) := by decide +kernel
theorem dX5_load0_18 : decode cX5_load0 18 = .ok (.aload_n 0, 1) := by decide +kernel
theorem dX5_load0_19 : decode cX5_load0 19 = .ok (.getfield 27, 3) := by decide +kernel
theorem dX5_load0_22 : decode cX5_load0 22 = .ok (.iload_n 1, 1) := by decide +kernel
theorem dX5_load0_23 : decode cX5_load0 23 = .ok (.aload_n 0, 1) := by decide +kernel
theorem dX5_load0_24 : decode cX5_load0 24 = .ok (.getfield 30, 3) := by decide +kernel
theorem dX5_load0_27 : decode cX5_load0 27 = .ok (.iload_n 1, 1) := by decide +kernel
theorem dX5_load0_28 : decode cX5_load0 28 = .ok (.iaload, 1) := by decide +kernel
theorem dX5_load0_29 : decode cX5_load0 29 = .ok (.iastore, 1) := by decide +kernel
theorem dX5_load0_30 : decode cX5_load0 30 = .ok (.iinc 1 1, 3) := by decide +kernel
theorem dX5_load0_33 : decode cX5_load0 33 = .ok (.goto (-23), 3) := by decide +kernel
theorem dX5_load0_36 : decode cX5_load0 36 = .ok (.return_, 1) := by decide +kernel
theorem dX5_takeTape_0 : decode cX5_takeTape 0 = .ok (.aload_n 0, 1) := by decide +kernel
theorem dX5_takeTape_1 : decode cX5_takeTape 1 = .ok (.aload_n 0, 1) := by decide +kernel
theorem dX5_takeTape_2 : decode cX5_takeTape 2 = .ok (.getfield 40, 3) := by decide +kernel
theorem dX5_takeTape_5 : decode cX5_takeTape 5 = .ok (.putfield 48, 3) := by decide +kernel
theorem dX5_takeTape_8 : decode cX5_takeTape 8 = .ok (.iconst 0, 1) := by decide +kernel
theorem dX5_takeTape_9 : decode cX5_takeTape 9 = .ok (.istore_n 1, 1) := by decide +kernel
theorem dX5_takeTape_10 : decode cX5_takeTape 10 = .ok (.iload_n 1, 1) := by decide +kernel
theorem dX5_takeTape_11 : decode cX5_takeTape 11 = .ok (.aload_n 0, 1) := by decide +kernel
theorem dX5_takeTape_12 : decode cX5_takeTape 12 = .ok (.getfield 40, 3) := by decide +kernel
theorem dX5_takeTape_15 : decode cX5_takeTape 15 = .ok (.if_icmp .ge 21, 3) := by decide +kernel
theorem dX5_takeTape_18 : decode cX5_takeTape 18 = .ok (.aload_n 0, 1) := by decide +kernel
theorem dX5_takeTape_19 : decode cX5_takeTape 19 = .ok (.getfield 33, 3) := by decide +kernel
theorem dX5_takeTape_22 : decode cX5_takeTape 22 = .ok (.iload_n 1, 1) := by decide +kernel
theorem dX5_takeTape_23 : decode cX5_takeTape 23 = .ok (.aload_n 0, 1) := by decide +kernel
theorem dX5_takeTape_24 : decode cX5_takeTape 24 = .ok (.getfield 13, 3) := by decide +kernel
theorem dX5_takeTape_27 : decode cX5_takeTape 27 = .ok (.iload_n 1, 1) := by decide +kernel
theorem dX5_takeTape_28 : decode cX5_takeTape 28 = .ok (.iaload, 1) := by decide +kernel
theorem dX5_takeTape_29 : decode cX5_takeTape 29 = .ok (.iastore, 1) := by decide +kernel
theorem dX5_takeTape_30 : decode cX5_takeTape 30 = .ok (.iinc 1 1, 3) := by decide +kernel
theorem dX5_takeTape_33 : decode cX5_takeTape 33 = .ok (.goto (-23), 3) := by decide +kernel
theorem dX5_takeTape_36 : decode cX5_takeTape 36 = .ok (.aload_n 0, 1) := by decide +kernel
theorem dX5_takeTape_37 : decode cX5_takeTape 37 = .ok (.iconst 0, 1) := by decide +kernel
theorem dX5_takeTape_38 : decode cX5_takeTape 38 = .ok (.putfield 40, 3) := by decide +kernel
theorem dX5_takeTape_41 : decode cX5_takeTape 41 = .ok (.return_, 1) := by decide +kernel
set_option maxRecDepth 20000 in
theorem ggX5_pack_X5_takeTape : GoodIn wsX5_pack wsX5_takeTape := goodIn_r _ [7, 8, 9, 10, 11, 31, 32, 33, 34, 35, 36, 37, 38, 39, 40, 41, 42, 43, 44, 45] (by decide +kernel) (by decide +kernel)
set_option maxRecDepth 20000 in
theorem gX5_pack_X5_takeTape : GoodIn wsX5_pack (wsV RX5 69 RX5 yX5_takeTape wsX5_takeTape) := goodIn_app (goodIn_of _ (by decide +kernel)) ggX5_pack_X5_takeTape
set_option maxRecDepth 20000 in
theorem ggX5_pack_X5_code : GoodIn wsX5_pack wsX5_code := goodIn_r _ [15, 16, 9, 17, 10, 18, 19, 20, 6, 21, 22, 23, 24, 25, 31, 32, 33, 34, 35, 36, 37, 38, 39, 40, 41, 42, 43, 44, 45] (by decide +kernel) (by decide +kernel)
set_option maxRecDepth 20000 in
theorem gX5_pack_X5_code : GoodIn wsX5_pack (wsV RX5 72 RX5 yX5_code wsX5_code) := goodIn_app (goodIn_of _ (by decide +kernel)) ggX5_pack_X5_code
set_option maxRecDepth 20000 in
theorem ggX5_pack_X5_load0 : GoodIn wsX5_pack wsX5_load0 := goodIn_r _ [29, 16, 2, 30, 17, 31, 32, 33, 34, 35, 36, 37, 38, 39, 40, 41, 42, 43, 44, 45] (by decide +kernel) (by decide +kernel)
set_option maxRecDepth 20000 in
theorem gX5_pack_X5_load0 : GoodIn wsX5_pack (wsV RX5 75 RX5 yX5_load0 wsX5_load0) := goodIn_app (goodIn_of _ (by decide +kernel)) ggX5_pack_X5_load0
theorem dX5_pack_0 : decode cX5_pack 0 = .ok (.aload_n 0, 1) := by decide +kernel
theorem dX5_pack_1 : decode cX5_pack 1 = .ok (.iconst 0, 1) := by decide +kernel
theorem dX5_pack_2 : decode cX5_pack 2 = .ok (.putfield 43, 3) := by decide +kernel
theorem dX5_pack_5 : decode cX5_pack 5 = .ok (.aload_n 0, 1) := by decide +kernel
theorem dX5_pack_6 : decode cX5_pack 6 = .ok (.invokevirtual 69, 3) := by decide +kernel
theorem dX5_pack_9 : decode cX5_pack 9 = .ok (.aload_n 0, 1) := by decide +kernel
theorem dX5_pack_10 : decode cX5_pack 10 = .ok (.invokevirtual 72, 3) := by decide +kernel
theorem dX5_pack_13 : decode cX5_pack 13 = .ok (.aload_n 0, 1) := by decide +kernel
theorem dX5_pack_14 : decode cX5_pack 14 = .ok (.invokevirtual 75, 3) := by decide +kernel
theorem dX5_pack_17 : decode cX5_pack 17 = .ok (.aload_n 0, 1) := by decide +kernel
theorem dX5_pack_18 : decode cX5_pack 18 = .ok (.getfield 66, 3) := by decide +kernel
theorem dX5_pack_21 : decode cX5_pack 21 = .ok (.ireturn, 1) := by decide +kernel
set_option maxRecDepth 20000 in
theorem ggX5_unpack_X5_takeTape : GoodIn wsX5_unpack wsX5_takeTape := goodIn_r _ [7, 8, 9, 10, 11, 32, 33, 34, 35, 36, 37, 38, 39, 40, 41, 42, 43, 44, 45, 46] (by decide +kernel) (by decide +kernel)
set_option maxRecDepth 20000 in
theorem gX5_unpack_X5_takeTape : GoodIn wsX5_unpack (wsV RX5 69 RX5 yX5_takeTape wsX5_takeTape) := goodIn_app (goodIn_of _ (by decide +kernel)) ggX5_unpack_X5_takeTape
set_option maxRecDepth 20000 in
theorem ggX5_unpack_X5_decode : GoodIn wsX5_unpack wsX5_decode := goodIn_r _ [15, 16, 9, 10, 17, 18, 19, 20, 6, 21, 22, 23, 24, 25, 26, 32, 33, 34, 35, 36, 37, 38, 39, 40, 41, 42, 43, 44, 45, 46] (by decide +kernel) (by decide +kernel)
set_option maxRecDepth 20000 in
theorem gX5_unpack_X5_decode : GoodIn wsX5_unpack (wsV RX5 78 RX5 yX5_decode wsX5_decode) := goodIn_app (goodIn_of _ (by decide +kernel)) ggX5_unpack_X5_decode
set_option maxRecDepth 20000 in
theorem ggX5_unpack_X5_load0 : GoodIn wsX5_unpack wsX5_load0 := goodIn_r _ [30, 16, 2, 31, 17, 32, 33, 34, 35, 36, 37, 38, 39, 40, 41, 42, 43, 44, 45, 46] (by decide +kernel) (by decide +kernel)
set_option maxRecDepth 20000 in
theorem gX5_unpack_X5_load0 : GoodIn wsX5_unpack (wsV RX5 75 RX5 yX5_load0 wsX5_load0) := goodIn_app (goodIn_of _ (by decide +kernel)) ggX5_unpack_X5_load0
theorem dX5_unpack_0 : decode cX5_unpack 0 = .ok (.aload_n 0, 1) := by decide +kernel
theorem dX5_unpack_1 : decode cX5_unpack 1 = .ok (.iconst 0, 1) := by decide +kernel
theorem dX5_unpack_2 : decode cX5_unpack 2 = .ok (.putfield 43, 3) := by decide +kernel
theorem dX5_unpack_5 : decode cX5_unpack 5 = .ok (.aload_n 0, 1) := by decide +kernel
theorem dX5_unpack_6 : decode cX5_unpack 6 = .ok (.invokevirtual 69, 3) := by decide +kernel
theorem dX5_unpack_9 : decode cX5_unpack 9 = .ok (.aload_n 0, 1) := by decide +kernel
theorem dX5_unpack_10 : decode cX5_unpack 10 = .ok (.invokevirtual 78, 3) := by decide +kernel
theorem dX5_unpack_13 : decode cX5_unpack 13 = .ok (.ifCond .ne 5, 3) := by decide +kernel
theorem dX5_unpack_16 : decode cX5_unpack 16 = .ok (.iconst (-1), 1) := by decide +kernel
theorem dX5_unpack_17 : decode cX5_unpack 17 = .ok (.ireturn, 1) := by decide +kernel
theorem dX5_unpack_18 : decode cX5_unpack 18 = .ok (.aload_n 0, 1) := by decide +kernel
theorem dX5_unpack_19 : decode cX5_unpack 19 = .ok (.invokevirtual 75, 3) := by decide +kernel
theorem dX5_unpack_22 : decode cX5_unpack 22 = .ok (.aload_n 0, 1) := by decide +kernel
theorem dX5_unpack_23 : decode cX5_unpack 23 = .ok (.getfield 66, 3) := by decide +kernel
theorem dX5_unpack_26 : decode cX5_unpack 26 = .ok (.ireturn, 1) := by decide +kernel
theorem dX5_place_0 : decode cX5_place 0 = .ok (.aload_n 0, 1) := by decide +kernel
theorem dX5_place_1 : decode cX5_place 1 = .ok (.iconst 0, 1) := by decide +kernel
theorem dX5_place_2 : decode cX5_place 2 = .ok (.putfield 43, 3) := by decide +kernel
theorem dX5_place_5 : decode cX5_place 5 = .ok (.aload_n 0, 1) := by decide +kernel
theorem dX5_place_6 : decode cX5_place 6 = .ok (.getfield 24, 3) := by decide +kernel
theorem dX5_place_9 : decode cX5_place 9 = .ok (.ireturn, 1) := by decide +kernel
theorem dX5_out_0 : decode cX5_out 0 = .ok (.aload_n 0, 1) := by decide +kernel
theorem dX5_out_1 : decode cX5_out 1 = .ok (.iconst 0, 1) := by decide +kernel
theorem dX5_out_2 : decode cX5_out 2 = .ok (.putfield 43, 3) := by decide +kernel
theorem dX5_out_5 : decode cX5_out 5 = .ok (.iload_n 1, 1) := by decide +kernel
theorem dX5_out_6 : decode cX5_out 6 = .ok (.ifCond .lt 11, 3) := by decide +kernel
theorem dX5_out_9 : decode cX5_out 9 = .ok (.iload_n 1, 1) := by decide +kernel
theorem dX5_out_10 : decode cX5_out 10 = .ok (.aload_n 0, 1) := by decide +kernel
theorem dX5_out_11 : decode cX5_out 11 = .ok (.getfield 66, 3) := by decide +kernel
theorem dX5_out_14 : decode cX5_out 14 = .ok (.if_icmp .lt 7, 3) := by decide +kernel
theorem dX5_out_17 : decode cX5_out 17 = .ok (.iconst (-1), 1) := by decide +kernel
theorem dX5_out_18 : decode cX5_out 18 = .ok (.goto 9, 3) := by decide +kernel
theorem dX5_out_21 : decode cX5_out 21 = .ok (.aload_n 0, 1) := by decide +kernel
theorem dX5_out_22 : decode cX5_out 22 = .ok (.getfield 27, 3) := by decide +kernel
theorem dX5_out_25 : decode cX5_out 25 = .ok (.iload_n 1, 1) := by decide +kernel
theorem dX5_out_26 : decode cX5_out 26 = .ok (.iaload, 1) := by decide +kernel
theorem dX5_out_27 : decode cX5_out 27 = .ok (.ireturn, 1) := by decide +kernel
theorem dX5_numberOf_0 : decode cX5_numberOf 0 = .ok (.aload_n 0, 1) := by decide +kernel
theorem dX5_numberOf_1 : decode cX5_numberOf 1 = .ok (.getfield 7, 3) := by decide +kernel
theorem dX5_numberOf_4 : decode cX5_numberOf 4 = .ok (.bipush 8, 2) := by decide +kernel
theorem dX5_numberOf_6 : decode cX5_numberOf 6 = .ok (.iload_n 1, 1) := by decide +kernel
theorem dX5_numberOf_7 : decode cX5_numberOf 7 = .ok (.imul, 1) := by decide +kernel
theorem dX5_numberOf_8 : decode cX5_numberOf 8 = .ok (.iaload, 1) := by decide +kernel
theorem dX5_numberOf_9 : decode cX5_numberOf 9 = .ok (.ireturn, 1) := by decide +kernel
theorem dX5_partOf_0 : decode cX5_partOf 0 = .ok (.aload_n 0, 1) := by decide +kernel
theorem dX5_partOf_1 : decode cX5_partOf 1 = .ok (.getfield 7, 3) := by decide +kernel
theorem dX5_partOf_4 : decode cX5_partOf 4 = .ok (.bipush 8, 2) := by decide +kernel
theorem dX5_partOf_6 : decode cX5_partOf 6 = .ok (.iload_n 1, 1) := by decide +kernel
theorem dX5_partOf_7 : decode cX5_partOf 7 = .ok (.imul, 1) := by decide +kernel
theorem dX5_partOf_8 : decode cX5_partOf 8 = .ok (.iconst 1, 1) := by decide +kernel
theorem dX5_partOf_9 : decode cX5_partOf 9 = .ok (.iadd, 1) := by decide +kernel
theorem dX5_partOf_10 : decode cX5_partOf 10 = .ok (.iaload, 1) := by decide +kernel
theorem dX5_partOf_11 : decode cX5_partOf 11 = .ok (.sipush 255, 3) := by decide +kernel
theorem dX5_partOf_14 : decode cX5_partOf 14 = .ok (.iand, 1) := by decide +kernel
theorem dX5_partOf_15 : decode cX5_partOf 15 = .ok (.ireturn, 1) := by decide +kernel
theorem dX5_partsOf_0 : decode cX5_partsOf 0 = .ok (.aload_n 0, 1) := by decide +kernel
theorem dX5_partsOf_1 : decode cX5_partsOf 1 = .ok (.getfield 7, 3) := by decide +kernel
theorem dX5_partsOf_4 : decode cX5_partsOf 4 = .ok (.bipush 8, 2) := by decide +kernel
theorem dX5_partsOf_6 : decode cX5_partsOf 6 = .ok (.iload_n 1, 1) := by decide +kernel
theorem dX5_partsOf_7 : decode cX5_partsOf 7 = .ok (.imul, 1) := by decide +kernel
theorem dX5_partsOf_8 : decode cX5_partsOf 8 = .ok (.iconst 1, 1) := by decide +kernel
theorem dX5_partsOf_9 : decode cX5_partsOf 9 = .ok (.iadd, 1) := by decide +kernel
theorem dX5_partsOf_10 : decode cX5_partsOf 10 = .ok (.iaload, 1) := by decide +kernel
theorem dX5_partsOf_11 : decode cX5_partsOf 11 = .ok (.bipush 8, 2) := by decide +kernel
theorem dX5_partsOf_13 : decode cX5_partsOf 13 = .ok (.ishr, 1) := by decide +kernel
theorem dX5_partsOf_14 : decode cX5_partsOf 14 = .ok (.sipush 255, 3) := by decide +kernel
theorem dX5_partsOf_17 : decode cX5_partsOf 17 = .ok (.iand, 1) := by decide +kernel
theorem dX5_partsOf_18 : decode cX5_partsOf 18 = .ok (.ireturn, 1) := by decide +kernel
theorem dX5_formOf_0 : decode cX5_formOf 0 = .ok (.aload_n 0, 1) := by decide +kernel
theorem dX5_formOf_1 : decode cX5_formOf 1 = .ok (.getfield 7, 3) := by decide +kernel
theorem dX5_formOf_4 : decode cX5_formOf 4 = .ok (.bipush 8, 2) := by decide +kernel
theorem dX5_formOf_6 : decode cX5_formOf 6 = .ok (.iload_n 1, 1) := by decide +kernel
theorem dX5_formOf_7 : decode cX5_formOf 7 = .ok (.imul, 1) := by decide +kernel
theorem dX5_formOf_8 : decode cX5_formOf 8 = .ok (.iconst 1, 1) := by decide +kernel
theorem dX5_formOf_9 : decode cX5_formOf 9 = .ok (.iadd, 1) := by decide +kernel
theorem dX5_formOf_10 : decode cX5_formOf 10 = .ok (.iaload, 1) := by decide +kernel
theorem dX5_formOf_11 : decode cX5_formOf 11 = .ok (.bipush 16, 2) := by decide +kernel
theorem dX5_formOf_13 : decode cX5_formOf 13 = .ok (.ishr, 1) := by decide +kernel
theorem dX5_formOf_14 : decode cX5_formOf 14 = .ok (.ireturn, 1) := by decide +kernel
theorem dX5_keyOf_0 : decode cX5_keyOf 0 = .ok (.aload_n 0, 1) := by decide +kernel
theorem dX5_keyOf_1 : decode cX5_keyOf 1 = .ok (.getfield 7, 3) := by decide +kernel
theorem dX5_keyOf_4 : decode cX5_keyOf 4 = .ok (.bipush 8, 2) := by decide +kernel
theorem dX5_keyOf_6 : decode cX5_keyOf 6 = .ok (.iload_n 1, 1) := by decide +kernel
theorem dX5_keyOf_7 : decode cX5_keyOf 7 = .ok (.imul, 1) := by decide +kernel
theorem dX5_keyOf_8 : decode cX5_keyOf 8 = .ok (.iconst 2, 1) := by decide +kernel
theorem dX5_keyOf_9 : decode cX5_keyOf 9 = .ok (.iadd, 1) := by decide +kernel
theorem dX5_keyOf_10 : decode cX5_keyOf 10 = .ok (.iaload, 1) := by decide +kernel
theorem dX5_keyOf_11 : decode cX5_keyOf 11 = .ok (.ireturn, 1) := by decide +kernel
set_option maxRecDepth 20000 in
theorem ggX5_isWhole_X5_numberOf : GoodIn wsX5_isWhole wsX5_numberOf := goodIn_r _ [5, 6, 11, 12, 13, 14, 15, 16, 17, 18, 19, 20, 21, 22, 23, 24, 25] (by decide +kernel) (by decide +kernel)
set_option maxRecDepth 20000 in
theorem gX5_isWhole_X5_numberOf : GoodIn wsX5_isWhole (wsV RX5 82 RX5 yX5_numberOf wsX5_numberOf) := goodIn_app (goodIn_of _ (by decide +kernel)) ggX5_isWhole_X5_numberOf
set_option maxRecDepth 20000 in
theorem ggX5_isWhole_X5_partsOf : GoodIn wsX5_isWhole wsX5_partsOf := goodIn_r _ [10, 6, 11, 12, 13, 14, 15, 16, 17, 18, 19, 20, 21, 22, 23, 24, 25] (by decide +kernel) (by decide +kernel)
set_option maxRecDepth 20000 in
theorem gX5_isWhole_X5_partsOf : GoodIn wsX5_isWhole (wsV RX5 86 RX5 yX5_partsOf wsX5_partsOf) := goodIn_app (goodIn_of _ (by decide +kernel)) ggX5_isWhole_X5_partsOf
theorem dX5_isWhole_0 : decode cX5_isWhole 0 = .ok (.iconst 0, 1) := by decide +kernel
theorem dX5_isWhole_1 : decode cX5_isWhole 1 = .ok (.istore_n 2, 1) := by decide +kernel
theorem dX5_isWhole_2 : decode cX5_isWhole 2 = .ok (.iconst 0, 1) := by decide +kernel
theorem dX5_isWhole_3 : decode cX5_isWhole 3 = .ok (.istore_n 3, 1) := by decide +kernel
theorem dX5_isWhole_4 : decode cX5_isWhole 4 = .ok (.iload_n 3, 1) := by decide +kernel
theorem dX5_isWhole_5 : decode cX5_isWhole 5 = .ok (.bipush 64, 2) := by decide +kernel
theorem dX5_isWhole_7 : decode cX5_isWhole 7 = .ok (.if_icmp .ge 30, 3) := by decide +kernel
theorem dX5_isWhole_10 : decode cX5_isWhole 10 = .ok (.iload_n 2, 1) := by decide +kernel
theorem dX5_isWhole_11 : decode cX5_isWhole 11 = .ok (.aload_n 0, 1) := by decide +kernel
theorem dX5_isWhole_12 : decode cX5_isWhole 12 = .ok (.iload_n 3, 1) := by decide +kernel
theorem dX5_isWhole_13 : decode cX5_isWhole 13 = .ok (.invokevirtual 82, 3) := by decide +kernel
theorem dX5_isWhole_16 : decode cX5_isWhole 16 = .ok (.aload_n 0, 1) := by decide +kernel
theorem dX5_isWhole_17 : decode cX5_isWhole 17 = .ok (.iload_n 1, 1) := by decide +kernel
theorem dX5_isWhole_18 : decode cX5_isWhole 18 = .ok (.invokevirtual 82, 3) := by decide +kernel
theorem dX5_isWhole_21 : decode cX5_isWhole 21 = .ok (.if_icmp .ne 7, 3) := by decide +kernel
theorem dX5_isWhole_24 : decode cX5_isWhole 24 = .ok (.iconst 1, 1) := by decide +kernel
theorem dX5_isWhole_25 : decode cX5_isWhole 25 = .ok (.goto 4, 3) := by decide +kernel
theorem dX5_isWhole_28 : decode cX5_isWhole 28 = .ok (.iconst 0, 1) := by decide +kernel
theorem dX5_isWhole_29 : decode cX5_isWhole 29 = .ok (.iadd, 1) := by decide +kernel
theorem dX5_isWhole_30 : decode cX5_isWhole 30 = .ok (.istore_n 2, 1) := by decide +kernel
theorem dX5_isWhole_31 : decode cX5_isWhole 31 = .ok (.iinc 3 1, 3) := by decide +kernel
theorem dX5_isWhole_34 : decode cX5_isWhole 34 = .ok (.goto (-30), 3) := by decide +kernel
theorem dX5_isWhole_37 : decode cX5_isWhole 37 = .ok (.aload_n 0, 1) := by decide +kernel
theorem dX5_isWhole_38 : decode cX5_isWhole 38 = .ok (.iload_n 1, 1) := by decide +kernel
theorem dX5_isWhole_39 : decode cX5_isWhole 39 = .ok (.invokevirtual 82, 3) := by decide +kernel
theorem dX5_isWhole_42 : decode cX5_isWhole 42 = .ok (.ifCond .le 16, 3) := by decide +kernel
theorem dX5_isWhole_45 : decode cX5_isWhole 45 = .ok (.iload_n 2, 1) := by decide +kernel
theorem dX5_isWhole_46 : decode cX5_isWhole 46 = .ok (.aload_n 0, 1) := by decide +kernel
theorem dX5_isWhole_47 : decode cX5_isWhole 47 = .ok (.iload_n 1, 1) := by decide +kernel
theorem dX5_isWhole_48 : decode cX5_isWhole 48 = .ok (.invokevirtual 86, 3) := by decide +kernel
theorem dX5_isWhole_51 : decode cX5_isWhole 51 = .ok (.if_icmp .ne 7, 3) := by decide +kernel
theorem dX5_isWhole_54 : decode cX5_isWhole 54 = .ok (.iconst 1, 1) := by decide +kernel
theorem dX5_isWhole_55 : decode cX5_isWhole 55 = .ok (.goto 4, 3) := by decide +kernel
theorem dX5_isWhole_58 : decode cX5_isWhole 58 = .ok (.iconst 0, 1) := by decide +kernel
theorem dX5_isWhole_59 : decode cX5_isWhole 59 = .ok (.ireturn, 1) := by decide +kernel
set_option maxRecDepth 20000 in
theorem ggX5_isLive_X5_isWhole : GoodIn wsX5_isLive wsX5_isWhole := goodIn_r _ [5, 6, 7, 8, 4, 9, 10, 11, 12, 13, 14, 19, 20, 21, 22, 23, 24, 25, 26, 27, 28, 29, 30, 31, 32, 33] (by decide +kernel) (by decide +kernel)
set_option maxRecDepth 20000 in
theorem gX5_isLive_X5_isWhole : GoodIn wsX5_isLive (wsV RX5 89 RX5 yX5_isWhole wsX5_isWhole) := goodIn_app (goodIn_of _ (by decide +kernel)) ggX5_isLive_X5_isWhole
set_option maxRecDepth 20000 in
theorem ggX5_isLive_X5_numberOf : GoodIn wsX5_isLive wsX5_numberOf := goodIn_r _ [9, 10, 19, 20, 21, 22, 23, 24, 25, 26, 27, 28, 29, 30, 31, 32, 33] (by decide +kernel) (by decide +kernel)
set_option maxRecDepth 20000 in
theorem gX5_isLive_X5_numberOf : GoodIn wsX5_isLive (wsV RX5 82 RX5 yX5_numberOf wsX5_numberOf) := goodIn_app (goodIn_of _ (by decide +kernel)) ggX5_isLive_X5_numberOf
set_option maxRecDepth 20000 in
theorem ggX5_isLive_X5_keyOf : GoodIn wsX5_isLive wsX5_keyOf := goodIn_r _ [18, 10, 19, 20, 21, 22, 23, 24, 25, 26, 27, 28, 29, 30, 31, 32, 33] (by decide +kernel) (by decide +kernel)
set_option maxRecDepth 20000 in
theorem gX5_isLive_X5_keyOf : GoodIn wsX5_isLive (wsV RX5 92 RX5 yX5_keyOf wsX5_keyOf) := goodIn_app (goodIn_of _ (by decide +kernel)) ggX5_isLive_X5_keyOf
theorem dX5_isLive_0 : decode cX5_isLive 0 = .ok (.aload_n 0, 1) := by decide +kernel
theorem dX5_isLive_1 : decode cX5_isLive 1 = .ok (.iload_n 1, 1) := by decide +kernel
theorem dX5_isLive_2 : decode cX5_isLive 2 = .ok (.invokevirtual 89, 3) := by decide +kernel
theorem dX5_isLive_5 : decode cX5_isLive 5 = .ok (.ifCond .ne 5, 3) := by decide +kernel
theorem dX5_isLive_8 : decode cX5_isLive 8 = .ok (.iconst 0, 1) := by decide +kernel
theorem dX5_isLive_9 : decode cX5_isLive 9 = .ok (.ireturn, 1) := by decide +kernel
theorem dX5_isLive_10 : decode cX5_isLive 10 = .ok (.iconst 0, 1) := by decide +kernel
theorem dX5_isLive_11 : decode cX5_isLive 11 = .ok (.istore_n 2, 1) := by decide +kernel
theorem dX5_isLive_12 : decode cX5_isLive 12 = .ok (.iload_n 2, 1) := by decide +kernel
theorem dX5_isLive_13 : decode cX5_isLive 13 = .ok (.bipush 64, 2) := by decide +kernel
theorem dX5_isLive_15 : decode cX5_isLive 15 = .ok (.if_icmp .ge 45, 3) := by decide +kernel
theorem dX5_isLive_18 : decode cX5_isLive 18 = .ok (.aload_n 0, 1) := by decide +kernel
theorem dX5_isLive_19 : decode cX5_isLive 19 = .ok (.iload_n 2, 1) := by decide +kernel
theorem dX5_isLive_20 : decode cX5_isLive 20 = .ok (.invokevirtual 82, 3) := by decide +kernel
theorem dX5_isLive_23 : decode cX5_isLive 23 = .ok (.aload_n 0, 1) := by decide +kernel
theorem dX5_isLive_24 : decode cX5_isLive 24 = .ok (.iload_n 1, 1) := by decide +kernel
theorem dX5_isLive_25 : decode cX5_isLive 25 = .ok (.invokevirtual 82, 3) := by decide +kernel
theorem dX5_isLive_28 : decode cX5_isLive 28 = .ok (.if_icmp .le 26, 3) := by decide +kernel
theorem dX5_isLive_31 : decode cX5_isLive 31 = .ok (.aload_n 0, 1) := by decide +kernel
theorem dX5_isLive_32 : decode cX5_isLive 32 = .ok (.iload_n 2, 1) := by decide +kernel
theorem dX5_isLive_33 : decode cX5_isLive 33 = .ok (.invokevirtual 92, 3) := by decide +kernel
theorem dX5_isLive_36 : decode cX5_isLive 36 = .ok (.aload_n 0, 1) := by decide +kernel
theorem dX5_isLive_37 : decode cX5_isLive 37 = .ok (.iload_n 1, 1) := by decide +kernel
theorem dX5_isLive_38 : decode cX5_isLive 38 = .ok (.invokevirtual 92, 3) := by decide +kernel
theorem dX5_isLive_41 : decode cX5_isLive 41 = .ok (.if_icmp .ne 13, 3) := by decide +kernel
theorem dX5_isLive_44 : decode cX5_isLive 44 = .ok (.aload_n 0, 1) := by decide +kernel
theorem dX5_isLive_45 : decode cX5_isLive 45 = .ok (.iload_n 2, 1) := by decide +kernel
theorem dX5_isLive_46 : decode cX5_isLive 46 = .ok (.invokevirtual 89, 3) := by decide +kernel
theorem dX5_isLive_49 : decode cX5_isLive 49 = .ok (.ifCond .eq 5, 3) := by decide +kernel
theorem dX5_isLive_52 : decode cX5_isLive 52 = .ok (.iconst 0, 1) := by decide +kernel
theorem dX5_isLive_53 : decode cX5_isLive 53 = .ok (.ireturn, 1) := by decide +kernel
theorem dX5_isLive_54 : decode cX5_isLive 54 = .ok (.iinc 2 1, 3) := by decide +kernel
theorem dX5_isLive_57 : decode cX5_isLive 57 = .ok (.goto (-45), 3) := by decide +kernel
theorem dX5_isLive_60 : decode cX5_isLive 60 = .ok (.iconst 1, 1) := by decide +kernel
theorem dX5_isLive_61 : decode cX5_isLive 61 = .ok (.ireturn, 1) := by decide +kernel
set_option maxRecDepth 20000 in
theorem ggX5_find_X5_numberOf : GoodIn wsX5_find wsX5_numberOf := goodIn_r _ [5, 6, 27, 28, 29, 30, 31, 32, 33, 34, 35, 36, 37, 38, 39, 40, 41] (by decide +kernel) (by decide +kernel)
set_option maxRecDepth 20000 in
theorem gX5_find_X5_numberOf : GoodIn wsX5_find (wsV RX5 82 RX5 yX5_numberOf wsX5_numberOf) := goodIn_app (goodIn_of _ (by decide +kernel)) ggX5_find_X5_numberOf
set_option maxRecDepth 20000 in
theorem ggX5_find_X5_keyOf : GoodIn wsX5_find wsX5_keyOf := goodIn_r _ [10, 6, 27, 28, 29, 30, 31, 32, 33, 34, 35, 36, 37, 38, 39, 40, 41] (by decide +kernel) (by decide +kernel)
set_option maxRecDepth 20000 in
theorem gX5_find_X5_keyOf : GoodIn wsX5_find (wsV RX5 92 RX5 yX5_keyOf wsX5_keyOf) := goodIn_app (goodIn_of _ (by decide +kernel)) ggX5_find_X5_keyOf
set_option maxRecDepth 20000 in
theorem ggX5_find_X5_partOf : GoodIn wsX5_find wsX5_partOf := goodIn_r _ [14, 6, 27, 28, 29, 30, 31, 32, 33, 34, 35, 36, 37, 38, 39, 40, 41] (by decide +kernel) (by decide +kernel)
set_option maxRecDepth 20000 in
theorem gX5_find_X5_partOf : GoodIn wsX5_find (wsV RX5 95 RX5 yX5_partOf wsX5_partOf) := goodIn_app (goodIn_of _ (by decide +kernel)) ggX5_find_X5_partOf
set_option maxRecDepth 20000 in
theorem ggX5_find_X5_isLive : GoodIn wsX5_find wsX5_isLive := goodIn_r _ [18, 19, 20, 21, 4, 22, 1, 2, 3, 5, 6, 23, 24, 25, 26, 7, 8, 9, 10, 27, 28, 29, 30, 31, 32, 33, 34, 35, 36, 37, 38, 39, 40, 41] (by decide +kernel) (by decide +kernel)
set_option maxRecDepth 20000 in
theorem gX5_find_X5_isLive : GoodIn wsX5_find (wsV RX5 98 RX5 yX5_isLive wsX5_isLive) := goodIn_app (goodIn_of _ (by decide +kernel)) ggX5_find_X5_isLive
theorem dX5_find_0 : decode cX5_find 0 = .ok (.iconst 0, 1) := by decide +kernel
theorem dX5_find_1 : decode cX5_find 1 = .ok (.istore_n 2, 1) := by decide +kernel
theorem dX5_find_2 : decode cX5_find 2 = .ok (.iload_n 2, 1) := by decide +kernel
theorem dX5_find_3 : decode cX5_find 3 = .ok (.bipush 64, 2) := by decide +kernel
theorem dX5_find_5 : decode cX5_find 5 = .ok (.if_icmp .ge 44, 3) := by decide +kernel
theorem dX5_find_8 : decode cX5_find 8 = .ok (.aload_n 0, 1) := by decide +kernel
theorem dX5_find_9 : decode cX5_find 9 = .ok (.iload_n 2, 1) := by decide +kernel
theorem dX5_find_10 : decode cX5_find 10 = .ok (.invokevirtual 82, 3) := by decide +kernel
theorem dX5_find_13 : decode cX5_find 13 = .ok (.ifCond .le 30, 3) := by decide +kernel
theorem dX5_find_16 : decode cX5_find 16 = .ok (.aload_n 0, 1) := by decide +kernel
theorem dX5_find_17 : decode cX5_find 17 = .ok (.iload_n 2, 1) := by decide +kernel
theorem dX5_find_18 : decode cX5_find 18 = .ok (.invokevirtual 92, 3) := by decide +kernel
theorem dX5_find_21 : decode cX5_find 21 = .ok (.iload_n 1, 1) := by decide +kernel
theorem dX5_find_22 : decode cX5_find 22 = .ok (.if_icmp .ne 21, 3) := by decide +kernel
theorem dX5_find_25 : decode cX5_find 25 = .ok (.aload_n 0, 1) := by decide +kernel
theorem dX5_find_26 : decode cX5_find 26 = .ok (.iload_n 2, 1) := by decide +kernel
theorem dX5_find_27 : decode cX5_find 27 = .ok (.invokevirtual 95, 3) := by decide +kernel
theorem dX5_find_30 : decode cX5_find 30 = .ok (.ifCond .ne 13, 3) := by decide +kernel
theorem dX5_find_33 : decode cX5_find 33 = .ok (.aload_n 0, 1) := by decide +kernel
theorem dX5_find_34 : decode cX5_find 34 = .ok (.iload_n 2, 1) := by decide +kernel
theorem dX5_find_35 : decode cX5_find 35 = .ok (.invokevirtual 98, 3) := by decide +kernel
theorem dX5_find_38 : decode cX5_find 38 = .ok (.ifCond .eq 5, 3) := by decide +kernel
theorem dX5_find_41 : decode cX5_find 41 = .ok (.iload_n 2, 1) := by decide +kernel
theorem dX5_find_42 : decode cX5_find 42 = .ok (.ireturn, 1) := by decide +kernel
theorem dX5_find_43 : decode cX5_find 43 = .ok (.iinc 2 1, 3) := by decide +kernel
theorem dX5_find_46 : decode cX5_find 46 = .ok (.goto (-44), 3) := by decide +kernel
theorem dX5_find_49 : decode cX5_find 49 = .ok (.iconst (-1), 1) := by decide +kernel
theorem dX5_find_50 : decode cX5_find 50 = .ok (.ireturn, 1) := by decide +kernel
set_option maxRecDepth 20000 in
theorem ggX5_isText_X5_numberOf : GoodIn wsX5_isText wsX5_numberOf := goodIn_r _ [5, 6, 31, 32, 33, 34, 35, 36, 37, 38, 39, 40, 41, 42, 43, 44, 45] (by decide +kernel) (by decide +kernel)
set_option maxRecDepth 20000 in
theorem gX5_isText_X5_numberOf : GoodIn wsX5_isText (wsV RX5 82 RX5 yX5_numberOf wsX5_numberOf) := goodIn_app (goodIn_of _ (by decide +kernel)) ggX5_isText_X5_numberOf
set_option maxRecDepth 20000 in
theorem ggX5_isText_X5_partOf : GoodIn wsX5_isText wsX5_partOf := goodIn_r _ [10, 6, 31, 32, 33, 34, 35, 36, 37, 38, 39, 40, 41, 42, 43, 44, 45] (by decide +kernel) (by decide +kernel)
set_option maxRecDepth 20000 in
theorem gX5_isText_X5_partOf : GoodIn wsX5_isText (wsV RX5 95 RX5 yX5_partOf wsX5_partOf) := goodIn_app (goodIn_of _ (by decide +kernel)) ggX5_isText_X5_partOf
set_option maxRecDepth 20000 in
theorem ggX5_isText_X5_formOf : GoodIn wsX5_isText wsX5_formOf := goodIn_r _ [14, 6, 31, 32, 33, 34, 35, 36, 37, 38, 39, 40, 41, 42, 43, 44, 45] (by decide +kernel) (by decide +kernel)
set_option maxRecDepth 20000 in
theorem gX5_isText_X5_formOf : GoodIn wsX5_isText (wsV RX5 101 RX5 yX5_formOf wsX5_formOf) := goodIn_app (goodIn_of _ (by decide +kernel)) ggX5_isText_X5_formOf
set_option maxRecDepth 20000 in
theorem ggX5_isText_X5_isLive : GoodIn wsX5_isText wsX5_isLive := goodIn_r _ [18, 19, 20, 21, 4, 22, 1, 2, 3, 5, 6, 23, 24, 25, 26, 27, 28, 29, 30, 31, 32, 33, 34, 35, 36, 37, 38, 39, 40, 41, 42, 43, 44, 45] (by decide +kernel) (by decide +kernel)
set_option maxRecDepth 20000 in
theorem gX5_isText_X5_isLive : GoodIn wsX5_isText (wsV RX5 98 RX5 yX5_isLive wsX5_isLive) := goodIn_app (goodIn_of _ (by decide +kernel)) ggX5_isText_X5_isLive
theorem dX5_isText_0 : decode cX5_isText 0 = .ok (.aload_n 0, 1) := by decide +kernel
theorem dX5_isText_1 : decode cX5_isText 1 = .ok (.iload_n 1, 1) := by decide +kernel
theorem dX5_isText_2 : decode cX5_isText 2 = .ok (.invokevirtual 82, 3) := by decide +kernel
theorem dX5_isText_5 : decode cX5_isText 5 = .ok (.ifCond .le 32, 3) := by decide +kernel
theorem dX5_isText_8 : decode cX5_isText 8 = .ok (.aload_n 0, 1) := by decide +kernel
theorem dX5_isText_9 : decode cX5_isText 9 = .ok (.iload_n 1, 1) := by decide +kernel
theorem dX5_isText_10 : decode cX5_isText 10 = .ok (.invokevirtual 95, 3) := by decide +kernel
theorem dX5_isText_13 : decode cX5_isText 13 = .ok (.ifCond .ne 24, 3) := by decide +kernel
theorem dX5_isText_16 : decode cX5_isText 16 = .ok (.aload_n 0, 1) := by decide +kernel
theorem dX5_isText_17 : decode cX5_isText 17 = .ok (.iload_n 1, 1) := by decide +kernel
theorem dX5_isText_18 : decode cX5_isText 18 = .ok (.invokevirtual 101, 3) := by decide +kernel
theorem dX5_isText_21 : decode cX5_isText 21 = .ok (.iconst 2, 1) := by decide +kernel
theorem dX5_isText_22 : decode cX5_isText 22 = .ok (.if_icmp .eq 15, 3) := by decide +kernel
theorem dX5_isText_25 : decode cX5_isText 25 = .ok (.aload_n 0, 1) := by decide +kernel
theorem dX5_isText_26 : decode cX5_isText 26 = .ok (.iload_n 1, 1) := by decide +kernel
theorem dX5_isText_27 : decode cX5_isText 27 = .ok (.invokevirtual 98, 3) := by decide +kernel
theorem dX5_isText_30 : decode cX5_isText 30 = .ok (.ifCond .eq 7, 3) := by decide +kernel
theorem dX5_isText_33 : decode cX5_isText 33 = .ok (.iconst 1, 1) := by decide +kernel
theorem dX5_isText_34 : decode cX5_isText 34 = .ok (.goto 4, 3) := by decide +kernel
theorem dX5_isText_37 : decode cX5_isText 37 = .ok (.iconst 0, 1) := by decide +kernel
theorem dX5_isText_38 : decode cX5_isText 38 = .ok (.ireturn, 1) := by decide +kernel
set_option maxRecDepth 20000 in
theorem ggX5_greatest_X5_numberOf : GoodIn wsX5_greatest wsX5_numberOf := goodIn_r _ [5, 6, 7, 8, 9, 10, 11, 12, 13, 14, 15, 16, 17, 18, 19, 20, 21] (by decide +kernel) (by decide +kernel)
set_option maxRecDepth 20000 in
theorem gX5_greatest_X5_numberOf : GoodIn wsX5_greatest (wsV RX5 82 RX5 yX5_numberOf wsX5_numberOf) := goodIn_app (goodIn_of _ (by decide +kernel)) ggX5_greatest_X5_numberOf
theorem dX5_greatest_0 : decode cX5_greatest 0 = .ok (.iconst 0, 1) := by decide +kernel
theorem dX5_greatest_1 : decode cX5_greatest 1 = .ok (.istore_n 1, 1) := by decide +kernel
theorem dX5_greatest_2 : decode cX5_greatest 2 = .ok (.iconst 0, 1) := by decide +kernel
theorem dX5_greatest_3 : decode cX5_greatest 3 = .ok (.istore_n 2, 1) := by decide +kernel
theorem dX5_greatest_4 : decode cX5_greatest 4 = .ok (.iload_n 2, 1) := by decide +kernel
theorem dX5_greatest_5 : decode cX5_greatest 5 = .ok (.bipush 64, 2) := by decide +kernel
theorem dX5_greatest_7 : decode cX5_greatest 7 = .ok (.if_icmp .ge 28, 3) := by decide +kernel
theorem dX5_greatest_10 : decode cX5_greatest 10 = .ok (.aload_n 0, 1) := by decide +kernel
theorem dX5_greatest_11 : decode cX5_greatest 11 = .ok (.iload_n 2, 1) := by decide +kernel
theorem dX5_greatest_12 : decode cX5_greatest 12 = .ok (.invokevirtual 82, 3) := by decide +kernel
theorem dX5_greatest_15 : decode cX5_greatest 15 = .ok (.iload_n 1, 1) := by decide +kernel
theorem dX5_greatest_16 : decode cX5_greatest 16 = .ok (.if_icmp .le 11, 3) := by decide +kernel
theorem dX5_greatest_19 : decode cX5_greatest 19 = .ok (.aload_n 0, 1) := by decide +kernel
theorem dX5_greatest_20 : decode cX5_greatest 20 = .ok (.iload_n 2, 1) := by decide +kernel
theorem dX5_greatest_21 : decode cX5_greatest 21 = .ok (.invokevirtual 82, 3) := by decide +kernel
theorem dX5_greatest_24 : decode cX5_greatest 24 = .ok (.goto 4, 3) := by decide +kernel
theorem dX5_greatest_27 : decode cX5_greatest 27 = .ok (.iload_n 1, 1) := by decide +kernel
theorem dX5_greatest_28 : decode cX5_greatest 28 = .ok (.istore_n 1, 1) := by decide +kernel
theorem dX5_greatest_29 : decode cX5_greatest 29 = .ok (.iinc 2 1, 3) := by decide +kernel
theorem dX5_greatest_32 : decode cX5_greatest 32 = .ok (.goto (-28), 3) := by decide +kernel
theorem dX5_greatest_35 : decode cX5_greatest 35 = .ok (.iload_n 1, 1) := by decide +kernel
theorem dX5_greatest_36 : decode cX5_greatest 36 = .ok (.ireturn, 1) := by decide +kernel
theorem dX5_mayWrite_0 : decode cX5_mayWrite 0 = .ok (.aload_n 0, 1) := by decide +kernel
theorem dX5_mayWrite_1 : decode cX5_mayWrite 1 = .ok (.getfield 20, 3) := by decide +kernel
theorem dX5_mayWrite_4 : decode cX5_mayWrite 4 = .ok (.ifCond .ne 15, 3) := by decide +kernel
theorem dX5_mayWrite_7 : decode cX5_mayWrite 7 = .ok (.aload_n 0, 1) := by decide +kernel
theorem dX5_mayWrite_8 : decode cX5_mayWrite 8 = .ok (.iconst 0, 1) := by decide +kernel
theorem dX5_mayWrite_9 : decode cX5_mayWrite 9 = .ok (.putfield 16, 3) := by decide +kernel
theorem dX5_mayWrite_12 : decode cX5_mayWrite 12 = .ok (.aload_n 0, 1) := by decide +kernel
theorem dX5_mayWrite_13 : decode cX5_mayWrite 13 = .ok (.iconst (-1), 1) := by decide +kernel
theorem dX5_mayWrite_14 : decode cX5_mayWrite 14 = .ok (.putfield 20, 3) := by decide +kernel
theorem dX5_mayWrite_17 : decode cX5_mayWrite 17 = .ok (.iconst 0, 1) := by decide +kernel
theorem dX5_mayWrite_18 : decode cX5_mayWrite 18 = .ok (.ireturn, 1) := by decide +kernel
theorem dX5_mayWrite_19 : decode cX5_mayWrite 19 = .ok (.aload_n 0, 1) := by decide +kernel
theorem dX5_mayWrite_20 : decode cX5_mayWrite 20 = .ok (.dup, 1) := by decide +kernel
theorem dX5_mayWrite_21 : decode cX5_mayWrite 21 = .ok (.getfield 20, 3) := by decide +kernel
theorem dX5_mayWrite_24 : decode cX5_mayWrite 24 = .ok (.aload_n 0, 1) := by decide +kernel
theorem dX5_mayWrite_25 : decode cX5_mayWrite 25 = .ok (.getfield 20, 3) := by decide +kernel
theorem dX5_mayWrite_28 : decode cX5_mayWrite 28 = .ok (.ifCond .le 7, 3) := by decide +kernel
theorem dX5_mayWrite_31 : decode cX5_mayWrite 31 = .ok (.iconst 1, 1) := by decide +kernel
theorem dX5_mayWrite_32 : decode cX5_mayWrite 32 = .ok (.goto 4, 3) := by decide +kernel
theorem dX5_mayWrite_35 : decode cX5_mayWrite 35 = .ok (.iconst 0, 1) := by decide +kernel
theorem dX5_mayWrite_36 : decode cX5_mayWrite 36 = .ok (.isub, 1) := by decide +kernel
theorem dX5_mayWrite_37 : decode cX5_mayWrite 37 = .ok (.putfield 20, 3) := by decide +kernel
theorem dX5_mayWrite_40 : decode cX5_mayWrite 40 = .ok (.aload_n 0, 1) := by decide +kernel
theorem dX5_mayWrite_41 : decode cX5_mayWrite 41 = .ok (.dup, 1) := by decide +kernel
theorem dX5_mayWrite_42 : decode cX5_mayWrite 42 = .ok (.getfield 104, 3) := by decide +kernel
theorem dX5_mayWrite_45 : decode cX5_mayWrite 45 = .ok (.iconst 1, 1) := by decide +kernel
theorem dX5_mayWrite_46 : decode cX5_mayWrite 46 = .ok (.iadd, 1) := by decide +kernel
theorem dX5_mayWrite_47 : decode cX5_mayWrite 47 = .ok (.putfield 104, 3) := by decide +kernel
theorem dX5_mayWrite_50 : decode cX5_mayWrite 50 = .ok (.iconst 1, 1) := by decide +kernel
theorem dX5_mayWrite_51 : decode cX5_mayWrite 51 = .ok (.ireturn, 1) := by decide +kernel
set_option maxRecDepth 20000 in
theorem ggX5_findLive_X5_isLive : GoodIn wsX5_findLive wsX5_isLive := goodIn_r _ [6, 7, 8, 9, 5, 10, 11, 12, 13, 14, 15, 16, 17, 18, 19, 20, 21, 22, 23, 24, 25, 26, 27, 28, 29, 30, 31, 32, 33, 34, 35, 36, 37, 38] (by decide +kernel) (by decide +kernel)
set_option maxRecDepth 20000 in
theorem gX5_findLive_X5_isLive : GoodIn wsX5_findLive (wsV RX5 98 RX5 yX5_isLive wsX5_isLive) := goodIn_app (goodIn_of _ (by decide +kernel)) ggX5_findLive_X5_isLive
theorem dX5_findLive_0 : decode cX5_findLive 0 = .ok (.iconst 0, 1) := by decide +kernel
theorem dX5_findLive_1 : decode cX5_findLive 1 = .ok (.istore_n 1, 1) := by decide +kernel
theorem dX5_findLive_2 : decode cX5_findLive 2 = .ok (.iconst 0, 1) := by decide +kernel
theorem dX5_findLive_3 : decode cX5_findLive 3 = .ok (.istore_n 2, 1) := by decide +kernel
theorem dX5_findLive_4 : decode cX5_findLive 4 = .ok (.iload_n 2, 1) := by decide +kernel
theorem dX5_findLive_5 : decode cX5_findLive 5 = .ok (.bipush 64, 2) := by decide +kernel
theorem dX5_findLive_7 : decode cX5_findLive 7 = .ok (.if_icmp .ge 37, 3) := by decide +kernel
theorem dX5_findLive_10 : decode cX5_findLive 10 = .ok (.aload_n 0, 1) := by decide +kernel
theorem dX5_findLive_11 : decode cX5_findLive 11 = .ok (.getfield 36, 3) := by decide +kernel
theorem dX5_findLive_14 : decode cX5_findLive 14 = .ok (.iload_n 2, 1) := by decide +kernel
theorem dX5_findLive_15 : decode cX5_findLive 15 = .ok (.aload_n 0, 1) := by decide +kernel
theorem dX5_findLive_16 : decode cX5_findLive 16 = .ok (.iload_n 2, 1) := by decide +kernel
theorem dX5_findLive_17 : decode cX5_findLive 17 = .ok (.invokevirtual 98, 3) := by decide +kernel
theorem dX5_findLive_20 : decode cX5_findLive 20 = .ok (.bastore, 1) := by decide +kernel
theorem dX5_findLive_21 : decode cX5_findLive 21 = .ok (.iload_n 1, 1) := by decide +kernel
theorem dX5_findLive_22 : decode cX5_findLive 22 = .ok (.aload_n 0, 1) := by decide +kernel
theorem dX5_findLive_23 : decode cX5_findLive 23 = .ok (.getfield 36, 3) := by decide +kernel
theorem dX5_findLive_26 : decode cX5_findLive 26 = .ok (.iload_n 2, 1) := by decide +kernel
theorem dX5_findLive_27 : decode cX5_findLive 27 = .ok (.baload, 1) := by decide +kernel
theorem dX5_findLive_28 : decode cX5_findLive 28 = .ok (.ifCond .eq 7, 3) := by decide +kernel
theorem dX5_findLive_31 : decode cX5_findLive 31 = .ok (.iconst 1, 1) := by decide +kernel
theorem dX5_findLive_32 : decode cX5_findLive 32 = .ok (.goto 4, 3) := by decide +kernel
theorem dX5_findLive_35 : decode cX5_findLive 35 = .ok (.iconst 0, 1) := by decide +kernel
theorem dX5_findLive_36 : decode cX5_findLive 36 = .ok (.iadd, 1) := by decide +kernel
theorem dX5_findLive_37 : decode cX5_findLive 37 = .ok (.istore_n 1, 1) := by decide +kernel
theorem dX5_findLive_38 : decode cX5_findLive 38 = .ok (.iinc 2 1, 3) := by decide +kernel
theorem dX5_findLive_41 : decode cX5_findLive 41 = .ok (.goto (-37), 3) := by decide +kernel
theorem dX5_findLive_44 : decode cX5_findLive 44 = .ok (.iload_n 1, 1) := by decide +kernel

theorem dX8_init_0 : decode cX8_init 0 = .ok (.aload_n 0, 1) := by decide +kernel
theorem dX8_init_1 : decode cX8_init 1 = .ok (.invokespecial 1, 3) := by decide +kernel
theorem dX8_init_4 : decode cX8_init 4 = .ok (.aload_n 0, 1) := by decide +kernel
theorem dX8_init_5 : decode cX8_init 5 = .ok (.iconst 4, 1) := by decide +kernel
theorem dX8_init_6 : decode cX8_init 6 = .ok (.newarray .int, 2) := by decide +kernel
theorem dX8_init_8 : decode cX8_init 8 = .ok (.putfield 7, 3) := by decide +kernel
theorem dX8_init_11 : decode cX8_init 11 = .ok (.aload_n 0, 1) := by decide +kernel
theorem dX8_init_12 : decode cX8_init 12 = .ok (.iconst 4, 1) := by decide +kernel
theorem dX8_init_13 : decode cX8_init 13 = .ok (.newarray .int, 2) := by decide +kernel
theorem dX8_init_15 : decode cX8_init 15 = .ok (.putfield 13, 3) := by decide +kernel
theorem dX8_init_18 : decode cX8_init 18 = .ok (.aload_n 0, 1) := by decide +kernel
theorem dX8_init_19 : decode cX8_init 19 = .ok (.bipush 96, 2) := by decide +kernel
theorem dX8_init_21 : decode cX8_init 21 = .ok (.newarray .long, 2) := by decide +kernel
theorem dX8_init_23 : decode cX8_init 23 = .ok (.putfield 16, 3) := by decide +kernel
theorem dX8_init_26 : decode cX8_init 26 = .ok (.aload_n 0, 1) := by decide +kernel
theorem dX8_init_27 : decode cX8_init 27 = .ok (.sipush 130, 3) := by decide +kernel
theorem dX8_init_30 : decode cX8_init 30 = .ok (.newarray .int, 2) := by decide +kernel
theorem dX8_init_32 : decode cX8_init 32 = .ok (.putfield 20, 3) := by decide +kernel
theorem dX8_init_35 : decode cX8_init 35 = .ok (.aload_n 0, 1) := by decide +kernel
theorem dX8_init_36 : decode cX8_init 36 = .ok (.bipush 83, 2) := by decide +kernel
theorem dX8_init_38 : decode cX8_init 38 = .ok (.newarray .int, 2) := by decide +kernel
theorem dX8_init_40 : decode cX8_init 40 = .ok (.putfield 23, 3) := by decide +kernel
theorem dX8_init_43 : decode cX8_init 43 = .ok (.aload_n 0, 1) := by decide +kernel
theorem dX8_init_44 : decode cX8_init 44 = .ok (.bipush 83, 2) := by decide +kernel
theorem dX8_init_46 : decode cX8_init 46 = .ok (.newarray .int, 2) := by decide +kernel
theorem dX8_init_48 : decode cX8_init 48 = .ok (.putfield 26, 3) := by decide +kernel
theorem dX8_init_51 : decode cX8_init 51 = .ok (.aload_n 0, 1) := by decide +kernel
theorem dX8_init_52 : decode cX8_init 52 = .ok (.bipush 83, 2) := by decide +kernel
theorem dX8_init_54 : decode cX8_init 54 = .ok (.newarray .int, 2) := by decide +kernel
theorem dX8_init_56 : decode cX8_init 56 = .ok (.putfield 29, 3) := by decide +kernel
theorem dX8_init_59 : decode cX8_init 59 = .ok (.aload_n 0, 1) := by decide +kernel
theorem dX8_init_60 : decode cX8_init 60 = .ok (.sipush 166, 3) := by decide +kernel
theorem dX8_init_63 : decode cX8_init 63 = .ok (.newarray .int, 2) := by decide +kernel
theorem dX8_init_65 : decode cX8_init 65 = .ok (.putfield 32, 3) := by decide +kernel
theorem dX8_init_68 : decode cX8_init 68 = .ok (.aload_n 0, 1) := by decide +kernel
theorem dX8_init_69 : decode cX8_init 69 = .ok (.iconst 2, 1) := by decide +kernel
theorem dX8_init_70 : decode cX8_init 70 = .ok (.newarray .boolean, 2) := by decide +kernel
theorem dX8_init_72 : decode cX8_init 72 = .ok (.putfield 35, 3) := by decide +kernel
theorem dX8_init_75 : decode cX8_init 75 = .ok (.aload_n 0, 1) := by decide +kernel
theorem dX8_init_76 : decode cX8_init 76 = .ok (.sipush 1992, 3) := by decide +kernel
theorem dX8_init_79 : decode cX8_init 79 = .ok (.newarray .int, 2) := by decide +kernel
theorem dX8_init_81 : decode cX8_init 81 = .ok (.putfield 39, 3) := by decide +kernel
theorem dX8_init_84 : decode cX8_init 84 = .ok (.aload_n 0, 1) := by decide +kernel
theorem dX8_init_85 : decode cX8_init 85 = .ok (.sipush 576, 3) := by decide +kernel
theorem dX8_init_88 : decode cX8_init 88 = .ok (.newarray .int, 2) := by decide +kernel
theorem dX8_init_90 : decode cX8_init 90 = .ok (.putfield 42, 3) := by decide +kernel
theorem dX8_init_93 : decode cX8_init 93 = .ok (.aload_n 0, 1) := by decide +kernel
theorem dX8_init_94 : decode cX8_init 94 = .ok (.bipush 10, 2) := by decide +kernel
theorem dX8_init_96 : decode cX8_init 96 = .ok (.newarray .int, 2) := by decide +kernel
theorem dX8_init_98 : decode cX8_init 98 = .ok (.putfield 45, 3) := by decide +kernel
theorem dX8_init_101 : decode cX8_init 101 = .ok (.aload_n 0, 1) := by decide +kernel
theorem dX8_init_102 : decode cX8_init 102 = .ok (.bipush 10, 2) := by decide +kernel
theorem dX8_init_104 : decode cX8_init 104 = .ok (.newarray .int, 2) := by decide +kernel
theorem dX8_init_106 : decode cX8_init 106 = .ok (.putfield 48, 3) := by decide +kernel
theorem dX8_init_109 : decode cX8_init 109 = .ok (.aload_n 0, 1) := by decide +kernel
theorem dX8_init_110 : decode cX8_init 110 = .ok (.iconst 3, 1) := by decide +kernel
theorem dX8_init_111 : decode cX8_init 111 = .ok (.newarray .int, 2) := by decide +kernel
theorem dX8_init_113 : decode cX8_init 113 = .ok (.putfield 51, 3) := by decide +kernel
theorem dX8_init_116 : decode cX8_init 116 = .ok (.aload_n 0, 1) := by decide +kernel
theorem dX8_init_117 : decode cX8_init 117 = .ok (.bipush 10, 2) := by decide +kernel
theorem dX8_init_119 : decode cX8_init 119 = .ok (.newarray .int, 2) := by decide +kernel
theorem dX8_init_121 : decode cX8_init 121 = .ok (.putfield 54, 3) := by decide +kernel
theorem dX8_init_124 : decode cX8_init 124 = .ok (.iconst 0, 1) := by decide +kernel
theorem dX8_init_125 : decode cX8_init 125 = .ok (.istore_n 1, 1) := by decide +kernel
theorem dX8_init_126 : decode cX8_init 126 = .ok (.iload_n 1, 1) := by decide +kernel
theorem dX8_init_127 : decode cX8_init 127 = .ok (.iconst 4, 1) := by decide +kernel
theorem dX8_init_128 : decode cX8_init 128 = .ok (.if_icmp .ge 16, 3) := by decide +kernel
theorem dX8_init_131 : decode cX8_init 131 = .ok (.aload_n 0, 1) := by decide +kernel
theorem dX8_init_132 : decode cX8_init 132 = .ok (.getfield 7, 3) := by decide +kernel
theorem dX8_init_135 : decode cX8_init 135 = .ok (.iload_n 1, 1) := by decide +kernel
theorem dX8_init_136 : decode cX8_init 136 = .ok (.iconst (-1), 1) := by decide +kernel
theorem dX8_init_137 : decode cX8_init 137 = .ok (.iastore, 1) := by decide +kernel
theorem dX8_init_138 : decode cX8_init 138 = .ok (.iinc 1 1, 3) := by decide +kernel
theorem dX8_init_141 : decode cX8_init 141 = .ok (.goto (-15), 3) := by decide +kernel
theorem dX8_init_144 : decode cX8_init 144 = .ok (.return_, 1) := by decide +kernel
theorem dX8_in_0 : decode cX8_in 0 = .ok (.iload_n 0, 1) := by decide +kernel
theorem dX8_in_1 : decode cX8_in 1 = .ok (.iload_n 1, 1) := by decide +kernel
theorem dX8_in_2 : decode cX8_in 2 = .ok (.if_icmp .lt 12, 3) := by decide +kernel
theorem dX8_in_5 : decode cX8_in 5 = .ok (.iload_n 0, 1) := by decide +kernel
theorem dX8_in_6 : decode cX8_in 6 = .ok (.iload_n 2, 1) := by decide +kernel
theorem dX8_in_7 : decode cX8_in 7 = .ok (.if_icmp .gt 7, 3) := by decide +kernel
theorem dX8_in_10 : decode cX8_in 10 = .ok (.iconst 1, 1) := by decide +kernel
theorem dX8_in_11 : decode cX8_in 11 = .ok (.goto 4, 3) := by decide +kernel
theorem dX8_in_14 : decode cX8_in 14 = .ok (.iconst 0, 1) := by decide +kernel
theorem dX8_in_15 : decode cX8_in 15 = .ok (.ireturn, 1) := by decide +kernel
theorem dX8_has_0 : decode cX8_has 0 = .ok (.iload_n 0, 1) := by decide +kernel
theorem dX8_has_1 : decode cX8_has 1 = .ok (.iload_n 1, 1) := by decide +kernel
theorem dX8_has_2 : decode cX8_has 2 = .ok (.ishr, 1) := by decide +kernel
theorem dX8_has_3 : decode cX8_has 3 = .ok (.iconst 1, 1) := by decide +kernel
theorem dX8_has_4 : decode cX8_has 4 = .ok (.iand, 1) := by decide +kernel
theorem dX8_has_5 : decode cX8_has 5 = .ok (.iconst 1, 1) := by decide +kernel
theorem dX8_has_6 : decode cX8_has 6 = .ok (.if_icmp .ne 7, 3) := by decide +kernel
theorem dX8_has_9 : decode cX8_has 9 = .ok (.iconst 1, 1) := by decide +kernel
theorem dX8_has_10 : decode cX8_has 10 = .ok (.goto 4, 3) := by decide +kernel
theorem dX8_has_13 : decode cX8_has 13 = .ok (.iconst 0, 1) := by decide +kernel
theorem dX8_has_14 : decode cX8_has 14 = .ok (.ireturn, 1) := by decide +kernel
theorem dX8_bring_0 : decode cX8_bring 0 = .ok (.iconst 0, 1) := by decide +kernel
theorem dX8_bring_1 : decode cX8_bring 1 = .ok (.istore 5, 2) := by decide +kernel
theorem dX8_bring_3 : decode cX8_bring 3 = .ok (.iload 5, 2) := by decide +kernel
theorem dX8_bring_5 : decode cX8_bring 5 = .ok (.iload 4, 2) := by decide +kernel
theorem dX8_bring_7 : decode cX8_bring 7 = .ok (.if_icmp .ge 21, 3) := by decide +kernel
theorem dX8_bring_10 : decode cX8_bring 10 = .ok (.aload_n 2, 1) := by decide +kernel
theorem dX8_bring_11 : decode cX8_bring 11 = .ok (.iload_n 3, 1) := by decide +kernel
theorem dX8_bring_12 : decode cX8_bring 12 = .ok (.iload 5, 2) := by decide +kernel
theorem dX8_bring_14 : decode cX8_bring 14 = .ok (.iadd, 1) := by decide +kernel
theorem dX8_bring_15 : decode cX8_bring 15 = .ok (.aload_n 0, 1) := by decide +kernel
theorem dX8_bring_16 : decode cX8_bring 16 = .ok (.iload_n 1, 1) := by decide +kernel
theorem dX8_bring_17 : decode cX8_bring 17 = .ok (.iload 5, 2) := by decide +kernel
theorem dX8_bring_19 : decode cX8_bring 19 = .ok (.iadd, 1) := by decide +kernel
theorem dX8_bring_20 : decode cX8_bring 20 = .ok (.iaload, 1) := by decide +kernel
theorem dX8_bring_21 : decode cX8_bring 21 = .ok (.iastore, 1) := by decide +kernel
theorem dX8_bring_22 : decode cX8_bring 22 = .ok (.iinc 5 1, 3) := by decide +kernel
theorem dX8_bring_25 : decode cX8_bring 25 = .ok (.goto (-22), 3) := by decide +kernel
theorem dX8_bring_28 : decode cX8_bring 28 = .ok (.return_, 1) := by decide +kernel
theorem dX8_isThere_0 : decode cX8_isThere 0 = .ok (.aload_n 0, 1) := by decide +kernel
theorem dX8_isThere_1 : decode cX8_isThere 1 = .ok (.getfield 23, 3) := by decide +kernel
theorem dX8_isThere_4 : decode cX8_isThere 4 = .ok (.iconst 1, 1) := by decide +kernel
theorem dX8_isThere_5 : decode cX8_isThere 5 = .ok (.iaload, 1) := by decide +kernel
theorem dX8_isThere_6 : decode cX8_isThere 6 = .ok (.ifCond .le 7, 3) := by decide +kernel
theorem dX8_isThere_9 : decode cX8_isThere 9 = .ok (.iconst 1, 1) := by decide +kernel
theorem dX8_isThere_10 : decode cX8_isThere 10 = .ok (.goto 4, 3) := by decide +kernel
theorem dX8_isThere_13 : decode cX8_isThere 13 = .ok (.iconst 0, 1) := by decide +kernel
theorem dX8_isThere_14 : decode cX8_isThere 14 = .ok (.ireturn, 1) := by decide +kernel
theorem dX8_isOne_0 : decode cX8_isOne 0 = .ok (.iload_n 1, 1) := by decide +kernel
theorem dX8_isOne_1 : decode cX8_isOne 1 = .ok (.iconst 0, 1) := by decide +kernel
theorem dX8_isOne_2 : decode cX8_isOne 2 = .ok (.aload_n 0, 1) := by decide +kernel
theorem dX8_isOne_3 : decode cX8_isOne 3 = .ok (.getfield 23, 3) := by decide +kernel
theorem dX8_isOne_6 : decode cX8_isOne 6 = .ok (.iconst 1, 1) := by decide +kernel
theorem dX8_isOne_7 : decode cX8_isOne 7 = .ok (.iaload, 1) := by decide +kernel
theorem dX8_isOne_8 : decode cX8_isOne 8 = .ok (.iconst 1, 1) := by decide +kernel
theorem dX8_isOne_9 : decode cX8_isOne 9 = .ok (.isub, 1) := by decide +kernel
theorem dX8_isOne_10 : decode cX8_isOne 10 = .ok (.invokestatic 57, 3) := by decide +kernel
theorem dX8_isOne_13 : decode cX8_isOne 13 = .ok (.ireturn, 1) := by decide +kernel
theorem dX8_isWrong_0 : decode cX8_isWrong 0 = .ok (.iload_n 1, 1) := by decide +kernel
theorem dX8_isWrong_1 : decode cX8_isWrong 1 = .ok (.iconst 0, 1) := by decide +kernel
theorem dX8_isWrong_2 : decode cX8_isWrong 2 = .ok (.aload_n 0, 1) := by decide +kernel
theorem dX8_isWrong_3 : decode cX8_isWrong 3 = .ok (.getfield 23, 3) := by decide +kernel
theorem dX8_isWrong_6 : decode cX8_isWrong 6 = .ok (.iconst 2, 1) := by decide +kernel
theorem dX8_isWrong_7 : decode cX8_isWrong 7 = .ok (.iaload, 1) := by decide +kernel
theorem dX8_isWrong_8 : decode cX8_isWrong 8 = .ok (.iconst 1, 1) := by decide +kernel
theorem dX8_isWrong_9 : decode cX8_isWrong 9 = .ok (.isub, 1) := by decide +kernel
theorem dX8_isWrong_10 : decode cX8_isWrong 10 = .ok (.invokestatic 57, 3) := by decide +kernel
theorem dX8_isWrong_13 : decode cX8_isWrong 13 = .ok (.ireturn, 1) := by decide +kernel
theorem dX8_feed_0 : decode cX8_feed 0 = .ok (.iload_n 1, 1) := by decide +kernel
theorem dX8_feed_1 : decode cX8_feed 1 = .ok (.iconst 0, 1) := by decide +kernel
theorem dX8_feed_2 : decode cX8_feed 2 = .ok (.sipush 255, 3) := by decide +kernel
theorem dX8_feed_5 : decode cX8_feed 5 = .ok (.invokestatic 57, 3) := by decide +kernel
theorem dX8_feed_8 : decode cX8_feed 8 = .ok (.ifCond .ne 5, 3) := by decide +kernel
theorem dX8_feed_11 : decode cX8_feed 11 = .ok (.iconst (-1), 1) := by decide +kernel
theorem dX8_feed_12 : decode cX8_feed 12 = .ok (.ireturn, 1) := by decide +kernel
theorem dX8_feed_13 : decode cX8_feed 13 = .ok (.aload_n 0, 1) := by decide +kernel
theorem dX8_feed_14 : decode cX8_feed 14 = .ok (.getfield 61, 3) := by decide +kernel
theorem dX8_feed_17 : decode cX8_feed 17 = .ok (.sipush 130, 3) := by decide +kernel
theorem dX8_feed_20 : decode cX8_feed 20 = .ok (.if_icmp .ne 6, 3) := by decide +kernel
theorem dX8_feed_23 : decode cX8_feed 23 = .ok (.bipush (-3), 2) := by decide +kernel
theorem dX8_feed_25 : decode cX8_feed 25 = .ok (.ireturn, 1) := by decide +kernel
theorem dX8_feed_26 : decode cX8_feed 26 = .ok (.aload_n 0, 1) := by decide +kernel
theorem dX8_feed_27 : decode cX8_feed 27 = .ok (.getfield 20, 3) := by decide +kernel
theorem dX8_feed_30 : decode cX8_feed 30 = .ok (.aload_n 0, 1) := by decide +kernel
theorem dX8_feed_31 : decode cX8_feed 31 = .ok (.getfield 61, 3) := by decide +kernel
theorem dX8_feed_34 : decode cX8_feed 34 = .ok (.iload_n 1, 1) := by decide +kernel
theorem dX8_feed_35 : decode cX8_feed 35 = .ok (.iastore, 1) := by decide +kernel
theorem dX8_feed_36 : decode cX8_feed 36 = .ok (.aload_n 0, 1) := by decide +kernel
theorem dX8_feed_37 : decode cX8_feed 37 = .ok (.dup, 1) := by decide +kernel
theorem dX8_feed_38 : decode cX8_feed 38 = .ok (.getfield 61, 3) := by decide +kernel
theorem dX8_feed_41 : decode cX8_feed 41 = .ok (.iconst 1, 1) := by decide +kernel
theorem dX8_feed_42 : decode cX8_feed 42 = .ok (.iadd, 1) := by decide +kernel
theorem dX8_feed_43 : decode cX8_feed 43 = .ok (.putfield 61, 3) := by decide +kernel
theorem dX8_feed_46 : decode cX8_feed 46 = .ok (.aload_n 0, 1) := by decide +kernel
theorem dX8_feed_47 : decode cX8_feed 47 = .ok (.getfield 61, 3) := by decide +kernel
theorem dX8_feed_50 : decode cX8_feed 50 = .ok (.ireturn, 1) := by decide +kernel
theorem dX8_peek_0 : decode cX8_peek 0 = .ok (.aload_n 0, 1) := by decide +kernel
theorem dX8_peek_1 : decode cX8_peek 1 = .ok (.getfield 65, 3) := by decide +kernel
theorem dX8_peek_4 : decode cX8_peek 4 = .ok (.aload_n 0, 1) := by decide +kernel
theorem dX8_peek_5 : decode cX8_peek 5 = .ok (.getfield 61, 3) := by decide +kernel
theorem dX8_peek_8 : decode cX8_peek 8 = .ok (.if_icmp .ge 15, 3) := by decide +kernel
theorem dX8_peek_11 : decode cX8_peek 11 = .ok (.aload_n 0, 1) := by decide +kernel
theorem dX8_peek_12 : decode cX8_peek 12 = .ok (.getfield 20, 3) := by decide +kernel
theorem dX8_peek_15 : decode cX8_peek 15 = .ok (.aload_n 0, 1) := by decide +kernel
theorem dX8_peek_16 : decode cX8_peek 16 = .ok (.getfield 65, 3) := by decide +kernel
theorem dX8_peek_19 : decode cX8_peek 19 = .ok (.iaload, 1) := by decide +kernel
theorem dX8_peek_20 : decode cX8_peek 20 = .ok (.goto 4, 3) := by decide +kernel
theorem dX8_peek_23 : decode cX8_peek 23 = .ok (.iconst (-1), 1) := by decide +kernel
theorem dX8_peek_24 : decode cX8_peek 24 = .ok (.ireturn, 1) := by decide +kernel
theorem dX8_isSign_0 : decode cX8_isSign 0 = .ok (.aload_n 0, 1) := by decide +kernel
theorem dX8_isSign_1 : decode cX8_isSign 1 = .ok (.invokevirtual 68, 3) := by decide +kernel
theorem dX8_isSign_4 : decode cX8_isSign 4 = .ok (.iload_n 1, 1) := by decide +kernel
theorem dX8_isSign_5 : decode cX8_isSign 5 = .ok (.if_icmp .eq 5, 3) := by decide +kernel
theorem dX8_isSign_8 : decode cX8_isSign 8 = .ok (.iconst 0, 1) := by decide +kernel
theorem dX8_isSign_9 : decode cX8_isSign 9 = .ok (.ireturn, 1) := by decide +kernel
theorem dX8_isSign_10 : decode cX8_isSign 10 = .ok (.aload_n 0, 1) := by decide +kernel
theorem dX8_isSign_11 : decode cX8_isSign 11 = .ok (.dup, 1) := by decide +kernel
theorem dX8_isSign_12 : decode cX8_isSign 12 = .ok (.getfield 65, 3) := by decide +kernel
theorem dX8_isSign_15 : decode cX8_isSign 15 = .ok (.iconst 1, 1) := by decide +kernel
theorem dX8_isSign_16 : decode cX8_isSign 16 = .ok (.iadd, 1) := by decide +kernel
theorem dX8_isSign_17 : decode cX8_isSign 17 = .ok (.putfield 65, 3) := by decide +kernel
theorem dX8_isSign_20 : decode cX8_isSign 20 = .ok (.iconst 1, 1) := by decide +kernel
theorem dX8_isSign_21 : decode cX8_isSign 21 = .ok (.ireturn, 1) := by decide +kernel
theorem dX8_kindBy_0 : decode cX8_kindBy 0 = .ok (.iload_n 0, 1) := by decide +kernel
theorem dX8_kindBy_1 : decode cX8_kindBy 1 = .ok (.bipush 99, 2) := by decide +kernel
theorem dX8_kindBy_3 : decode cX8_kindBy 3 = .ok (.if_icmp .ne 7, 3) := by decide +kernel
theorem dX8_kindBy_6 : decode cX8_kindBy 6 = .ok (.iconst 1, 1) := by decide +kernel
theorem dX8_kindBy_7 : decode cX8_kindBy 7 = .ok (.goto 44, 3) := by decide +kernel
theorem dX8_kindBy_10 : decode cX8_kindBy 10 = .ok (.iload_n 0, 1) := by decide +kernel
theorem dX8_kindBy_11 : decode cX8_kindBy 11 = .ok (.bipush 97, 2) := by decide +kernel
theorem dX8_kindBy_13 : decode cX8_kindBy 13 = .ok (.if_icmp .ne 7, 3) := by decide +kernel
theorem dX8_kindBy_16 : decode cX8_kindBy 16 = .ok (.iconst 2, 1) := by decide +kernel
theorem dX8_kindBy_17 : decode cX8_kindBy 17 = .ok (.goto 34, 3) := by decide +kernel
theorem dX8_kindBy_20 : decode cX8_kindBy 20 = .ok (.iload_n 0, 1) := by decide +kernel
theorem dX8_kindBy_21 : decode cX8_kindBy 21 = .ok (.bipush 102, 2) := by decide +kernel
theorem dX8_kindBy_23 : decode cX8_kindBy 23 = .ok (.if_icmp .ne 7, 3) := by decide +kernel
theorem dX8_kindBy_26 : decode cX8_kindBy 26 = .ok (.iconst 3, 1) := by decide +kernel
theorem dX8_kindBy_27 : decode cX8_kindBy 27 = .ok (.goto 24, 3) := by decide +kernel
theorem dX8_kindBy_30 : decode cX8_kindBy 30 = .ok (.iload_n 0, 1) := by decide +kernel
theorem dX8_kindBy_31 : decode cX8_kindBy 31 = .ok (.bipush 98, 2) := by decide +kernel
theorem dX8_kindBy_33 : decode cX8_kindBy 33 = .ok (.if_icmp .ne 7, 3) := by decide +kernel
theorem dX8_kindBy_36 : decode cX8_kindBy 36 = .ok (.iconst 4, 1) := by decide +kernel
theorem dX8_kindBy_37 : decode cX8_kindBy 37 = .ok (.goto 14, 3) := by decide +kernel
theorem dX8_kindBy_40 : decode cX8_kindBy 40 = .ok (.iload_n 0, 1) := by decide +kernel
theorem dX8_kindBy_41 : decode cX8_kindBy 41 = .ok (.bipush 114, 2) := by decide +kernel
theorem dX8_kindBy_43 : decode cX8_kindBy 43 = .ok (.if_icmp .ne 7, 3) := by decide +kernel
theorem dX8_kindBy_46 : decode cX8_kindBy 46 = .ok (.iconst 5, 1) := by decide +kernel
theorem dX8_kindBy_47 : decode cX8_kindBy 47 = .ok (.goto 4, 3) := by decide +kernel
theorem dX8_kindBy_50 : decode cX8_kindBy 50 = .ok (.iconst 0, 1) := by decide +kernel
theorem dX8_kindBy_51 : decode cX8_kindBy 51 = .ok (.ireturn, 1) := by decide +kernel
theorem dX8_figure_0 : decode cX8_figure 0 = .ok (.aload_n 0, 1) := by decide +kernel
theorem dX8_figure_1 : decode cX8_figure 1 = .ok (.invokevirtual 68, 3) := by decide +kernel
theorem dX8_figure_4 : decode cX8_figure 4 = .ok (.bipush 48, 2) := by decide +kernel
theorem dX8_figure_6 : decode cX8_figure 6 = .ok (.isub, 1) := by decide +kernel
theorem dX8_figure_7 : decode cX8_figure 7 = .ok (.istore 4, 2) := by decide +kernel
theorem dX8_figure_9 : decode cX8_figure 9 = .ok (.iload 4, 2) := by decide +kernel
theorem dX8_figure_11 : decode cX8_figure 11 = .ok (.iload_n 1, 1) := by decide +kernel
theorem dX8_figure_12 : decode cX8_figure 12 = .ok (.iload_n 2, 1) := by decide +kernel
theorem dX8_figure_13 : decode cX8_figure 13 = .ok (.invokestatic 57, 3) := by decide +kernel
theorem dX8_figure_16 : decode cX8_figure 16 = .ok (.ifCond .eq 9, 3) := by decide +kernel
theorem dX8_figure_19 : decode cX8_figure 19 = .ok (.iload 4, 2) := by decide +kernel
theorem dX8_figure_21 : decode cX8_figure 21 = .ok (.iload_n 3, 1) := by decide +kernel
theorem dX8_figure_22 : decode cX8_figure 22 = .ok (.if_icmp .ne 5, 3) := by decide +kernel
theorem dX8_figure_25 : decode cX8_figure 25 = .ok (.iconst (-1), 1) := by decide +kernel
theorem dX8_figure_26 : decode cX8_figure 26 = .ok (.ireturn, 1) := by decide +kernel
theorem dX8_figure_27 : decode cX8_figure 27 = .ok (.aload_n 0, 1) := by decide +kernel
theorem dX8_figure_28 : decode cX8_figure 28 = .ok (.dup, 1) := by decide +kernel
theorem dX8_figure_29 : decode cX8_figure 29 = .ok (.getfield 65, 3) := by decide +kernel
theorem dX8_figure_32 : decode cX8_figure 32 = .ok (.iconst 1, 1) := by decide +kernel
theorem dX8_figure_33 : decode cX8_figure 33 = .ok (.iadd, 1) := by decide +kernel
theorem dX8_figure_34 : decode cX8_figure 34 = .ok (.putfield 65, 3) := by decide +kernel
theorem dX8_figure_37 : decode cX8_figure 37 = .ok (.iload 4, 2) := by decide +kernel
theorem dX8_figure_39 : decode cX8_figure 39 = .ok (.ireturn, 1) := by decide +kernel
theorem dX8_isPerson_0 : decode cX8_isPerson 0 = .ok (.aload_n 0, 1) := by decide +kernel
theorem dX8_isPerson_1 : decode cX8_isPerson 1 = .ok (.invokevirtual 68, 3) := by decide +kernel
theorem dX8_isPerson_4 : decode cX8_isPerson 4 = .ok (.invokestatic 72, 3) := by decide +kernel
theorem dX8_isPerson_7 : decode cX8_isPerson 7 = .ok (.istore_n 2, 1) := by decide +kernel
theorem dX8_isPerson_8 : decode cX8_isPerson 8 = .ok (.iload_n 2, 1) := by decide +kernel
theorem dX8_isPerson_9 : decode cX8_isPerson 9 = .ok (.ifCond .ne 5, 3) := by decide +kernel
theorem dX8_isPerson_12 : decode cX8_isPerson 12 = .ok (.iconst 0, 1) := by decide +kernel
theorem dX8_isPerson_13 : decode cX8_isPerson 13 = .ok (.ireturn, 1) := by decide +kernel
theorem dX8_isPerson_14 : decode cX8_isPerson 14 = .ok (.aload_n 0, 1) := by decide +kernel
theorem dX8_isPerson_15 : decode cX8_isPerson 15 = .ok (.dup, 1) := by decide +kernel
theorem dX8_isPerson_16 : decode cX8_isPerson 16 = .ok (.getfield 65, 3) := by decide +kernel
theorem dX8_isPerson_19 : decode cX8_isPerson 19 = .ok (.iconst 1, 1) := by decide +kernel
theorem dX8_isPerson_20 : decode cX8_isPerson 20 = .ok (.iadd, 1) := by decide +kernel
theorem dX8_isPerson_21 : decode cX8_isPerson 21 = .ok (.putfield 65, 3) := by decide +kernel
theorem dX8_isPerson_24 : decode cX8_isPerson 24 = .ok (.aload_n 0, 1) := by decide +kernel
theorem dX8_isPerson_25 : decode cX8_isPerson 25 = .ok (.iconst 0, 1) := by decide +kernel
theorem dX8_isPerson_26 : decode cX8_isPerson 26 = .ok (.bipush 9, 2) := by decide +kernel
theorem dX8_isPerson_28 : decode cX8_isPerson 28 = .ok (.iconst (-1), 1) := by decide +kernel
theorem dX8_isPerson_29 : decode cX8_isPerson 29 = .ok (.invokevirtual 76, 3) := by decide +kernel
theorem dX8_isPerson_32 : decode cX8_isPerson 32 = .ok (.istore_n 3, 1) := by decide +kernel
theorem dX8_isPerson_33 : decode cX8_isPerson 33 = .ok (.iload_n 3, 1) := by decide +kernel
theorem dX8_isPerson_34 : decode cX8_isPerson 34 = .ok (.ifCond .ge 7, 3) := by decide +kernel
theorem dX8_isPerson_37 : decode cX8_isPerson 37 = .ok (.iconst (-1), 1) := by decide +kernel
theorem dX8_isPerson_38 : decode cX8_isPerson 38 = .ok (.goto 11, 3) := by decide +kernel
theorem dX8_isPerson_41 : decode cX8_isPerson 41 = .ok (.aload_n 0, 1) := by decide +kernel
theorem dX8_isPerson_42 : decode cX8_isPerson 42 = .ok (.iconst 0, 1) := by decide +kernel
theorem dX8_isPerson_43 : decode cX8_isPerson 43 = .ok (.bipush 9, 2) := by decide +kernel
theorem dX8_isPerson_45 : decode cX8_isPerson 45 = .ok (.iconst (-1), 1) := by decide +kernel
theorem dX8_isPerson_46 : decode cX8_isPerson 46 = .ok (.invokevirtual 76, 3) := by decide +kernel
theorem dX8_isPerson_49 : decode cX8_isPerson 49 = .ok (.istore 4, 2) := by decide +kernel
theorem dX8_isPerson_51 : decode cX8_isPerson 51 = .ok (.iload 4, 2) := by decide +kernel
theorem dX8_isPerson_53 : decode cX8_isPerson 53 = .ok (.ifCond .ge 7, 3) := by decide +kernel
theorem dX8_isPerson_56 : decode cX8_isPerson 56 = .ok (.iconst (-1), 1) := by decide +kernel
theorem dX8_isPerson_57 : decode cX8_isPerson 57 = .ok (.goto 11, 3) := by decide +kernel
theorem dX8_isPerson_60 : decode cX8_isPerson 60 = .ok (.aload_n 0, 1) := by decide +kernel
theorem dX8_isPerson_61 : decode cX8_isPerson 61 = .ok (.iconst 0, 1) := by decide +kernel
theorem dX8_isPerson_62 : decode cX8_isPerson 62 = .ok (.bipush 9, 2) := by decide +kernel
theorem dX8_isPerson_64 : decode cX8_isPerson 64 = .ok (.iconst (-1), 1) := by decide +kernel
theorem dX8_isPerson_65 : decode cX8_isPerson 65 = .ok (.invokevirtual 76, 3) := by decide +kernel
theorem dX8_isPerson_68 : decode cX8_isPerson 68 = .ok (.istore 5, 2) := by decide +kernel
theorem dX8_isPerson_70 : decode cX8_isPerson 70 = .ok (.iload 5, 2) := by decide +kernel
theorem dX8_isPerson_72 : decode cX8_isPerson 72 = .ok (.ifCond .ge 5, 3) := by decide +kernel
theorem dX8_isPerson_75 : decode cX8_isPerson 75 = .ok (.iconst 0, 1) := by decide +kernel
theorem dX8_isPerson_76 : decode cX8_isPerson 76 = .ok (.ireturn, 1) := by decide +kernel
theorem dX8_isPerson_77 : decode cX8_isPerson 77 = .ok (.bipush (-4), 2) := by decide +kernel
theorem dX8_isPerson_79 : decode cX8_isPerson 79 = .ok (.istore 6, 2) := by decide +kernel
theorem dX8_isPerson_81 : decode cX8_isPerson 81 = .ok (.aload_n 0, 1) := by decide +kernel
theorem dX8_isPerson_82 : decode cX8_isPerson 82 = .ok (.bipush 45, 2) := by decide +kernel
theorem dX8_isPerson_84 : decode cX8_isPerson 84 = .ok (.invokevirtual 80, 3) := by decide +kernel
theorem dX8_isPerson_87 : decode cX8_isPerson 87 = .ok (.ifCond .ne 26, 3) := by decide +kernel
theorem dX8_isPerson_90 : decode cX8_isPerson 90 = .ok (.aload_n 0, 1) := by decide +kernel
theorem dX8_isPerson_91 : decode cX8_isPerson 91 = .ok (.iconst 0, 1) := by decide +kernel
theorem dX8_isPerson_92 : decode cX8_isPerson 92 = .ok (.aload_n 0, 1) := by decide +kernel
theorem dX8_isPerson_93 : decode cX8_isPerson 93 = .ok (.getfield 26, 3) := by decide +kernel
theorem dX8_isPerson_96 : decode cX8_isPerson 96 = .ok (.iconst 1, 1) := by decide +kernel
theorem dX8_isPerson_97 : decode cX8_isPerson 97 = .ok (.iaload, 1) := by decide +kernel
theorem dX8_isPerson_98 : decode cX8_isPerson 98 = .ok (.iconst 1, 1) := by decide +kernel
theorem dX8_isPerson_99 : decode cX8_isPerson 99 = .ok (.isub, 1) := by decide +kernel
theorem dX8_isPerson_100 : decode cX8_isPerson 100 = .ok (.iload_n 1, 1) := by decide +kernel
theorem dX8_isPerson_101 : decode cX8_isPerson 101 = .ok (.invokevirtual 76, 3) := by decide +kernel
theorem dX8_isPerson_104 : decode cX8_isPerson 104 = .ok (.istore 6, 2) := by decide +kernel
theorem dX8_isPerson_106 : decode cX8_isPerson 106 = .ok (.iload 6, 2) := by decide +kernel
theorem dX8_isPerson_108 : decode cX8_isPerson 108 = .ok (.ifCond .ge 5, 3) := by decide +kernel
theorem dX8_isPerson_111 : decode cX8_isPerson 111 = .ok (.iconst 0, 1) := by decide +kernel
theorem dX8_isPerson_112 : decode cX8_isPerson 112 = .ok (.ireturn, 1) := by decide +kernel
theorem dX8_isPerson_113 : decode cX8_isPerson 113 = .ok (.aload_n 0, 1) := by decide +kernel
theorem dX8_isPerson_114 : decode cX8_isPerson 114 = .ok (.getfield 26, 3) := by decide +kernel
theorem dX8_isPerson_117 : decode cX8_isPerson 117 = .ok (.iconst 3, 1) := by decide +kernel
theorem dX8_isPerson_118 : decode cX8_isPerson 118 = .ok (.iload_n 1, 1) := by decide +kernel
theorem dX8_isPerson_119 : decode cX8_isPerson 119 = .ok (.iadd, 1) := by decide +kernel
theorem dX8_isPerson_120 : decode cX8_isPerson 120 = .ok (.iload_n 2, 1) := by decide +kernel
theorem dX8_isPerson_121 : decode cX8_isPerson 121 = .ok (.iastore, 1) := by decide +kernel
theorem dX8_isPerson_122 : decode cX8_isPerson 122 = .ok (.aload_n 0, 1) := by decide +kernel
theorem dX8_isPerson_123 : decode cX8_isPerson 123 = .ok (.getfield 26, 3) := by decide +kernel
theorem dX8_isPerson_126 : decode cX8_isPerson 126 = .ok (.bipush 9, 2) := by decide +kernel
theorem dX8_isPerson_128 : decode cX8_isPerson 128 = .ok (.iload_n 1, 1) := by decide +kernel
theorem dX8_isPerson_129 : decode cX8_isPerson 129 = .ok (.iadd, 1) := by decide +kernel
theorem dX8_isPerson_130 : decode cX8_isPerson 130 = .ok (.iload_n 3, 1) := by decide +kernel
theorem dX8_isPerson_131 : decode cX8_isPerson 131 = .ok (.iastore, 1) := by decide +kernel
theorem dX8_isPerson_132 : decode cX8_isPerson 132 = .ok (.aload_n 0, 1) := by decide +kernel
theorem dX8_isPerson_133 : decode cX8_isPerson 133 = .ok (.getfield 26, 3) := by decide +kernel
theorem dX8_isPerson_136 : decode cX8_isPerson 136 = .ok (.bipush 15, 2) := by decide +kernel
theorem dX8_isPerson_138 : decode cX8_isPerson 138 = .ok (.iload_n 1, 1) := by decide +kernel
theorem dX8_isPerson_139 : decode cX8_isPerson 139 = .ok (.iadd, 1) := by decide +kernel
theorem dX8_isPerson_140 : decode cX8_isPerson 140 = .ok (.iload 4, 2) := by decide +kernel
theorem dX8_isPerson_142 : decode cX8_isPerson 142 = .ok (.iastore, 1) := by decide +kernel
theorem dX8_isPerson_143 : decode cX8_isPerson 143 = .ok (.aload_n 0, 1) := by decide +kernel
theorem dX8_isPerson_144 : decode cX8_isPerson 144 = .ok (.getfield 26, 3) := by decide +kernel
theorem dX8_isPerson_147 : decode cX8_isPerson 147 = .ok (.bipush 21, 2) := by decide +kernel
theorem dX8_isPerson_149 : decode cX8_isPerson 149 = .ok (.iload_n 1, 1) := by decide +kernel
theorem dX8_isPerson_150 : decode cX8_isPerson 150 = .ok (.iadd, 1) := by decide +kernel
theorem dX8_isPerson_151 : decode cX8_isPerson 151 = .ok (.iload 5, 2) := by decide +kernel
theorem dX8_isPerson_153 : decode cX8_isPerson 153 = .ok (.iastore, 1) := by decide +kernel
theorem dX8_isPerson_154 : decode cX8_isPerson 154 = .ok (.aload_n 0, 1) := by decide +kernel
theorem dX8_isPerson_155 : decode cX8_isPerson 155 = .ok (.getfield 26, 3) := by decide +kernel
theorem dX8_isPerson_158 : decode cX8_isPerson 158 = .ok (.bipush 27, 2) := by decide +kernel
theorem dX8_isPerson_160 : decode cX8_isPerson 160 = .ok (.iload_n 1, 1) := by decide +kernel
theorem dX8_isPerson_161 : decode cX8_isPerson 161 = .ok (.iadd, 1) := by decide +kernel
theorem dX8_isPerson_162 : decode cX8_isPerson 162 = .ok (.iload 5, 2) := by decide +kernel
theorem dX8_isPerson_164 : decode cX8_isPerson 164 = .ok (.iastore, 1) := by decide +kernel
theorem dX8_isPerson_165 : decode cX8_isPerson 165 = .ok (.aload_n 0, 1) := by decide +kernel
theorem dX8_isPerson_166 : decode cX8_isPerson 166 = .ok (.getfield 26, 3) := by decide +kernel
theorem dX8_isPerson_169 : decode cX8_isPerson 169 = .ok (.bipush 33, 2) := by decide +kernel
theorem dX8_isPerson_171 : decode cX8_isPerson 171 = .ok (.iload_n 1, 1) := by decide +kernel
theorem dX8_isPerson_172 : decode cX8_isPerson 172 = .ok (.iadd, 1) := by decide +kernel
theorem dX8_isPerson_173 : decode cX8_isPerson 173 = .ok (.iload 6, 2) := by decide +kernel
theorem dX8_isPerson_175 : decode cX8_isPerson 175 = .ok (.iastore, 1) := by decide +kernel
theorem dX8_isPerson_176 : decode cX8_isPerson 176 = .ok (.aload_n 0, 1) := by decide +kernel
theorem dX8_isPerson_177 : decode cX8_isPerson 177 = .ok (.getfield 26, 3) := by decide +kernel
theorem dX8_isPerson_180 : decode cX8_isPerson 180 = .ok (.bipush 45, 2) := by decide +kernel
theorem dX8_isPerson_182 : decode cX8_isPerson 182 = .ok (.iload_n 1, 1) := by decide +kernel
theorem dX8_isPerson_183 : decode cX8_isPerson 183 = .ok (.iadd, 1) := by decide +kernel
theorem dX8_isPerson_184 : decode cX8_isPerson 184 = .ok (.bipush (-4), 2) := by decide +kernel
theorem dX8_isPerson_186 : decode cX8_isPerson 186 = .ok (.iastore, 1) := by decide +kernel
theorem dX8_isPerson_187 : decode cX8_isPerson 187 = .ok (.iconst 1, 1) := by decide +kernel
theorem dX8_isPerson_188 : decode cX8_isPerson 188 = .ok (.ireturn, 1) := by decide +kernel
theorem dX8_addWrong_0 : decode cX8_addWrong 0 = .ok (.aload_n 0, 1) := by decide +kernel
theorem dX8_addWrong_1 : decode cX8_addWrong 1 = .ok (.iconst 2, 1) := by decide +kernel
theorem dX8_addWrong_2 : decode cX8_addWrong 2 = .ok (.iaload, 1) := by decide +kernel
theorem dX8_addWrong_3 : decode cX8_addWrong 3 = .ok (.istore 4, 2) := by decide +kernel
theorem dX8_addWrong_5 : decode cX8_addWrong 5 = .ok (.aload_n 0, 1) := by decide +kernel
theorem dX8_addWrong_6 : decode cX8_addWrong 6 = .ok (.bipush 51, 2) := by decide +kernel
theorem dX8_addWrong_8 : decode cX8_addWrong 8 = .ok (.iload 4, 2) := by decide +kernel
theorem dX8_addWrong_10 : decode cX8_addWrong 10 = .ok (.iadd, 1) := by decide +kernel
theorem dX8_addWrong_11 : decode cX8_addWrong 11 = .ok (.iload_n 1, 1) := by decide +kernel
theorem dX8_addWrong_12 : decode cX8_addWrong 12 = .ok (.iastore, 1) := by decide +kernel
theorem dX8_addWrong_13 : decode cX8_addWrong 13 = .ok (.aload_n 0, 1) := by decide +kernel
theorem dX8_addWrong_14 : decode cX8_addWrong 14 = .ok (.bipush 59, 2) := by decide +kernel
theorem dX8_addWrong_16 : decode cX8_addWrong 16 = .ok (.iload 4, 2) := by decide +kernel
theorem dX8_addWrong_18 : decode cX8_addWrong 18 = .ok (.iadd, 1) := by decide +kernel
theorem dX8_addWrong_19 : decode cX8_addWrong 19 = .ok (.iload_n 2, 1) := by decide +kernel
theorem dX8_addWrong_20 : decode cX8_addWrong 20 = .ok (.iastore, 1) := by decide +kernel
theorem dX8_addWrong_21 : decode cX8_addWrong 21 = .ok (.aload_n 0, 1) := by decide +kernel
theorem dX8_addWrong_22 : decode cX8_addWrong 22 = .ok (.bipush 67, 2) := by decide +kernel
theorem dX8_addWrong_24 : decode cX8_addWrong 24 = .ok (.iload 4, 2) := by decide +kernel
theorem dX8_addWrong_26 : decode cX8_addWrong 26 = .ok (.iadd, 1) := by decide +kernel
theorem dX8_addWrong_27 : decode cX8_addWrong 27 = .ok (.iload_n 3, 1) := by decide +kernel
theorem dX8_addWrong_28 : decode cX8_addWrong 28 = .ok (.iastore, 1) := by decide +kernel
theorem dX8_addWrong_29 : decode cX8_addWrong 29 = .ok (.aload_n 0, 1) := by decide +kernel
theorem dX8_addWrong_30 : decode cX8_addWrong 30 = .ok (.bipush 75, 2) := by decide +kernel
theorem dX8_addWrong_32 : decode cX8_addWrong 32 = .ok (.iload 4, 2) := by decide +kernel
theorem dX8_addWrong_34 : decode cX8_addWrong 34 = .ok (.iadd, 1) := by decide +kernel
theorem dX8_addWrong_35 : decode cX8_addWrong 35 = .ok (.bipush (-4), 2) := by decide +kernel
theorem dX8_addWrong_37 : decode cX8_addWrong 37 = .ok (.iastore, 1) := by decide +kernel
theorem dX8_addWrong_38 : decode cX8_addWrong 38 = .ok (.aload_n 0, 1) := by decide +kernel
theorem dX8_addWrong_39 : decode cX8_addWrong 39 = .ok (.iconst 2, 1) := by decide +kernel
theorem dX8_addWrong_40 : decode cX8_addWrong 40 = .ok (.dup2, 1) := by decide +kernel
theorem dX8_addWrong_41 : decode cX8_addWrong 41 = .ok (.iaload, 1) := by decide +kernel
theorem dX8_addWrong_42 : decode cX8_addWrong 42 = .ok (.iconst 1, 1) := by decide +kernel
theorem dX8_addWrong_43 : decode cX8_addWrong 43 = .ok (.iadd, 1) := by decide +kernel
theorem dX8_addWrong_44 : decode cX8_addWrong 44 = .ok (.iastore, 1) := by decide +kernel
theorem dX8_addWrong_45 : decode cX8_addWrong 45 = .ok (.iload 4, 2) := by decide +kernel
theorem dX8_addWrong_47 : decode cX8_addWrong 47 = .ok (.ireturn, 1) := by decide +kernel
theorem dX8_isWrongItem_0 : decode cX8_isWrongItem 0 = .ok (.aload_n 0, 1) := by decide +kernel
theorem dX8_isWrongItem_1 : decode cX8_isWrongItem 1 = .ok (.iconst 0, 1) := by decide +kernel
theorem dX8_isWrongItem_2 : decode cX8_isWrongItem 2 = .ok (.aload_n 0, 1) := by decide +kernel
theorem dX8_isWrongItem_3 : decode cX8_isWrongItem 3 = .ok (.getfield 26, 3) := by decide +kernel
theorem dX8_isWrongItem_6 : decode cX8_isWrongItem 6 = .ok (.iconst 1, 1) := by decide +kernel
theorem dX8_isWrongItem_7 : decode cX8_isWrongItem 7 = .ok (.iaload, 1) := by decide +kernel
theorem dX8_isWrongItem_8 : decode cX8_isWrongItem 8 = .ok (.iconst 1, 1) := by decide +kernel
theorem dX8_isWrongItem_9 : decode cX8_isWrongItem 9 = .ok (.isub, 1) := by decide +kernel
theorem dX8_isWrongItem_10 : decode cX8_isWrongItem 10 = .ok (.iconst (-1), 1) := by decide +kernel
theorem dX8_isWrongItem_11 : decode cX8_isWrongItem 11 = .ok (.invokevirtual 76, 3) := by decide +kernel
theorem dX8_isWrongItem_14 : decode cX8_isWrongItem 14 = .ok (.istore_n 1, 1) := by decide +kernel
theorem dX8_isWrongItem_15 : decode cX8_isWrongItem 15 = .ok (.iload_n 1, 1) := by decide +kernel
theorem dX8_isWrongItem_16 : decode cX8_isWrongItem 16 = .ok (.ifCond .ge 7, 3) := by decide +kernel
theorem dX8_isWrongItem_19 : decode cX8_isWrongItem 19 = .ok (.iconst (-1), 1) := by decide +kernel
theorem dX8_isWrongItem_20 : decode cX8_isWrongItem 20 = .ok (.goto 17, 3) := by decide +kernel
theorem dX8_isWrongItem_23 : decode cX8_isWrongItem 23 = .ok (.aload_n 0, 1) := by decide +kernel
theorem dX8_isWrongItem_24 : decode cX8_isWrongItem 24 = .ok (.iconst 0, 1) := by decide +kernel
theorem dX8_isWrongItem_25 : decode cX8_isWrongItem 25 = .ok (.aload_n 0, 1) := by decide +kernel
theorem dX8_isWrongItem_26 : decode cX8_isWrongItem 26 = .ok (.getfield 26, 3) := by decide +kernel
theorem dX8_isWrongItem_29 : decode cX8_isWrongItem 29 = .ok (.iconst 1, 1) := by decide +kernel
theorem dX8_isWrongItem_30 : decode cX8_isWrongItem 30 = .ok (.iaload, 1) := by decide +kernel
theorem dX8_isWrongItem_31 : decode cX8_isWrongItem 31 = .ok (.iconst 1, 1) := by decide +kernel
theorem dX8_isWrongItem_32 : decode cX8_isWrongItem 32 = .ok (.isub, 1) := by decide +kernel
theorem dX8_isWrongItem_33 : decode cX8_isWrongItem 33 = .ok (.iload_n 1, 1) := by decide +kernel
theorem dX8_isWrongItem_34 : decode cX8_isWrongItem 34 = .ok (.invokevirtual 76, 3) := by decide +kernel
theorem dX8_isWrongItem_37 : decode cX8_isWrongItem 37 = .ok (.istore_n 2, 1) := by decide +kernel
theorem dX8_isWrongItem_38 : decode cX8_isWrongItem 38 = .ok (.iload_n 2, 1) := by decide +kernel
theorem dX8_isWrongItem_39 : decode cX8_isWrongItem 39 = .ok (.ifCond .ge 7, 3) := by decide +kernel
theorem dX8_isWrongItem_42 : decode cX8_isWrongItem 42 = .ok (.iconst (-1), 1) := by decide +kernel
theorem dX8_isWrongItem_43 : decode cX8_isWrongItem 43 = .ok (.goto 11, 3) := by decide +kernel
theorem dX8_isWrongItem_46 : decode cX8_isWrongItem 46 = .ok (.aload_n 0, 1) := by decide +kernel
theorem dX8_isWrongItem_47 : decode cX8_isWrongItem 47 = .ok (.iconst 1, 1) := by decide +kernel
theorem dX8_isWrongItem_48 : decode cX8_isWrongItem 48 = .ok (.bipush 9, 2) := by decide +kernel
theorem dX8_isWrongItem_50 : decode cX8_isWrongItem 50 = .ok (.iconst (-1), 1) := by decide +kernel
theorem dX8_isWrongItem_51 : decode cX8_isWrongItem 51 = .ok (.invokevirtual 76, 3) := by decide +kernel
theorem dX8_isWrongItem_54 : decode cX8_isWrongItem 54 = .ok (.istore_n 3, 1) := by decide +kernel
theorem dX8_isWrongItem_55 : decode cX8_isWrongItem 55 = .ok (.iload_n 3, 1) := by decide +kernel
theorem dX8_isWrongItem_56 : decode cX8_isWrongItem 56 = .ok (.ifCond .ge 5, 3) := by decide +kernel
theorem dX8_isWrongItem_59 : decode cX8_isWrongItem 59 = .ok (.iconst 0, 1) := by decide +kernel
theorem dX8_isWrongItem_60 : decode cX8_isWrongItem 60 = .ok (.ireturn, 1) := by decide +kernel
theorem dX8_isWrongItem_61 : decode cX8_isWrongItem 61 = .ok (.aload_n 0, 1) := by decide +kernel
theorem dX8_isWrongItem_62 : decode cX8_isWrongItem 62 = .ok (.getfield 26, 3) := by decide +kernel
theorem dX8_isWrongItem_65 : decode cX8_isWrongItem 65 = .ok (.iload_n 1, 1) := by decide +kernel
theorem dX8_isWrongItem_66 : decode cX8_isWrongItem 66 = .ok (.iload_n 2, 1) := by decide +kernel
theorem dX8_isWrongItem_67 : decode cX8_isWrongItem 67 = .ok (.iload_n 3, 1) := by decide +kernel
theorem dX8_isWrongItem_68 : decode cX8_isWrongItem 68 = .ok (.invokestatic 84, 3) := by decide +kernel
theorem dX8_isWrongItem_71 : decode cX8_isWrongItem 71 = .ok (.pop, 1) := by decide +kernel
theorem dX8_isWrongItem_72 : decode cX8_isWrongItem 72 = .ok (.iconst 1, 1) := by decide +kernel
theorem dX8_isWrongItem_73 : decode cX8_isWrongItem 73 = .ok (.ireturn, 1) := by decide +kernel
theorem dX8_isRead_0 : decode cX8_isRead 0 = .ok (.iconst 0, 1) := by decide +kernel
theorem dX8_isRead_1 : decode cX8_isRead 1 = .ok (.istore_n 1, 1) := by decide +kernel
theorem dX8_isRead_2 : decode cX8_isRead 2 = .ok (.iload_n 1, 1) := by decide +kernel
theorem dX8_isRead_3 : decode cX8_isRead 3 = .ok (.bipush 83, 2) := by decide +kernel
theorem dX8_isRead_5 : decode cX8_isRead 5 = .ok (.if_icmp .ge 16, 3) := by decide +kernel
theorem dX8_isRead_8 : decode cX8_isRead 8 = .ok (.aload_n 0, 1) := by decide +kernel
theorem dX8_isRead_9 : decode cX8_isRead 9 = .ok (.getfield 26, 3) := by decide +kernel
theorem dX8_isRead_12 : decode cX8_isRead 12 = .ok (.iload_n 1, 1) := by decide +kernel
theorem dX8_isRead_13 : decode cX8_isRead 13 = .ok (.iconst 0, 1) := by decide +kernel
theorem dX8_isRead_14 : decode cX8_isRead 14 = .ok (.iastore, 1) := by decide +kernel
theorem dX8_isRead_15 : decode cX8_isRead 15 = .ok (.iinc 1 1, 3) := by decide +kernel
theorem dX8_isRead_18 : decode cX8_isRead 18 = .ok (.goto (-16), 3) := by decide +kernel
theorem dX8_isRead_21 : decode cX8_isRead 21 = .ok (.aload_n 0, 1) := by decide +kernel
theorem dX8_isRead_22 : decode cX8_isRead 22 = .ok (.iconst 0, 1) := by decide +kernel
theorem dX8_isRead_23 : decode cX8_isRead 23 = .ok (.putfield 65, 3) := by decide +kernel
theorem dX8_isRead_26 : decode cX8_isRead 26 = .ok (.aload_n 0, 1) := by decide +kernel
theorem dX8_isRead_27 : decode cX8_isRead 27 = .ok (.bipush 114, 2) := by decide +kernel
theorem dX8_isRead_29 : decode cX8_isRead 29 = .ok (.invokevirtual 80, 3) := by decide +kernel
theorem dX8_isRead_32 : decode cX8_isRead 32 = .ok (.ifCond .ne 5, 3) := by decide +kernel
theorem dX8_isRead_35 : decode cX8_isRead 35 = .ok (.iconst 0, 1) := by decide +kernel
theorem dX8_isRead_36 : decode cX8_isRead 36 = .ok (.ireturn, 1) := by decide +kernel
theorem dX8_isRead_37 : decode cX8_isRead 37 = .ok (.aload_n 0, 1) := by decide +kernel
theorem dX8_isRead_38 : decode cX8_isRead 38 = .ok (.iconst 2, 1) := by decide +kernel
theorem dX8_isRead_39 : decode cX8_isRead 39 = .ok (.bipush 6, 2) := by decide +kernel
theorem dX8_isRead_41 : decode cX8_isRead 41 = .ok (.iconst (-1), 1) := by decide +kernel
theorem dX8_isRead_42 : decode cX8_isRead 42 = .ok (.invokevirtual 76, 3) := by decide +kernel
theorem dX8_isRead_45 : decode cX8_isRead 45 = .ok (.istore_n 1, 1) := by decide +kernel
theorem dX8_isRead_46 : decode cX8_isRead 46 = .ok (.iload_n 1, 1) := by decide +kernel
theorem dX8_isRead_47 : decode cX8_isRead 47 = .ok (.ifCond .ge 5, 3) := by decide +kernel
theorem dX8_isRead_50 : decode cX8_isRead 50 = .ok (.iconst 0, 1) := by decide +kernel
theorem dX8_isRead_51 : decode cX8_isRead 51 = .ok (.ireturn, 1) := by decide +kernel
theorem dX8_isRead_52 : decode cX8_isRead 52 = .ok (.aload_n 0, 1) := by decide +kernel
theorem dX8_isRead_53 : decode cX8_isRead 53 = .ok (.getfield 26, 3) := by decide +kernel
theorem dX8_isRead_56 : decode cX8_isRead 56 = .ok (.iconst 1, 1) := by decide +kernel
theorem dX8_isRead_57 : decode cX8_isRead 57 = .ok (.iload_n 1, 1) := by decide +kernel
theorem dX8_isRead_58 : decode cX8_isRead 58 = .ok (.iastore, 1) := by decide +kernel
theorem dX8_isRead_59 : decode cX8_isRead 59 = .ok (.iconst 0, 1) := by decide +kernel
theorem dX8_isRead_60 : decode cX8_isRead 60 = .ok (.istore_n 2, 1) := by decide +kernel
theorem dX8_isRead_61 : decode cX8_isRead 61 = .ok (.iload_n 2, 1) := by decide +kernel
theorem dX8_isRead_62 : decode cX8_isRead 62 = .ok (.iload_n 1, 1) := by decide +kernel
theorem dX8_isRead_63 : decode cX8_isRead 63 = .ok (.if_icmp .ge 40, 3) := by decide +kernel
theorem dX8_isRead_66 : decode cX8_isRead 66 = .ok (.aload_n 0, 1) := by decide +kernel
theorem dX8_isRead_67 : decode cX8_isRead 67 = .ok (.iload_n 2, 1) := by decide +kernel
theorem dX8_isRead_68 : decode cX8_isRead 68 = .ok (.invokevirtual 88, 3) := by decide +kernel
theorem dX8_isRead_71 : decode cX8_isRead 71 = .ok (.ifCond .eq 24, 3) := by decide +kernel
theorem dX8_isRead_74 : decode cX8_isRead 74 = .ok (.aload_n 0, 1) := by decide +kernel
theorem dX8_isRead_75 : decode cX8_isRead 75 = .ok (.iload_n 2, 1) := by decide +kernel
theorem dX8_isRead_76 : decode cX8_isRead 76 = .ok (.iload_n 1, 1) := by decide +kernel
theorem dX8_isRead_77 : decode cX8_isRead 77 = .ok (.iconst 1, 1) := by decide +kernel
theorem dX8_isRead_78 : decode cX8_isRead 78 = .ok (.isub, 1) := by decide +kernel
theorem dX8_isRead_79 : decode cX8_isRead 79 = .ok (.if_icmp .ge 8, 3) := by decide +kernel
theorem dX8_isRead_82 : decode cX8_isRead 82 = .ok (.bipush 44, 2) := by decide +kernel
theorem dX8_isRead_84 : decode cX8_isRead 84 = .ok (.goto 5, 3) := by decide +kernel
theorem dX8_isRead_87 : decode cX8_isRead 87 = .ok (.bipush 59, 2) := by decide +kernel
theorem dX8_isRead_89 : decode cX8_isRead 89 = .ok (.invokevirtual 80, 3) := by decide +kernel
theorem dX8_isRead_92 : decode cX8_isRead 92 = .ok (.ifCond .ne 5, 3) := by decide +kernel
theorem dX8_isRead_95 : decode cX8_isRead 95 = .ok (.iconst 0, 1) := by decide +kernel
theorem dX8_isRead_96 : decode cX8_isRead 96 = .ok (.ireturn, 1) := by decide +kernel
theorem dX8_isRead_97 : decode cX8_isRead 97 = .ok (.iinc 2 1, 3) := by decide +kernel
theorem dX8_isRead_100 : decode cX8_isRead 100 = .ok (.goto (-39), 3) := by decide +kernel
theorem dX8_isRead_103 : decode cX8_isRead 103 = .ok (.iconst 1, 1) := by decide +kernel
theorem dX8_isRead_104 : decode cX8_isRead 104 = .ok (.istore_n 2, 1) := by decide +kernel
theorem dX8_isRead_105 : decode cX8_isRead 105 = .ok (.iload_n 2, 1) := by decide +kernel
theorem dX8_isRead_106 : decode cX8_isRead 106 = .ok (.ifCond .eq 41, 3) := by decide +kernel
theorem dX8_isRead_109 : decode cX8_isRead 109 = .ok (.aload_n 0, 1) := by decide +kernel
theorem dX8_isRead_110 : decode cX8_isRead 110 = .ok (.invokevirtual 91, 3) := by decide +kernel
theorem dX8_isRead_113 : decode cX8_isRead 113 = .ok (.ifCond .ne 5, 3) := by decide +kernel
theorem dX8_isRead_116 : decode cX8_isRead 116 = .ok (.iconst 0, 1) := by decide +kernel
theorem dX8_isRead_117 : decode cX8_isRead 117 = .ok (.ireturn, 1) := by decide +kernel
theorem dX8_isRead_118 : decode cX8_isRead 118 = .ok (.aload_n 0, 1) := by decide +kernel
theorem dX8_isRead_119 : decode cX8_isRead 119 = .ok (.getfield 26, 3) := by decide +kernel
theorem dX8_isRead_122 : decode cX8_isRead 122 = .ok (.iconst 2, 1) := by decide +kernel
theorem dX8_isRead_123 : decode cX8_isRead 123 = .ok (.iaload, 1) := by decide +kernel
theorem dX8_isRead_124 : decode cX8_isRead 124 = .ok (.bipush 8, 2) := by decide +kernel
theorem dX8_isRead_126 : decode cX8_isRead 126 = .ok (.if_icmp .ge 16, 3) := by decide +kernel
theorem dX8_isRead_129 : decode cX8_isRead 129 = .ok (.aload_n 0, 1) := by decide +kernel
theorem dX8_isRead_130 : decode cX8_isRead 130 = .ok (.bipush 44, 2) := by decide +kernel
theorem dX8_isRead_132 : decode cX8_isRead 132 = .ok (.invokevirtual 80, 3) := by decide +kernel
theorem dX8_isRead_135 : decode cX8_isRead 135 = .ok (.ifCond .eq 7, 3) := by decide +kernel
theorem dX8_isRead_138 : decode cX8_isRead 138 = .ok (.iconst 1, 1) := by decide +kernel
theorem dX8_isRead_139 : decode cX8_isRead 139 = .ok (.goto 4, 3) := by decide +kernel
theorem dX8_isRead_142 : decode cX8_isRead 142 = .ok (.iconst 0, 1) := by decide +kernel
theorem dX8_isRead_143 : decode cX8_isRead 143 = .ok (.istore_n 2, 1) := by decide +kernel
theorem dX8_isRead_144 : decode cX8_isRead 144 = .ok (.goto (-39), 3) := by decide +kernel
theorem dX8_isRead_147 : decode cX8_isRead 147 = .ok (.aload_n 0, 1) := by decide +kernel
theorem dX8_isRead_148 : decode cX8_isRead 148 = .ok (.bipush 59, 2) := by decide +kernel
theorem dX8_isRead_150 : decode cX8_isRead 150 = .ok (.invokevirtual 80, 3) := by decide +kernel
theorem dX8_isRead_153 : decode cX8_isRead 153 = .ok (.ifCond .ne 5, 3) := by decide +kernel
theorem dX8_isRead_156 : decode cX8_isRead 156 = .ok (.iconst 0, 1) := by decide +kernel
theorem dX8_isRead_157 : decode cX8_isRead 157 = .ok (.ireturn, 1) := by decide +kernel
theorem dX8_isRead_158 : decode cX8_isRead 158 = .ok (.aload_n 0, 1) := by decide +kernel
theorem dX8_isRead_159 : decode cX8_isRead 159 = .ok (.getfield 26, 3) := by decide +kernel
theorem dX8_isRead_162 : decode cX8_isRead 162 = .ok (.iconst 0, 1) := by decide +kernel
theorem dX8_isRead_163 : decode cX8_isRead 163 = .ok (.aload_n 0, 1) := by decide +kernel
theorem dX8_isRead_164 : decode cX8_isRead 164 = .ok (.iconst 0, 1) := by decide +kernel
theorem dX8_isRead_165 : decode cX8_isRead 165 = .ok (.iconst 1, 1) := by decide +kernel
theorem dX8_isRead_166 : decode cX8_isRead 166 = .ok (.iconst (-1), 1) := by decide +kernel
theorem dX8_isRead_167 : decode cX8_isRead 167 = .ok (.invokevirtual 76, 3) := by decide +kernel
theorem dX8_isRead_170 : decode cX8_isRead 170 = .ok (.iastore, 1) := by decide +kernel
theorem dX8_isRead_171 : decode cX8_isRead 171 = .ok (.aload_n 0, 1) := by decide +kernel
theorem dX8_isRead_172 : decode cX8_isRead 172 = .ok (.getfield 26, 3) := by decide +kernel
theorem dX8_isRead_175 : decode cX8_isRead 175 = .ok (.iconst 0, 1) := by decide +kernel
theorem dX8_isRead_176 : decode cX8_isRead 176 = .ok (.iaload, 1) := by decide +kernel
theorem dX8_isRead_177 : decode cX8_isRead 177 = .ok (.ifCond .lt 18, 3) := by decide +kernel
theorem dX8_isRead_180 : decode cX8_isRead 180 = .ok (.aload_n 0, 1) := by decide +kernel
theorem dX8_isRead_181 : decode cX8_isRead 181 = .ok (.getfield 65, 3) := by decide +kernel
theorem dX8_isRead_184 : decode cX8_isRead 184 = .ok (.aload_n 0, 1) := by decide +kernel
theorem dX8_isRead_185 : decode cX8_isRead 185 = .ok (.getfield 61, 3) := by decide +kernel
theorem dX8_isRead_188 : decode cX8_isRead 188 = .ok (.if_icmp .ne 7, 3) := by decide +kernel
theorem dX8_isRead_191 : decode cX8_isRead 191 = .ok (.iconst 1, 1) := by decide +kernel
theorem dX8_isRead_192 : decode cX8_isRead 192 = .ok (.goto 4, 3) := by decide +kernel
theorem dX8_isRead_195 : decode cX8_isRead 195 = .ok (.iconst 0, 1) := by decide +kernel
theorem dX8_isRead_196 : decode cX8_isRead 196 = .ok (.ireturn, 1) := by decide +kernel
theorem dX8_coast_0 : decode cX8_coast 0 = .ok (.aload_n 0, 1) := by decide +kernel
theorem dX8_coast_1 : decode cX8_coast 1 = .ok (.invokevirtual 95, 3) := by decide +kernel
theorem dX8_coast_4 : decode cX8_coast 4 = .ok (.istore_n 1, 1) := by decide +kernel
theorem dX8_coast_5 : decode cX8_coast 5 = .ok (.aload_n 0, 1) := by decide +kernel
theorem dX8_coast_6 : decode cX8_coast 6 = .ok (.iconst 0, 1) := by decide +kernel
theorem dX8_coast_7 : decode cX8_coast 7 = .ok (.putfield 61, 3) := by decide +kernel
theorem dX8_coast_10 : decode cX8_coast 10 = .ok (.iload_n 1, 1) := by decide +kernel
theorem dX8_coast_11 : decode cX8_coast 11 = .ok (.ifCond .ne 11, 3) := by decide +kernel
theorem dX8_coast_14 : decode cX8_coast 14 = .ok (.bipush (-100), 2) := by decide +kernel
theorem dX8_coast_16 : decode cX8_coast 16 = .ok (.aload_n 0, 1) := by decide +kernel
theorem dX8_coast_17 : decode cX8_coast 17 = .ok (.getfield 65, 3) := by decide +kernel
theorem dX8_coast_20 : decode cX8_coast 20 = .ok (.isub, 1) := by decide +kernel
theorem dX8_coast_21 : decode cX8_coast 21 = .ok (.ireturn, 1) := by decide +kernel
theorem dX8_coast_22 : decode cX8_coast 22 = .ok (.aload_n 0, 1) := by decide +kernel
theorem dX8_coast_23 : decode cX8_coast 23 = .ok (.getfield 26, 3) := by decide +kernel
theorem dX8_coast_26 : decode cX8_coast 26 = .ok (.iconst 0, 1) := by decide +kernel
theorem dX8_coast_27 : decode cX8_coast 27 = .ok (.aload_n 0, 1) := by decide +kernel
theorem dX8_coast_28 : decode cX8_coast 28 = .ok (.getfield 23, 3) := by decide +kernel
theorem dX8_coast_31 : decode cX8_coast 31 = .ok (.iconst 0, 1) := by decide +kernel
theorem dX8_coast_32 : decode cX8_coast 32 = .ok (.bipush 83, 2) := by decide +kernel
theorem dX8_coast_34 : decode cX8_coast 34 = .ok (.invokestatic 98, 3) := by decide +kernel
theorem dX8_coast_37 : decode cX8_coast 37 = .ok (.aload_n 0, 1) := by decide +kernel
theorem dX8_coast_38 : decode cX8_coast 38 = .ok (.iconst 0, 1) := by decide +kernel
theorem dX8_coast_39 : decode cX8_coast 39 = .ok (.putfield 102, 3) := by decide +kernel
theorem dX8_coast_42 : decode cX8_coast 42 = .ok (.aload_n 0, 1) := by decide +kernel
theorem dX8_coast_43 : decode cX8_coast 43 = .ok (.getfield 23, 3) := by decide +kernel
theorem dX8_coast_46 : decode cX8_coast 46 = .ok (.iconst 2, 1) := by decide +kernel
theorem dX8_coast_47 : decode cX8_coast 47 = .ok (.iaload, 1) := by decide +kernel
theorem dX8_coast_48 : decode cX8_coast 48 = .ok (.ireturn, 1) := by decide +kernel
theorem dX8_person_0 : decode cX8_person 0 = .ok (.aload_n 0, 1) := by decide +kernel
theorem dX8_person_1 : decode cX8_person 1 = .ok (.iload_n 1, 1) := by decide +kernel
theorem dX8_person_2 : decode cX8_person 2 = .ok (.invokevirtual 105, 3) := by decide +kernel
theorem dX8_person_5 : decode cX8_person 5 = .ok (.ifCond .eq 13, 3) := by decide +kernel
theorem dX8_person_8 : decode cX8_person 8 = .ok (.iload_n 2, 1) := by decide +kernel
theorem dX8_person_9 : decode cX8_person 9 = .ok (.iconst 0, 1) := by decide +kernel
theorem dX8_person_10 : decode cX8_person 10 = .ok (.bipush 7, 2) := by decide +kernel
theorem dX8_person_12 : decode cX8_person 12 = .ok (.invokestatic 57, 3) := by decide +kernel
theorem dX8_person_15 : decode cX8_person 15 = .ok (.ifCond .ne 5, 3) := by decide +kernel
theorem dX8_person_18 : decode cX8_person 18 = .ok (.iconst (-1), 1) := by decide +kernel
theorem dX8_person_19 : decode cX8_person 19 = .ok (.ireturn, 1) := by decide +kernel
theorem dX8_person_20 : decode cX8_person 20 = .ok (.aload_n 0, 1) := by decide +kernel
theorem dX8_person_21 : decode cX8_person 21 = .ok (.getfield 23, 3) := by decide +kernel
theorem dX8_person_24 : decode cX8_person 24 = .ok (.iconst 3, 1) := by decide +kernel
theorem dX8_person_25 : decode cX8_person 25 = .ok (.bipush 6, 2) := by decide +kernel
theorem dX8_person_27 : decode cX8_person 27 = .ok (.iload_n 2, 1) := by decide +kernel
theorem dX8_person_28 : decode cX8_person 28 = .ok (.imul, 1) := by decide +kernel
theorem dX8_person_29 : decode cX8_person 29 = .ok (.iadd, 1) := by decide +kernel
theorem dX8_person_30 : decode cX8_person 30 = .ok (.iload_n 1, 1) := by decide +kernel
theorem dX8_person_31 : decode cX8_person 31 = .ok (.iadd, 1) := by decide +kernel
theorem dX8_person_32 : decode cX8_person 32 = .ok (.iaload, 1) := by decide +kernel
theorem dX8_person_33 : decode cX8_person 33 = .ok (.ireturn, 1) := by decide +kernel
theorem dX8_as_0 : decode cX8_as 0 = .ok (.aload_n 0, 1) := by decide +kernel
theorem dX8_as_1 : decode cX8_as 1 = .ok (.iload_n 1, 1) := by decide +kernel
theorem dX8_as_2 : decode cX8_as 2 = .ok (.invokevirtual 105, 3) := by decide +kernel
theorem dX8_as_5 : decode cX8_as 5 = .ok (.ifCond .eq 12, 3) := by decide +kernel
theorem dX8_as_8 : decode cX8_as 8 = .ok (.iload_n 2, 1) := by decide +kernel
theorem dX8_as_9 : decode cX8_as 9 = .ok (.iconst 0, 1) := by decide +kernel
theorem dX8_as_10 : decode cX8_as 10 = .ok (.iconst 5, 1) := by decide +kernel
theorem dX8_as_11 : decode cX8_as 11 = .ok (.invokestatic 57, 3) := by decide +kernel
theorem dX8_as_14 : decode cX8_as 14 = .ok (.ifCond .ne 5, 3) := by decide +kernel
theorem dX8_as_17 : decode cX8_as 17 = .ok (.iconst (-1), 1) := by decide +kernel
theorem dX8_as_18 : decode cX8_as 18 = .ok (.ireturn, 1) := by decide +kernel
theorem dX8_as_19 : decode cX8_as 19 = .ok (.aload_n 0, 1) := by decide +kernel
theorem dX8_as_20 : decode cX8_as 20 = .ok (.getfield 23, 3) := by decide +kernel
theorem dX8_as_23 : decode cX8_as 23 = .ok (.iconst 3, 1) := by decide +kernel
theorem dX8_as_24 : decode cX8_as 24 = .ok (.iload_n 1, 1) := by decide +kernel
theorem dX8_as_25 : decode cX8_as 25 = .ok (.iadd, 1) := by decide +kernel
theorem dX8_as_26 : decode cX8_as 26 = .ok (.iaload, 1) := by decide +kernel
theorem dX8_as_27 : decode cX8_as 27 = .ok (.istore_n 3, 1) := by decide +kernel
theorem dX8_as_28 : decode cX8_as 28 = .ok (.iload_n 2, 1) := by decide +kernel
theorem dX8_as_29 : decode cX8_as 29 = .ok (.iconst 1, 1) := by decide +kernel
theorem dX8_as_30 : decode cX8_as 30 = .ok (.if_icmp .ne 12, 3) := by decide +kernel
theorem dX8_as_33 : decode cX8_as 33 = .ok (.iload_n 3, 1) := by decide +kernel
theorem dX8_as_34 : decode cX8_as 34 = .ok (.iconst 4, 1) := by decide +kernel
theorem dX8_as_35 : decode cX8_as 35 = .ok (.if_icmp .eq 7, 3) := by decide +kernel
theorem dX8_as_38 : decode cX8_as 38 = .ok (.iconst 1, 1) := by decide +kernel
theorem dX8_as_39 : decode cX8_as 39 = .ok (.goto 4, 3) := by decide +kernel
theorem dX8_as_42 : decode cX8_as 42 = .ok (.iconst 0, 1) := by decide +kernel
theorem dX8_as_43 : decode cX8_as 43 = .ok (.istore 4, 2) := by decide +kernel
theorem dX8_as_45 : decode cX8_as 45 = .ok (.iload_n 2, 1) := by decide +kernel
theorem dX8_as_46 : decode cX8_as 46 = .ok (.iconst 2, 1) := by decide +kernel
theorem dX8_as_47 : decode cX8_as 47 = .ok (.if_icmp .ne 12, 3) := by decide +kernel
theorem dX8_as_50 : decode cX8_as 50 = .ok (.iload_n 3, 1) := by decide +kernel
theorem dX8_as_51 : decode cX8_as 51 = .ok (.iconst 5, 1) := by decide +kernel
theorem dX8_as_52 : decode cX8_as 52 = .ok (.if_icmp .ne 7, 3) := by decide +kernel
theorem dX8_as_55 : decode cX8_as 55 = .ok (.iconst 1, 1) := by decide +kernel
theorem dX8_as_56 : decode cX8_as 56 = .ok (.goto 4, 3) := by decide +kernel
theorem dX8_as_59 : decode cX8_as 59 = .ok (.iconst 0, 1) := by decide +kernel
theorem dX8_as_60 : decode cX8_as 60 = .ok (.istore 5, 2) := by decide +kernel
theorem dX8_as_62 : decode cX8_as 62 = .ok (.iload_n 2, 1) := by decide +kernel
theorem dX8_as_63 : decode cX8_as 63 = .ok (.ifCond .eq 18, 3) := by decide +kernel
theorem dX8_as_66 : decode cX8_as 66 = .ok (.iload_n 2, 1) := by decide +kernel
theorem dX8_as_67 : decode cX8_as 67 = .ok (.iload_n 3, 1) := by decide +kernel
theorem dX8_as_68 : decode cX8_as 68 = .ok (.if_icmp .eq 13, 3) := by decide +kernel
theorem dX8_as_71 : decode cX8_as 71 = .ok (.iload 4, 2) := by decide +kernel
theorem dX8_as_73 : decode cX8_as 73 = .ok (.ifCond .ne 8, 3) := by decide +kernel
theorem dX8_as_76 : decode cX8_as 76 = .ok (.iload 5, 2) := by decide +kernel
theorem dX8_as_78 : decode cX8_as 78 = .ok (.ifCond .eq 7, 3) := by decide +kernel
theorem dX8_as_81 : decode cX8_as 81 = .ok (.iload_n 1, 1) := by decide +kernel
theorem dX8_as_82 : decode cX8_as 82 = .ok (.goto 5, 3) := by decide +kernel
theorem dX8_as_85 : decode cX8_as 85 = .ok (.bipush (-12), 2) := by decide +kernel
theorem dX8_as_87 : decode cX8_as 87 = .ok (.ireturn, 1) := by decide +kernel
theorem dX8_needOf_0 : decode cX8_needOf 0 = .ok (.aload_n 0, 1) := by decide +kernel
theorem dX8_needOf_1 : decode cX8_needOf 1 = .ok (.bipush 67, 2) := by decide +kernel
theorem dX8_needOf_3 : decode cX8_needOf 3 = .ok (.iload_n 1, 1) := by decide +kernel
theorem dX8_needOf_4 : decode cX8_needOf 4 = .ok (.iadd, 1) := by decide +kernel
theorem dX8_needOf_5 : decode cX8_needOf 5 = .ok (.iaload, 1) := by decide +kernel
theorem dX8_needOf_6 : decode cX8_needOf 6 = .ok (.aload_n 0, 1) := by decide +kernel
theorem dX8_needOf_7 : decode cX8_needOf 7 = .ok (.bipush 15, 2) := by decide +kernel
theorem dX8_needOf_9 : decode cX8_needOf 9 = .ok (.aload_n 0, 1) := by decide +kernel
theorem dX8_needOf_10 : decode cX8_needOf 10 = .ok (.bipush 59, 2) := by decide +kernel
theorem dX8_needOf_12 : decode cX8_needOf 12 = .ok (.iload_n 1, 1) := by decide +kernel
theorem dX8_needOf_13 : decode cX8_needOf 13 = .ok (.iadd, 1) := by decide +kernel
theorem dX8_needOf_14 : decode cX8_needOf 14 = .ok (.iaload, 1) := by decide +kernel
theorem dX8_needOf_15 : decode cX8_needOf 15 = .ok (.iadd, 1) := by decide +kernel
theorem dX8_needOf_16 : decode cX8_needOf 16 = .ok (.iaload, 1) := by decide +kernel
theorem dX8_needOf_17 : decode cX8_needOf 17 = .ok (.iconst 2, 1) := by decide +kernel
theorem dX8_needOf_18 : decode cX8_needOf 18 = .ok (.idiv, 1) := by decide +kernel
theorem dX8_needOf_19 : decode cX8_needOf 19 = .ok (.iadd, 1) := by decide +kernel
theorem dX8_needOf_20 : decode cX8_needOf 20 = .ok (.ireturn, 1) := by decide +kernel
theorem dX8_wrong_0 : decode cX8_wrong 0 = .ok (.aload_n 0, 1) := by decide +kernel
theorem dX8_wrong_1 : decode cX8_wrong 1 = .ok (.iload_n 1, 1) := by decide +kernel
theorem dX8_wrong_2 : decode cX8_wrong 2 = .ok (.invokevirtual 108, 3) := by decide +kernel
theorem dX8_wrong_5 : decode cX8_wrong 5 = .ok (.ifCond .ne 5, 3) := by decide +kernel
theorem dX8_wrong_8 : decode cX8_wrong 8 = .ok (.iconst (-1), 1) := by decide +kernel
theorem dX8_wrong_9 : decode cX8_wrong 9 = .ok (.ireturn, 1) := by decide +kernel
theorem dX8_wrong_10 : decode cX8_wrong 10 = .ok (.iload_n 2, 1) := by decide +kernel
theorem dX8_wrong_11 : decode cX8_wrong 11 = .ok (.tableswitch 82 0 4 #[33, 43, 53, 63, 73], 33) := by decide +kernel
theorem dX8_wrong_44 : decode cX8_wrong 44 = .ok (.aload_n 0, 1) := by decide +kernel
theorem dX8_wrong_45 : decode cX8_wrong 45 = .ok (.getfield 23, 3) := by decide +kernel
theorem dX8_wrong_48 : decode cX8_wrong 48 = .ok (.bipush 51, 2) := by decide +kernel
theorem dX8_wrong_50 : decode cX8_wrong 50 = .ok (.iload_n 1, 1) := by decide +kernel
theorem dX8_wrong_51 : decode cX8_wrong 51 = .ok (.iadd, 1) := by decide +kernel
theorem dX8_wrong_52 : decode cX8_wrong 52 = .ok (.iaload, 1) := by decide +kernel
theorem dX8_wrong_53 : decode cX8_wrong 53 = .ok (.ireturn, 1) := by decide +kernel
theorem dX8_wrong_54 : decode cX8_wrong 54 = .ok (.aload_n 0, 1) := by decide +kernel
theorem dX8_wrong_55 : decode cX8_wrong 55 = .ok (.getfield 23, 3) := by decide +kernel
theorem dX8_wrong_58 : decode cX8_wrong 58 = .ok (.bipush 59, 2) := by decide +kernel
theorem dX8_wrong_60 : decode cX8_wrong 60 = .ok (.iload_n 1, 1) := by decide +kernel
theorem dX8_wrong_61 : decode cX8_wrong 61 = .ok (.iadd, 1) := by decide +kernel
theorem dX8_wrong_62 : decode cX8_wrong 62 = .ok (.iaload, 1) := by decide +kernel
theorem dX8_wrong_63 : decode cX8_wrong 63 = .ok (.ireturn, 1) := by decide +kernel
theorem dX8_wrong_64 : decode cX8_wrong 64 = .ok (.aload_n 0, 1) := by decide +kernel
theorem dX8_wrong_65 : decode cX8_wrong 65 = .ok (.getfield 23, 3) := by decide +kernel
theorem dX8_wrong_68 : decode cX8_wrong 68 = .ok (.bipush 67, 2) := by decide +kernel
theorem dX8_wrong_70 : decode cX8_wrong 70 = .ok (.iload_n 1, 1) := by decide +kernel
theorem dX8_wrong_71 : decode cX8_wrong 71 = .ok (.iadd, 1) := by decide +kernel
theorem dX8_wrong_72 : decode cX8_wrong 72 = .ok (.iaload, 1) := by decide +kernel
theorem dX8_wrong_73 : decode cX8_wrong 73 = .ok (.ireturn, 1) := by decide +kernel
theorem dX8_wrong_74 : decode cX8_wrong 74 = .ok (.aload_n 0, 1) := by decide +kernel
theorem dX8_wrong_75 : decode cX8_wrong 75 = .ok (.getfield 23, 3) := by decide +kernel
theorem dX8_wrong_78 : decode cX8_wrong 78 = .ok (.bipush 75, 2) := by decide +kernel
theorem dX8_wrong_80 : decode cX8_wrong 80 = .ok (.iload_n 1, 1) := by decide +kernel
theorem dX8_wrong_81 : decode cX8_wrong 81 = .ok (.iadd, 1) := by decide +kernel
theorem dX8_wrong_82 : decode cX8_wrong 82 = .ok (.iaload, 1) := by decide +kernel
theorem dX8_wrong_83 : decode cX8_wrong 83 = .ok (.ireturn, 1) := by decide +kernel
theorem dX8_wrong_84 : decode cX8_wrong 84 = .ok (.aload_n 0, 1) := by decide +kernel
theorem dX8_wrong_85 : decode cX8_wrong 85 = .ok (.getfield 23, 3) := by decide +kernel
theorem dX8_wrong_88 : decode cX8_wrong 88 = .ok (.iload_n 1, 1) := by decide +kernel
theorem dX8_wrong_89 : decode cX8_wrong 89 = .ok (.invokestatic 111, 3) := by decide +kernel
theorem dX8_wrong_92 : decode cX8_wrong 92 = .ok (.ireturn, 1) := by decide +kernel
theorem dX8_wrong_93 : decode cX8_wrong 93 = .ok (.iconst (-1), 1) := by decide +kernel
theorem dX8_wrong_94 : decode cX8_wrong 94 = .ok (.ireturn, 1) := by decide +kernel
theorem dX8_milesOf_0 : decode cX8_milesOf 0 = .ok (.iload_n 0, 1) := by decide +kernel
theorem dX8_milesOf_1 : decode cX8_milesOf 1 = .ok (.iload_n 1, 1) := by decide +kernel
theorem dX8_milesOf_2 : decode cX8_milesOf 2 = .ok (.if_icmp .le 9, 3) := by decide +kernel
theorem dX8_milesOf_5 : decode cX8_milesOf 5 = .ok (.iload_n 0, 1) := by decide +kernel
theorem dX8_milesOf_6 : decode cX8_milesOf 6 = .ok (.iload_n 1, 1) := by decide +kernel
theorem dX8_milesOf_7 : decode cX8_milesOf 7 = .ok (.isub, 1) := by decide +kernel
theorem dX8_milesOf_8 : decode cX8_milesOf 8 = .ok (.goto 6, 3) := by decide +kernel
theorem dX8_milesOf_11 : decode cX8_milesOf 11 = .ok (.iload_n 1, 1) := by decide +kernel
theorem dX8_milesOf_12 : decode cX8_milesOf 12 = .ok (.iload_n 0, 1) := by decide +kernel
theorem dX8_milesOf_13 : decode cX8_milesOf 13 = .ok (.isub, 1) := by decide +kernel
theorem dX8_milesOf_14 : decode cX8_milesOf 14 = .ok (.ireturn, 1) := by decide +kernel
theorem dX8_isOverSands_0 : decode cX8_isOverSands 0 = .ok (.iload_n 0, 1) := by decide +kernel
theorem dX8_isOverSands_1 : decode cX8_isOverSands 1 = .ok (.iconst 5, 1) := by decide +kernel
theorem dX8_isOverSands_2 : decode cX8_isOverSands 2 = .ok (.if_icmp .ge 7, 3) := by decide +kernel
theorem dX8_isOverSands_5 : decode cX8_isOverSands 5 = .ok (.iconst 1, 1) := by decide +kernel
theorem dX8_isOverSands_6 : decode cX8_isOverSands 6 = .ok (.goto 4, 3) := by decide +kernel
theorem dX8_isOverSands_9 : decode cX8_isOverSands 9 = .ok (.iconst 0, 1) := by decide +kernel
theorem dX8_isOverSands_10 : decode cX8_isOverSands 10 = .ok (.iload_n 1, 1) := by decide +kernel
theorem dX8_isOverSands_11 : decode cX8_isOverSands 11 = .ok (.iconst 5, 1) := by decide +kernel
theorem dX8_isOverSands_12 : decode cX8_isOverSands 12 = .ok (.if_icmp .ge 7, 3) := by decide +kernel
theorem dX8_isOverSands_15 : decode cX8_isOverSands 15 = .ok (.iconst 1, 1) := by decide +kernel
theorem dX8_isOverSands_16 : decode cX8_isOverSands 16 = .ok (.goto 4, 3) := by decide +kernel
theorem dX8_isOverSands_19 : decode cX8_isOverSands 19 = .ok (.iconst 0, 1) := by decide +kernel
theorem dX8_isOverSands_20 : decode cX8_isOverSands 20 = .ok (.if_icmp .eq 7, 3) := by decide +kernel
theorem dX8_isOverSands_23 : decode cX8_isOverSands 23 = .ok (.iconst 1, 1) := by decide +kernel
theorem dX8_isOverSands_24 : decode cX8_isOverSands 24 = .ok (.goto 4, 3) := by decide +kernel
theorem dX8_isOverSands_27 : decode cX8_isOverSands 27 = .ok (.iconst 0, 1) := by decide +kernel
theorem dX8_isOverSands_28 : decode cX8_isOverSands 28 = .ok (.ireturn, 1) := by decide +kernel
theorem dX8_isMay_0 : decode cX8_isMay 0 = .ok (.aload_n 0, 1) := by decide +kernel
theorem dX8_isMay_1 : decode cX8_isMay 1 = .ok (.bipush 75, 2) := by decide +kernel
theorem dX8_isMay_3 : decode cX8_isMay 3 = .ok (.iload_n 1, 1) := by decide +kernel
theorem dX8_isMay_4 : decode cX8_isMay 4 = .ok (.iadd, 1) := by decide +kernel
theorem dX8_isMay_5 : decode cX8_isMay 5 = .ok (.iaload, 1) := by decide +kernel
theorem dX8_isMay_6 : decode cX8_isMay 6 = .ok (.bipush (-4), 2) := by decide +kernel
theorem dX8_isMay_8 : decode cX8_isMay 8 = .ok (.if_icmp .ne 7, 3) := by decide +kernel
theorem dX8_isMay_11 : decode cX8_isMay 11 = .ok (.iconst 1, 1) := by decide +kernel
theorem dX8_isMay_12 : decode cX8_isMay 12 = .ok (.goto 4, 3) := by decide +kernel
theorem dX8_isMay_15 : decode cX8_isMay 15 = .ok (.iconst 0, 1) := by decide +kernel
theorem dX8_isMay_16 : decode cX8_isMay 16 = .ok (.istore_n 3, 1) := by decide +kernel
theorem dX8_isMay_17 : decode cX8_isMay 17 = .ok (.aload_n 0, 1) := by decide +kernel
theorem dX8_isMay_18 : decode cX8_isMay 18 = .ok (.iconst 0, 1) := by decide +kernel
theorem dX8_isMay_19 : decode cX8_isMay 19 = .ok (.iaload, 1) := by decide +kernel
theorem dX8_isMay_20 : decode cX8_isMay 20 = .ok (.iconst 2, 1) := by decide +kernel
theorem dX8_isMay_21 : decode cX8_isMay 21 = .ok (.irem, 1) := by decide +kernel
theorem dX8_isMay_22 : decode cX8_isMay 22 = .ok (.ifCond .eq 26, 3) := by decide +kernel
theorem dX8_isMay_25 : decode cX8_isMay 25 = .ok (.aload_n 0, 1) := by decide +kernel
theorem dX8_isMay_26 : decode cX8_isMay 26 = .ok (.bipush 27, 2) := by decide +kernel
theorem dX8_isMay_28 : decode cX8_isMay 28 = .ok (.iload_n 2, 1) := by decide +kernel
theorem dX8_isMay_29 : decode cX8_isMay 29 = .ok (.iadd, 1) := by decide +kernel
theorem dX8_isMay_30 : decode cX8_isMay 30 = .ok (.iaload, 1) := by decide +kernel
theorem dX8_isMay_31 : decode cX8_isMay 31 = .ok (.aload_n 0, 1) := by decide +kernel
theorem dX8_isMay_32 : decode cX8_isMay 32 = .ok (.bipush 21, 2) := by decide +kernel
theorem dX8_isMay_34 : decode cX8_isMay 34 = .ok (.aload_n 0, 1) := by decide +kernel
theorem dX8_isMay_35 : decode cX8_isMay 35 = .ok (.bipush 59, 2) := by decide +kernel
theorem dX8_isMay_37 : decode cX8_isMay 37 = .ok (.iload_n 1, 1) := by decide +kernel
theorem dX8_isMay_38 : decode cX8_isMay 38 = .ok (.iadd, 1) := by decide +kernel
theorem dX8_isMay_39 : decode cX8_isMay 39 = .ok (.iaload, 1) := by decide +kernel
theorem dX8_isMay_40 : decode cX8_isMay 40 = .ok (.iadd, 1) := by decide +kernel
theorem dX8_isMay_41 : decode cX8_isMay 41 = .ok (.iaload, 1) := by decide +kernel
theorem dX8_isMay_42 : decode cX8_isMay 42 = .ok (.invokestatic 115, 3) := by decide +kernel
theorem dX8_isMay_45 : decode cX8_isMay 45 = .ok (.ifCond .ne 7, 3) := by decide +kernel
theorem dX8_isMay_48 : decode cX8_isMay 48 = .ok (.iconst 1, 1) := by decide +kernel
theorem dX8_isMay_49 : decode cX8_isMay 49 = .ok (.goto 4, 3) := by decide +kernel
theorem dX8_isMay_52 : decode cX8_isMay 52 = .ok (.iconst 0, 1) := by decide +kernel
theorem dX8_isMay_53 : decode cX8_isMay 53 = .ok (.istore 4, 2) := by decide +kernel
theorem dX8_isMay_55 : decode cX8_isMay 55 = .ok (.iload_n 3, 1) := by decide +kernel
theorem dX8_isMay_56 : decode cX8_isMay 56 = .ok (.ifCond .eq 37, 3) := by decide +kernel
theorem dX8_isMay_59 : decode cX8_isMay 59 = .ok (.aload_n 0, 1) := by decide +kernel
theorem dX8_isMay_60 : decode cX8_isMay 60 = .ok (.bipush 33, 2) := by decide +kernel
theorem dX8_isMay_62 : decode cX8_isMay 62 = .ok (.iload_n 2, 1) := by decide +kernel
theorem dX8_isMay_63 : decode cX8_isMay 63 = .ok (.iadd, 1) := by decide +kernel
theorem dX8_isMay_64 : decode cX8_isMay 64 = .ok (.iaload, 1) := by decide +kernel
theorem dX8_isMay_65 : decode cX8_isMay 65 = .ok (.aload_n 0, 1) := by decide +kernel
theorem dX8_isMay_66 : decode cX8_isMay 66 = .ok (.bipush 51, 2) := by decide +kernel
theorem dX8_isMay_68 : decode cX8_isMay 68 = .ok (.iload_n 1, 1) := by decide +kernel
theorem dX8_isMay_69 : decode cX8_isMay 69 = .ok (.iadd, 1) := by decide +kernel
theorem dX8_isMay_70 : decode cX8_isMay 70 = .ok (.iaload, 1) := by decide +kernel
theorem dX8_isMay_71 : decode cX8_isMay 71 = .ok (.if_icmp .ne 22, 3) := by decide +kernel
theorem dX8_isMay_74 : decode cX8_isMay 74 = .ok (.iload_n 2, 1) := by decide +kernel
theorem dX8_isMay_75 : decode cX8_isMay 75 = .ok (.aload_n 0, 1) := by decide +kernel
theorem dX8_isMay_76 : decode cX8_isMay 76 = .ok (.bipush 59, 2) := by decide +kernel
theorem dX8_isMay_78 : decode cX8_isMay 78 = .ok (.iload_n 1, 1) := by decide +kernel
theorem dX8_isMay_79 : decode cX8_isMay 79 = .ok (.iadd, 1) := by decide +kernel
theorem dX8_isMay_80 : decode cX8_isMay 80 = .ok (.iaload, 1) := by decide +kernel
theorem dX8_isMay_81 : decode cX8_isMay 81 = .ok (.if_icmp .eq 12, 3) := by decide +kernel
theorem dX8_isMay_84 : decode cX8_isMay 84 = .ok (.iload 4, 2) := by decide +kernel
theorem dX8_isMay_86 : decode cX8_isMay 86 = .ok (.ifCond .eq 7, 3) := by decide +kernel
theorem dX8_isMay_89 : decode cX8_isMay 89 = .ok (.iconst 1, 1) := by decide +kernel
theorem dX8_isMay_90 : decode cX8_isMay 90 = .ok (.goto 4, 3) := by decide +kernel
theorem dX8_isMay_93 : decode cX8_isMay 93 = .ok (.iconst 0, 1) := by decide +kernel
theorem dX8_isMay_94 : decode cX8_isMay 94 = .ok (.ireturn, 1) := by decide +kernel
theorem dX8_saidBy_0 : decode cX8_saidBy 0 = .ok (.iload_n 0, 1) := by decide +kernel
theorem dX8_saidBy_1 : decode cX8_saidBy 1 = .ok (.tableswitch 45 1 4 #[31, 33, 37, 41], 31) := by decide +kernel
theorem dX8_saidBy_32 : decode cX8_saidBy 32 = .ok (.iload_n 1, 1) := by decide +kernel
theorem dX8_saidBy_33 : decode cX8_saidBy 33 = .ok (.ireturn, 1) := by decide +kernel
theorem dX8_saidBy_34 : decode cX8_saidBy 34 = .ok (.iload_n 1, 1) := by decide +kernel
theorem dX8_saidBy_35 : decode cX8_saidBy 35 = .ok (.iconst 2, 1) := by decide +kernel
theorem dX8_saidBy_36 : decode cX8_saidBy 36 = .ok (.iadd, 1) := by decide +kernel
theorem dX8_saidBy_37 : decode cX8_saidBy 37 = .ok (.ireturn, 1) := by decide +kernel
theorem dX8_saidBy_38 : decode cX8_saidBy 38 = .ok (.iload_n 1, 1) := by decide +kernel
theorem dX8_saidBy_39 : decode cX8_saidBy 39 = .ok (.iconst 2, 1) := by decide +kernel
theorem dX8_saidBy_40 : decode cX8_saidBy 40 = .ok (.idiv, 1) := by decide +kernel
theorem dX8_saidBy_41 : decode cX8_saidBy 41 = .ok (.ireturn, 1) := by decide +kernel
theorem dX8_saidBy_42 : decode cX8_saidBy 42 = .ok (.iload_n 2, 1) := by decide +kernel
theorem dX8_saidBy_43 : decode cX8_saidBy 43 = .ok (.iconst 2, 1) := by decide +kernel
theorem dX8_saidBy_44 : decode cX8_saidBy 44 = .ok (.iadd, 1) := by decide +kernel
theorem dX8_saidBy_45 : decode cX8_saidBy 45 = .ok (.ireturn, 1) := by decide +kernel
theorem dX8_saidBy_46 : decode cX8_saidBy 46 = .ok (.iload_n 1, 1) := by decide +kernel
theorem dX8_saidBy_47 : decode cX8_saidBy 47 = .ok (.iconst 2, 1) := by decide +kernel
theorem dX8_saidBy_48 : decode cX8_saidBy 48 = .ok (.iadd, 1) := by decide +kernel
theorem dX8_saidBy_49 : decode cX8_saidBy 49 = .ok (.iload_n 3, 1) := by decide +kernel
theorem dX8_saidBy_50 : decode cX8_saidBy 50 = .ok (.iconst 2, 1) := by decide +kernel
theorem dX8_saidBy_51 : decode cX8_saidBy 51 = .ok (.idiv, 1) := by decide +kernel
theorem dX8_saidBy_52 : decode cX8_saidBy 52 = .ok (.iadd, 1) := by decide +kernel
theorem dX8_saidBy_53 : decode cX8_saidBy 53 = .ok (.ireturn, 1) := by decide +kernel
theorem dX8_saidOf_0 : decode cX8_saidOf 0 = .ok (.aload_n 0, 1) := by decide +kernel
theorem dX8_saidOf_1 : decode cX8_saidOf 1 = .ok (.iconst 3, 1) := by decide +kernel
theorem dX8_saidOf_2 : decode cX8_saidOf 2 = .ok (.iload_n 2, 1) := by decide +kernel
theorem dX8_saidOf_3 : decode cX8_saidOf 3 = .ok (.iadd, 1) := by decide +kernel
theorem dX8_saidOf_4 : decode cX8_saidOf 4 = .ok (.iaload, 1) := by decide +kernel
theorem dX8_saidOf_5 : decode cX8_saidOf 5 = .ok (.aload_n 0, 1) := by decide +kernel
theorem dX8_saidOf_6 : decode cX8_saidOf 6 = .ok (.bipush 9, 2) := by decide +kernel
theorem dX8_saidOf_8 : decode cX8_saidOf 8 = .ok (.iload_n 2, 1) := by decide +kernel
theorem dX8_saidOf_9 : decode cX8_saidOf 9 = .ok (.iadd, 1) := by decide +kernel
theorem dX8_saidOf_10 : decode cX8_saidOf 10 = .ok (.iaload, 1) := by decide +kernel
theorem dX8_saidOf_11 : decode cX8_saidOf 11 = .ok (.aload_n 0, 1) := by decide +kernel
theorem dX8_saidOf_12 : decode cX8_saidOf 12 = .ok (.bipush 39, 2) := by decide +kernel
theorem dX8_saidOf_14 : decode cX8_saidOf 14 = .ok (.iload_n 2, 1) := by decide +kernel
theorem dX8_saidOf_15 : decode cX8_saidOf 15 = .ok (.iadd, 1) := by decide +kernel
theorem dX8_saidOf_16 : decode cX8_saidOf 16 = .ok (.iaload, 1) := by decide +kernel
theorem dX8_saidOf_17 : decode cX8_saidOf 17 = .ok (.aload_n 0, 1) := by decide +kernel
theorem dX8_saidOf_18 : decode cX8_saidOf 18 = .ok (.bipush 27, 2) := by decide +kernel
theorem dX8_saidOf_20 : decode cX8_saidOf 20 = .ok (.iload_n 2, 1) := by decide +kernel
theorem dX8_saidOf_21 : decode cX8_saidOf 21 = .ok (.iadd, 1) := by decide +kernel
theorem dX8_saidOf_22 : decode cX8_saidOf 22 = .ok (.iaload, 1) := by decide +kernel
theorem dX8_saidOf_23 : decode cX8_saidOf 23 = .ok (.aload_n 0, 1) := by decide +kernel
theorem dX8_saidOf_24 : decode cX8_saidOf 24 = .ok (.bipush 21, 2) := by decide +kernel
theorem dX8_saidOf_26 : decode cX8_saidOf 26 = .ok (.aload_n 0, 1) := by decide +kernel
theorem dX8_saidOf_27 : decode cX8_saidOf 27 = .ok (.bipush 59, 2) := by decide +kernel
theorem dX8_saidOf_29 : decode cX8_saidOf 29 = .ok (.iload_n 1, 1) := by decide +kernel
theorem dX8_saidOf_30 : decode cX8_saidOf 30 = .ok (.iadd, 1) := by decide +kernel
theorem dX8_saidOf_31 : decode cX8_saidOf 31 = .ok (.iaload, 1) := by decide +kernel
theorem dX8_saidOf_32 : decode cX8_saidOf 32 = .ok (.iadd, 1) := by decide +kernel
theorem dX8_saidOf_33 : decode cX8_saidOf 33 = .ok (.iaload, 1) := by decide +kernel
theorem dX8_saidOf_34 : decode cX8_saidOf 34 = .ok (.invokestatic 119, 3) := by decide +kernel
theorem dX8_saidOf_37 : decode cX8_saidOf 37 = .ok (.invokestatic 123, 3) := by decide +kernel
theorem dX8_saidOf_40 : decode cX8_saidOf 40 = .ok (.ireturn, 1) := by decide +kernel
theorem dX8_stings_0 : decode cX8_stings 0 = .ok (.iload_n 0, 1) := by decide +kernel
theorem dX8_stings_1 : decode cX8_stings 1 = .ok (.iconst 1, 1) := by decide +kernel
theorem dX8_stings_2 : decode cX8_stings 2 = .ok (.if_icmp .eq 8, 3) := by decide +kernel
theorem dX8_stings_5 : decode cX8_stings 5 = .ok (.iload_n 0, 1) := by decide +kernel
theorem dX8_stings_6 : decode cX8_stings 6 = .ok (.iconst 2, 1) := by decide +kernel
theorem dX8_stings_7 : decode cX8_stings 7 = .ok (.if_icmp .ne 7, 3) := by decide +kernel
theorem dX8_stings_10 : decode cX8_stings 10 = .ok (.iconst 1, 1) := by decide +kernel
theorem dX8_stings_11 : decode cX8_stings 11 = .ok (.goto 13, 3) := by decide +kernel
theorem dX8_stings_14 : decode cX8_stings 14 = .ok (.iload_n 0, 1) := by decide +kernel
theorem dX8_stings_15 : decode cX8_stings 15 = .ok (.iconst 3, 1) := by decide +kernel
theorem dX8_stings_16 : decode cX8_stings 16 = .ok (.if_icmp .ne 7, 3) := by decide +kernel
theorem dX8_stings_19 : decode cX8_stings 19 = .ok (.iconst 2, 1) := by decide +kernel
theorem dX8_stings_20 : decode cX8_stings 20 = .ok (.goto 4, 3) := by decide +kernel
theorem dX8_stings_23 : decode cX8_stings 23 = .ok (.iconst 0, 1) := by decide +kernel
theorem dX8_stings_24 : decode cX8_stings 24 = .ok (.ireturn, 1) := by decide +kernel
theorem dX8_comesOf_0 : decode cX8_comesOf 0 = .ok (.aload_n 0, 1) := by decide +kernel
theorem dX8_comesOf_1 : decode cX8_comesOf 1 = .ok (.iload_n 1, 1) := by decide +kernel
theorem dX8_comesOf_2 : decode cX8_comesOf 2 = .ok (.iload_n 2, 1) := by decide +kernel
theorem dX8_comesOf_3 : decode cX8_comesOf 3 = .ok (.invokestatic 127, 3) := by decide +kernel
theorem dX8_comesOf_6 : decode cX8_comesOf 6 = .ok (.istore_n 3, 1) := by decide +kernel
theorem dX8_comesOf_7 : decode cX8_comesOf 7 = .ok (.aload_n 0, 1) := by decide +kernel
theorem dX8_comesOf_8 : decode cX8_comesOf 8 = .ok (.iload_n 1, 1) := by decide +kernel
theorem dX8_comesOf_9 : decode cX8_comesOf 9 = .ok (.invokestatic 111, 3) := by decide +kernel
theorem dX8_comesOf_12 : decode cX8_comesOf 12 = .ok (.istore 4, 2) := by decide +kernel
theorem dX8_comesOf_14 : decode cX8_comesOf 14 = .ok (.iload_n 3, 1) := by decide +kernel
theorem dX8_comesOf_15 : decode cX8_comesOf 15 = .ok (.iload 4, 2) := by decide +kernel
theorem dX8_comesOf_17 : decode cX8_comesOf 17 = .ok (.if_icmp .ge 7, 3) := by decide +kernel
theorem dX8_comesOf_20 : decode cX8_comesOf 20 = .ok (.iconst 0, 1) := by decide +kernel
theorem dX8_comesOf_21 : decode cX8_comesOf 21 = .ok (.goto 32, 3) := by decide +kernel
theorem dX8_comesOf_24 : decode cX8_comesOf 24 = .ok (.iload_n 3, 1) := by decide +kernel
theorem dX8_comesOf_25 : decode cX8_comesOf 25 = .ok (.iload 4, 2) := by decide +kernel
theorem dX8_comesOf_27 : decode cX8_comesOf 27 = .ok (.iconst 4, 1) := by decide +kernel
theorem dX8_comesOf_28 : decode cX8_comesOf 28 = .ok (.iadd, 1) := by decide +kernel
theorem dX8_comesOf_29 : decode cX8_comesOf 29 = .ok (.if_icmp .lt 23, 3) := by decide +kernel
theorem dX8_comesOf_32 : decode cX8_comesOf 32 = .ok (.aload_n 0, 1) := by decide +kernel
theorem dX8_comesOf_33 : decode cX8_comesOf 33 = .ok (.bipush 45, 2) := by decide +kernel
theorem dX8_comesOf_35 : decode cX8_comesOf 35 = .ok (.aload_n 0, 1) := by decide +kernel
theorem dX8_comesOf_36 : decode cX8_comesOf 36 = .ok (.bipush 59, 2) := by decide +kernel
theorem dX8_comesOf_38 : decode cX8_comesOf 38 = .ok (.iload_n 1, 1) := by decide +kernel
theorem dX8_comesOf_39 : decode cX8_comesOf 39 = .ok (.iadd, 1) := by decide +kernel
theorem dX8_comesOf_40 : decode cX8_comesOf 40 = .ok (.iaload, 1) := by decide +kernel
theorem dX8_comesOf_41 : decode cX8_comesOf 41 = .ok (.iadd, 1) := by decide +kernel
theorem dX8_comesOf_42 : decode cX8_comesOf 42 = .ok (.iaload, 1) := by decide +kernel
theorem dX8_comesOf_43 : decode cX8_comesOf 43 = .ok (.bipush (-4), 2) := by decide +kernel
theorem dX8_comesOf_45 : decode cX8_comesOf 45 = .ok (.if_icmp .ne 7, 3) := by decide +kernel
theorem dX8_comesOf_48 : decode cX8_comesOf 48 = .ok (.iconst 2, 1) := by decide +kernel
theorem dX8_comesOf_49 : decode cX8_comesOf 49 = .ok (.goto 4, 3) := by decide +kernel
theorem dX8_comesOf_52 : decode cX8_comesOf 52 = .ok (.iconst 1, 1) := by decide +kernel
theorem dX8_comesOf_53 : decode cX8_comesOf 53 = .ok (.ireturn, 1) := by decide +kernel
theorem dX8_carries_0 : decode cX8_carries 0 = .ok (.aload_n 0, 1) := by decide +kernel
theorem dX8_carries_1 : decode cX8_carries 1 = .ok (.iload_n 1, 1) := by decide +kernel
theorem dX8_carries_2 : decode cX8_carries 2 = .ok (.iload_n 2, 1) := by decide +kernel
theorem dX8_carries_3 : decode cX8_carries 3 = .ok (.invokestatic 131, 3) := by decide +kernel
theorem dX8_carries_6 : decode cX8_carries 6 = .ok (.istore_n 3, 1) := by decide +kernel
theorem dX8_carries_7 : decode cX8_carries 7 = .ok (.aload_n 0, 1) := by decide +kernel
theorem dX8_carries_8 : decode cX8_carries 8 = .ok (.bipush 59, 2) := by decide +kernel
theorem dX8_carries_10 : decode cX8_carries 10 = .ok (.iload_n 1, 1) := by decide +kernel
theorem dX8_carries_11 : decode cX8_carries 11 = .ok (.iadd, 1) := by decide +kernel
theorem dX8_carries_12 : decode cX8_carries 12 = .ok (.iaload, 1) := by decide +kernel
theorem dX8_carries_13 : decode cX8_carries 13 = .ok (.istore 4, 2) := by decide +kernel
theorem dX8_carries_15 : decode cX8_carries 15 = .ok (.iload_n 3, 1) := by decide +kernel
theorem dX8_carries_16 : decode cX8_carries 16 = .ok (.ifCond .ne 43, 3) := by decide +kernel
theorem dX8_carries_19 : decode cX8_carries 19 = .ok (.aload_n 0, 1) := by decide +kernel
theorem dX8_carries_20 : decode cX8_carries 20 = .ok (.bipush 67, 2) := by decide +kernel
theorem dX8_carries_22 : decode cX8_carries 22 = .ok (.iload_n 1, 1) := by decide +kernel
theorem dX8_carries_23 : decode cX8_carries 23 = .ok (.iadd, 1) := by decide +kernel
theorem dX8_carries_24 : decode cX8_carries 24 = .ok (.iaload, 1) := by decide +kernel
theorem dX8_carries_25 : decode cX8_carries 25 = .ok (.aload_n 0, 1) := by decide +kernel
theorem dX8_carries_26 : decode cX8_carries 26 = .ok (.iconst 3, 1) := by decide +kernel
theorem dX8_carries_27 : decode cX8_carries 27 = .ok (.iload_n 2, 1) := by decide +kernel
theorem dX8_carries_28 : decode cX8_carries 28 = .ok (.iadd, 1) := by decide +kernel
theorem dX8_carries_29 : decode cX8_carries 29 = .ok (.iaload, 1) := by decide +kernel
theorem dX8_carries_30 : decode cX8_carries 30 = .ok (.invokestatic 134, 3) := by decide +kernel
theorem dX8_carries_33 : decode cX8_carries 33 = .ok (.iadd, 1) := by decide +kernel
theorem dX8_carries_34 : decode cX8_carries 34 = .ok (.istore 5, 2) := by decide +kernel
theorem dX8_carries_36 : decode cX8_carries 36 = .ok (.aload_n 0, 1) := by decide +kernel
theorem dX8_carries_37 : decode cX8_carries 37 = .ok (.bipush 67, 2) := by decide +kernel
theorem dX8_carries_39 : decode cX8_carries 39 = .ok (.iload_n 1, 1) := by decide +kernel
theorem dX8_carries_40 : decode cX8_carries 40 = .ok (.iadd, 1) := by decide +kernel
theorem dX8_carries_41 : decode cX8_carries 41 = .ok (.iload 5, 2) := by decide +kernel
theorem dX8_carries_43 : decode cX8_carries 43 = .ok (.bipush 9, 2) := by decide +kernel
theorem dX8_carries_45 : decode cX8_carries 45 = .ok (.if_icmp .le 8, 3) := by decide +kernel
theorem dX8_carries_48 : decode cX8_carries 48 = .ok (.bipush 9, 2) := by decide +kernel
theorem dX8_carries_50 : decode cX8_carries 50 = .ok (.goto 5, 3) := by decide +kernel
theorem dX8_carries_53 : decode cX8_carries 53 = .ok (.iload 5, 2) := by decide +kernel
theorem dX8_carries_55 : decode cX8_carries 55 = .ok (.iastore, 1) := by decide +kernel
theorem dX8_carries_56 : decode cX8_carries 56 = .ok (.goto 10, 3) := by decide +kernel
theorem dX8_carries_59 : decode cX8_carries 59 = .ok (.aload_n 0, 1) := by decide +kernel
theorem dX8_carries_60 : decode cX8_carries 60 = .ok (.bipush 75, 2) := by decide +kernel
theorem dX8_carries_62 : decode cX8_carries 62 = .ok (.iload_n 1, 1) := by decide +kernel
theorem dX8_carries_63 : decode cX8_carries 63 = .ok (.iadd, 1) := by decide +kernel
theorem dX8_carries_64 : decode cX8_carries 64 = .ok (.iload_n 2, 1) := by decide +kernel
theorem dX8_carries_65 : decode cX8_carries 65 = .ok (.iastore, 1) := by decide +kernel
theorem dX8_carries_66 : decode cX8_carries 66 = .ok (.iload_n 3, 1) := by decide +kernel
theorem dX8_carries_67 : decode cX8_carries 67 = .ok (.iconst 2, 1) := by decide +kernel
theorem dX8_carries_68 : decode cX8_carries 68 = .ok (.if_icmp .ne 19, 3) := by decide +kernel
theorem dX8_carries_71 : decode cX8_carries 71 = .ok (.aload_n 0, 1) := by decide +kernel
theorem dX8_carries_72 : decode cX8_carries 72 = .ok (.bipush 45, 2) := by decide +kernel
theorem dX8_carries_74 : decode cX8_carries 74 = .ok (.iload 4, 2) := by decide +kernel
theorem dX8_carries_76 : decode cX8_carries 76 = .ok (.iadd, 1) := by decide +kernel
theorem dX8_carries_77 : decode cX8_carries 77 = .ok (.iload_n 2, 1) := by decide +kernel
theorem dX8_carries_78 : decode cX8_carries 78 = .ok (.iastore, 1) := by decide +kernel
theorem dX8_carries_79 : decode cX8_carries 79 = .ok (.aload_n 0, 1) := by decide +kernel
theorem dX8_carries_80 : decode cX8_carries 80 = .ok (.bipush 33, 2) := by decide +kernel
theorem dX8_carries_82 : decode cX8_carries 82 = .ok (.iload_n 2, 1) := by decide +kernel
theorem dX8_carries_83 : decode cX8_carries 83 = .ok (.iadd, 1) := by decide +kernel
theorem dX8_carries_84 : decode cX8_carries 84 = .ok (.bipush (-4), 2) := by decide +kernel
theorem dX8_carries_86 : decode cX8_carries 86 = .ok (.iastore, 1) := by decide +kernel
theorem dX8_carries_87 : decode cX8_carries 87 = .ok (.aload_n 0, 1) := by decide +kernel
theorem dX8_carries_88 : decode cX8_carries 88 = .ok (.bipush 27, 2) := by decide +kernel
theorem dX8_carries_90 : decode cX8_carries 90 = .ok (.iload_n 2, 1) := by decide +kernel
theorem dX8_carries_91 : decode cX8_carries 91 = .ok (.iadd, 1) := by decide +kernel
theorem dX8_carries_92 : decode cX8_carries 92 = .ok (.aload_n 0, 1) := by decide +kernel
theorem dX8_carries_93 : decode cX8_carries 93 = .ok (.bipush 21, 2) := by decide +kernel
theorem dX8_carries_95 : decode cX8_carries 95 = .ok (.iload 4, 2) := by decide +kernel
theorem dX8_carries_97 : decode cX8_carries 97 = .ok (.iadd, 1) := by decide +kernel
theorem dX8_carries_98 : decode cX8_carries 98 = .ok (.iaload, 1) := by decide +kernel
theorem dX8_carries_99 : decode cX8_carries 99 = .ok (.iastore, 1) := by decide +kernel
theorem dX8_carries_100 : decode cX8_carries 100 = .ok (.aload_n 0, 1) := by decide +kernel
theorem dX8_carries_101 : decode cX8_carries 101 = .ok (.bipush 39, 2) := by decide +kernel
theorem dX8_carries_103 : decode cX8_carries 103 = .ok (.iload_n 2, 1) := by decide +kernel
theorem dX8_carries_104 : decode cX8_carries 104 = .ok (.iadd, 1) := by decide +kernel
theorem dX8_carries_105 : decode cX8_carries 105 = .ok (.dup2, 1) := by decide +kernel
theorem dX8_carries_106 : decode cX8_carries 106 = .ok (.iaload, 1) := by decide +kernel
theorem dX8_carries_107 : decode cX8_carries 107 = .ok (.iconst 1, 1) := by decide +kernel
theorem dX8_carries_108 : decode cX8_carries 108 = .ok (.iadd, 1) := by decide +kernel
theorem dX8_carries_109 : decode cX8_carries 109 = .ok (.iastore, 1) := by decide +kernel
theorem dX8_carries_110 : decode cX8_carries 110 = .ok (.aload_n 0, 1) := by decide +kernel
theorem dX8_carries_111 : decode cX8_carries 111 = .ok (.iconst 0, 1) := by decide +kernel
theorem dX8_carries_112 : decode cX8_carries 112 = .ok (.dup2, 1) := by decide +kernel
theorem dX8_carries_113 : decode cX8_carries 113 = .ok (.iaload, 1) := by decide +kernel
theorem dX8_carries_114 : decode cX8_carries 114 = .ok (.iconst 1, 1) := by decide +kernel
theorem dX8_carries_115 : decode cX8_carries 115 = .ok (.iadd, 1) := by decide +kernel
theorem dX8_carries_116 : decode cX8_carries 116 = .ok (.iastore, 1) := by decide +kernel
theorem dX8_carries_117 : decode cX8_carries 117 = .ok (.iload_n 3, 1) := by decide +kernel
theorem dX8_carries_118 : decode cX8_carries 118 = .ok (.ireturn, 1) := by decide +kernel
theorem dX8_note_0 : decode cX8_note 0 = .ok (.aload_n 0, 1) := by decide +kernel
theorem dX8_note_1 : decode cX8_note 1 = .ok (.getfield 102, 3) := by decide +kernel
theorem dX8_note_4 : decode cX8_note 4 = .ok (.bipush 24, 2) := by decide +kernel
theorem dX8_note_6 : decode cX8_note 6 = .ok (.if_icmp .ne 30, 3) := by decide +kernel
theorem dX8_note_9 : decode cX8_note 9 = .ok (.aload_n 0, 1) := by decide +kernel
theorem dX8_note_10 : decode cX8_note 10 = .ok (.getfield 39, 3) := by decide +kernel
theorem dX8_note_13 : decode cX8_note 13 = .ok (.bipush 83, 2) := by decide +kernel
theorem dX8_note_15 : decode cX8_note 15 = .ok (.aload_n 0, 1) := by decide +kernel
theorem dX8_note_16 : decode cX8_note 16 = .ok (.getfield 39, 3) := by decide +kernel
theorem dX8_note_19 : decode cX8_note 19 = .ok (.iconst 0, 1) := by decide +kernel
theorem dX8_note_20 : decode cX8_note 20 = .ok (.sipush 1909, 3) := by decide +kernel
theorem dX8_note_23 : decode cX8_note 23 = .ok (.invokestatic 98, 3) := by decide +kernel
theorem dX8_note_26 : decode cX8_note 26 = .ok (.aload_n 0, 1) := by decide +kernel
theorem dX8_note_27 : decode cX8_note 27 = .ok (.dup, 1) := by decide +kernel
theorem dX8_note_28 : decode cX8_note 28 = .ok (.getfield 102, 3) := by decide +kernel
theorem dX8_note_31 : decode cX8_note 31 = .ok (.iconst 1, 1) := by decide +kernel
theorem dX8_note_32 : decode cX8_note 32 = .ok (.isub, 1) := by decide +kernel
theorem dX8_note_33 : decode cX8_note 33 = .ok (.putfield 102, 3) := by decide +kernel
theorem dX8_note_36 : decode cX8_note 36 = .ok (.aload_n 0, 1) := by decide +kernel
theorem dX8_note_37 : decode cX8_note 37 = .ok (.getfield 23, 3) := by decide +kernel
theorem dX8_note_40 : decode cX8_note 40 = .ok (.iconst 0, 1) := by decide +kernel
theorem dX8_note_41 : decode cX8_note 41 = .ok (.aload_n 0, 1) := by decide +kernel
theorem dX8_note_42 : decode cX8_note 42 = .ok (.getfield 39, 3) := by decide +kernel
theorem dX8_note_45 : decode cX8_note 45 = .ok (.bipush 83, 2) := by decide +kernel
theorem dX8_note_47 : decode cX8_note 47 = .ok (.aload_n 0, 1) := by decide +kernel
theorem dX8_note_48 : decode cX8_note 48 = .ok (.getfield 102, 3) := by decide +kernel
theorem dX8_note_51 : decode cX8_note 51 = .ok (.imul, 1) := by decide +kernel
theorem dX8_note_52 : decode cX8_note 52 = .ok (.bipush 83, 2) := by decide +kernel
theorem dX8_note_54 : decode cX8_note 54 = .ok (.invokestatic 98, 3) := by decide +kernel
theorem dX8_note_57 : decode cX8_note 57 = .ok (.aload_n 0, 1) := by decide +kernel
theorem dX8_note_58 : decode cX8_note 58 = .ok (.dup, 1) := by decide +kernel
theorem dX8_note_59 : decode cX8_note 59 = .ok (.getfield 102, 3) := by decide +kernel
theorem dX8_note_62 : decode cX8_note 62 = .ok (.iconst 1, 1) := by decide +kernel
theorem dX8_note_63 : decode cX8_note 63 = .ok (.iadd, 1) := by decide +kernel
theorem dX8_note_64 : decode cX8_note 64 = .ok (.putfield 102, 3) := by decide +kernel
theorem dX8_note_67 : decode cX8_note 67 = .ok (.return_, 1) := by decide +kernel
theorem dX8_whyNot_0 : decode cX8_whyNot 0 = .ok (.aload_n 0, 1) := by decide +kernel
theorem dX8_whyNot_1 : decode cX8_whyNot 1 = .ok (.iload_n 1, 1) := by decide +kernel
theorem dX8_whyNot_2 : decode cX8_whyNot 2 = .ok (.invokevirtual 108, 3) := by decide +kernel
theorem dX8_whyNot_5 : decode cX8_whyNot 5 = .ok (.ifCond .eq 11, 3) := by decide +kernel
theorem dX8_whyNot_8 : decode cX8_whyNot 8 = .ok (.aload_n 0, 1) := by decide +kernel
theorem dX8_whyNot_9 : decode cX8_whyNot 9 = .ok (.iload_n 2, 1) := by decide +kernel
theorem dX8_whyNot_10 : decode cX8_whyNot 10 = .ok (.invokevirtual 105, 3) := by decide +kernel
theorem dX8_whyNot_13 : decode cX8_whyNot 13 = .ok (.ifCond .ne 7, 3) := by decide +kernel
theorem dX8_whyNot_16 : decode cX8_whyNot 16 = .ok (.iconst (-1), 1) := by decide +kernel
theorem dX8_whyNot_17 : decode cX8_whyNot 17 = .ok (.goto 21, 3) := by decide +kernel
theorem dX8_whyNot_20 : decode cX8_whyNot 20 = .ok (.aload_n 0, 1) := by decide +kernel
theorem dX8_whyNot_21 : decode cX8_whyNot 21 = .ok (.getfield 23, 3) := by decide +kernel
theorem dX8_whyNot_24 : decode cX8_whyNot 24 = .ok (.iload_n 1, 1) := by decide +kernel
theorem dX8_whyNot_25 : decode cX8_whyNot 25 = .ok (.iload_n 2, 1) := by decide +kernel
theorem dX8_whyNot_26 : decode cX8_whyNot 26 = .ok (.invokestatic 137, 3) := by decide +kernel
theorem dX8_whyNot_29 : decode cX8_whyNot 29 = .ok (.ifCond .eq 7, 3) := by decide +kernel
theorem dX8_whyNot_32 : decode cX8_whyNot 32 = .ok (.iconst 0, 1) := by decide +kernel
theorem dX8_whyNot_33 : decode cX8_whyNot 33 = .ok (.goto 5, 3) := by decide +kernel
theorem dX8_whyNot_36 : decode cX8_whyNot 36 = .ok (.bipush (-2), 2) := by decide +kernel
theorem dX8_whyNot_38 : decode cX8_whyNot 38 = .ok (.ireturn, 1) := by decide +kernel
theorem dX8_carry_0 : decode cX8_carry 0 = .ok (.aload_n 0, 1) := by decide +kernel
theorem dX8_carry_1 : decode cX8_carry 1 = .ok (.iload_n 1, 1) := by decide +kernel
theorem dX8_carry_2 : decode cX8_carry 2 = .ok (.iload_n 2, 1) := by decide +kernel
theorem dX8_carry_3 : decode cX8_carry 3 = .ok (.invokevirtual 141, 3) := by decide +kernel
theorem dX8_carry_6 : decode cX8_carry 6 = .ok (.istore_n 3, 1) := by decide +kernel
theorem dX8_carry_7 : decode cX8_carry 7 = .ok (.iload_n 3, 1) := by decide +kernel
theorem dX8_carry_8 : decode cX8_carry 8 = .ok (.ifCond .eq 5, 3) := by decide +kernel
theorem dX8_carry_11 : decode cX8_carry 11 = .ok (.iload_n 3, 1) := by decide +kernel
theorem dX8_carry_12 : decode cX8_carry 12 = .ok (.ireturn, 1) := by decide +kernel
theorem dX8_carry_13 : decode cX8_carry 13 = .ok (.aload_n 0, 1) := by decide +kernel
theorem dX8_carry_14 : decode cX8_carry 14 = .ok (.getfield 23, 3) := by decide +kernel
theorem dX8_carry_17 : decode cX8_carry 17 = .ok (.iconst 0, 1) := by decide +kernel
theorem dX8_carry_18 : decode cX8_carry 18 = .ok (.iaload, 1) := by decide +kernel
theorem dX8_carry_19 : decode cX8_carry 19 = .ok (.sipush 9999, 3) := by decide +kernel
theorem dX8_carry_22 : decode cX8_carry 22 = .ok (.if_icmp .ne 6, 3) := by decide +kernel
theorem dX8_carry_25 : decode cX8_carry 25 = .ok (.bipush (-3), 2) := by decide +kernel
theorem dX8_carry_27 : decode cX8_carry 27 = .ok (.ireturn, 1) := by decide +kernel
theorem dX8_carry_28 : decode cX8_carry 28 = .ok (.aload_n 0, 1) := by decide +kernel
theorem dX8_carry_29 : decode cX8_carry 29 = .ok (.invokevirtual 144, 3) := by decide +kernel
theorem dX8_carry_32 : decode cX8_carry 32 = .ok (.aload_n 0, 1) := by decide +kernel
theorem dX8_carry_33 : decode cX8_carry 33 = .ok (.getfield 23, 3) := by decide +kernel
theorem dX8_carry_36 : decode cX8_carry 36 = .ok (.iload_n 1, 1) := by decide +kernel
theorem dX8_carry_37 : decode cX8_carry 37 = .ok (.iload_n 2, 1) := by decide +kernel
theorem dX8_carry_38 : decode cX8_carry 38 = .ok (.invokestatic 147, 3) := by decide +kernel
theorem dX8_carry_41 : decode cX8_carry 41 = .ok (.ireturn, 1) := by decide +kernel
theorem dX8_lend_0 : decode cX8_lend 0 = .ok (.aload_n 0, 1) := by decide +kernel
theorem dX8_lend_1 : decode cX8_lend 1 = .ok (.iload_n 1, 1) := by decide +kernel
theorem dX8_lend_2 : decode cX8_lend 2 = .ok (.invokevirtual 105, 3) := by decide +kernel
theorem dX8_lend_5 : decode cX8_lend 5 = .ok (.ifCond .eq 16, 3) := by decide +kernel
theorem dX8_lend_8 : decode cX8_lend 8 = .ok (.aload_n 0, 1) := by decide +kernel
theorem dX8_lend_9 : decode cX8_lend 9 = .ok (.iload_n 2, 1) := by decide +kernel
theorem dX8_lend_10 : decode cX8_lend 10 = .ok (.invokevirtual 105, 3) := by decide +kernel
theorem dX8_lend_13 : decode cX8_lend 13 = .ok (.ifCond .eq 8, 3) := by decide +kernel
theorem dX8_lend_16 : decode cX8_lend 16 = .ok (.iload_n 1, 1) := by decide +kernel
theorem dX8_lend_17 : decode cX8_lend 17 = .ok (.iload_n 2, 1) := by decide +kernel
theorem dX8_lend_18 : decode cX8_lend 18 = .ok (.if_icmp .ne 5, 3) := by decide +kernel
theorem dX8_lend_21 : decode cX8_lend 21 = .ok (.iconst (-1), 1) := by decide +kernel
theorem dX8_lend_22 : decode cX8_lend 22 = .ok (.ireturn, 1) := by decide +kernel
theorem dX8_lend_23 : decode cX8_lend 23 = .ok (.aload_n 0, 1) := by decide +kernel
theorem dX8_lend_24 : decode cX8_lend 24 = .ok (.getfield 23, 3) := by decide +kernel
theorem dX8_lend_27 : decode cX8_lend 27 = .ok (.bipush 33, 2) := by decide +kernel
theorem dX8_lend_29 : decode cX8_lend 29 = .ok (.iload_n 1, 1) := by decide +kernel
theorem dX8_lend_30 : decode cX8_lend 30 = .ok (.iadd, 1) := by decide +kernel
theorem dX8_lend_31 : decode cX8_lend 31 = .ok (.iaload, 1) := by decide +kernel
theorem dX8_lend_32 : decode cX8_lend 32 = .ok (.istore_n 3, 1) := by decide +kernel
theorem dX8_lend_33 : decode cX8_lend 33 = .ok (.iload_n 3, 1) := by decide +kernel
theorem dX8_lend_34 : decode cX8_lend 34 = .ok (.iload_n 2, 1) := by decide +kernel
theorem dX8_lend_35 : decode cX8_lend 35 = .ok (.if_icmp .ne 6, 3) := by decide +kernel
theorem dX8_lend_38 : decode cX8_lend 38 = .ok (.bipush (-2), 2) := by decide +kernel
theorem dX8_lend_40 : decode cX8_lend 40 = .ok (.ireturn, 1) := by decide +kernel
theorem dX8_lend_41 : decode cX8_lend 41 = .ok (.aload_n 0, 1) := by decide +kernel
theorem dX8_lend_42 : decode cX8_lend 42 = .ok (.invokevirtual 144, 3) := by decide +kernel
theorem dX8_lend_45 : decode cX8_lend 45 = .ok (.aload_n 0, 1) := by decide +kernel
theorem dX8_lend_46 : decode cX8_lend 46 = .ok (.getfield 23, 3) := by decide +kernel
theorem dX8_lend_49 : decode cX8_lend 49 = .ok (.bipush 33, 2) := by decide +kernel
theorem dX8_lend_51 : decode cX8_lend 51 = .ok (.iload_n 1, 1) := by decide +kernel
theorem dX8_lend_52 : decode cX8_lend 52 = .ok (.iadd, 1) := by decide +kernel
theorem dX8_lend_53 : decode cX8_lend 53 = .ok (.iload_n 2, 1) := by decide +kernel
theorem dX8_lend_54 : decode cX8_lend 54 = .ok (.iastore, 1) := by decide +kernel
theorem dX8_lend_55 : decode cX8_lend 55 = .ok (.iload_n 3, 1) := by decide +kernel
theorem dX8_lend_56 : decode cX8_lend 56 = .ok (.ireturn, 1) := by decide +kernel
theorem dX8_sin_0 : decode cX8_sin 0 = .ok (.aload_n 0, 1) := by decide +kernel
theorem dX8_sin_1 : decode cX8_sin 1 = .ok (.iload_n 1, 1) := by decide +kernel
theorem dX8_sin_2 : decode cX8_sin 2 = .ok (.invokevirtual 105, 3) := by decide +kernel
theorem dX8_sin_5 : decode cX8_sin 5 = .ok (.ifCond .eq 26, 3) := by decide +kernel
theorem dX8_sin_8 : decode cX8_sin 8 = .ok (.aload_n 0, 1) := by decide +kernel
theorem dX8_sin_9 : decode cX8_sin 9 = .ok (.iload_n 2, 1) := by decide +kernel
theorem dX8_sin_10 : decode cX8_sin 10 = .ok (.invokevirtual 105, 3) := by decide +kernel
theorem dX8_sin_13 : decode cX8_sin 13 = .ok (.ifCond .eq 18, 3) := by decide +kernel
theorem dX8_sin_16 : decode cX8_sin 16 = .ok (.iload_n 1, 1) := by decide +kernel
theorem dX8_sin_17 : decode cX8_sin 17 = .ok (.iload_n 2, 1) := by decide +kernel
theorem dX8_sin_18 : decode cX8_sin 18 = .ok (.if_icmp .eq 13, 3) := by decide +kernel
theorem dX8_sin_21 : decode cX8_sin 21 = .ok (.iload_n 3, 1) := by decide +kernel
theorem dX8_sin_22 : decode cX8_sin 22 = .ok (.iconst 1, 1) := by decide +kernel
theorem dX8_sin_23 : decode cX8_sin 23 = .ok (.bipush 9, 2) := by decide +kernel
theorem dX8_sin_25 : decode cX8_sin 25 = .ok (.invokestatic 57, 3) := by decide +kernel
theorem dX8_sin_28 : decode cX8_sin 28 = .ok (.ifCond .ne 5, 3) := by decide +kernel
theorem dX8_sin_31 : decode cX8_sin 31 = .ok (.iconst (-1), 1) := by decide +kernel
theorem dX8_sin_32 : decode cX8_sin 32 = .ok (.ireturn, 1) := by decide +kernel
theorem dX8_sin_33 : decode cX8_sin 33 = .ok (.aload_n 0, 1) := by decide +kernel
theorem dX8_sin_34 : decode cX8_sin 34 = .ok (.getfield 23, 3) := by decide +kernel
theorem dX8_sin_37 : decode cX8_sin 37 = .ok (.iconst 2, 1) := by decide +kernel
theorem dX8_sin_38 : decode cX8_sin 38 = .ok (.iaload, 1) := by decide +kernel
theorem dX8_sin_39 : decode cX8_sin 39 = .ok (.bipush 8, 2) := by decide +kernel
theorem dX8_sin_41 : decode cX8_sin 41 = .ok (.if_icmp .ne 6, 3) := by decide +kernel
theorem dX8_sin_44 : decode cX8_sin 44 = .ok (.bipush (-3), 2) := by decide +kernel
theorem dX8_sin_46 : decode cX8_sin 46 = .ok (.ireturn, 1) := by decide +kernel
theorem dX8_sin_47 : decode cX8_sin 47 = .ok (.aload_n 0, 1) := by decide +kernel
theorem dX8_sin_48 : decode cX8_sin 48 = .ok (.invokevirtual 144, 3) := by decide +kernel
theorem dX8_sin_51 : decode cX8_sin 51 = .ok (.aload_n 0, 1) := by decide +kernel
theorem dX8_sin_52 : decode cX8_sin 52 = .ok (.getfield 23, 3) := by decide +kernel
theorem dX8_sin_55 : decode cX8_sin 55 = .ok (.iload_n 1, 1) := by decide +kernel
theorem dX8_sin_56 : decode cX8_sin 56 = .ok (.iload_n 2, 1) := by decide +kernel
theorem dX8_sin_57 : decode cX8_sin 57 = .ok (.iload_n 3, 1) := by decide +kernel
theorem dX8_sin_58 : decode cX8_sin 58 = .ok (.invokestatic 84, 3) := by decide +kernel
theorem dX8_sin_61 : decode cX8_sin 61 = .ok (.ireturn, 1) := by decide +kernel
theorem dX8_harden_0 : decode cX8_harden 0 = .ok (.aload_n 0, 1) := by decide +kernel
theorem dX8_harden_1 : decode cX8_harden 1 = .ok (.iload_n 1, 1) := by decide +kernel
theorem dX8_harden_2 : decode cX8_harden 2 = .ok (.invokevirtual 105, 3) := by decide +kernel
theorem dX8_harden_5 : decode cX8_harden 5 = .ok (.ifCond .eq 13, 3) := by decide +kernel
theorem dX8_harden_8 : decode cX8_harden 8 = .ok (.iload_n 2, 1) := by decide +kernel
theorem dX8_harden_9 : decode cX8_harden 9 = .ok (.iconst 0, 1) := by decide +kernel
theorem dX8_harden_10 : decode cX8_harden 10 = .ok (.bipush 9, 2) := by decide +kernel
theorem dX8_harden_12 : decode cX8_harden 12 = .ok (.invokestatic 57, 3) := by decide +kernel
theorem dX8_harden_15 : decode cX8_harden 15 = .ok (.ifCond .ne 5, 3) := by decide +kernel
theorem dX8_harden_18 : decode cX8_harden 18 = .ok (.iconst (-1), 1) := by decide +kernel
theorem dX8_harden_19 : decode cX8_harden 19 = .ok (.ireturn, 1) := by decide +kernel
theorem dX8_harden_20 : decode cX8_harden 20 = .ok (.aload_n 0, 1) := by decide +kernel
theorem dX8_harden_21 : decode cX8_harden 21 = .ok (.getfield 23, 3) := by decide +kernel
theorem dX8_harden_24 : decode cX8_harden 24 = .ok (.bipush 15, 2) := by decide +kernel
theorem dX8_harden_26 : decode cX8_harden 26 = .ok (.iload_n 1, 1) := by decide +kernel
theorem dX8_harden_27 : decode cX8_harden 27 = .ok (.iadd, 1) := by decide +kernel
theorem dX8_harden_28 : decode cX8_harden 28 = .ok (.iaload, 1) := by decide +kernel
theorem dX8_harden_29 : decode cX8_harden 29 = .ok (.istore_n 3, 1) := by decide +kernel
theorem dX8_harden_30 : decode cX8_harden 30 = .ok (.iload_n 3, 1) := by decide +kernel
theorem dX8_harden_31 : decode cX8_harden 31 = .ok (.iload_n 2, 1) := by decide +kernel
theorem dX8_harden_32 : decode cX8_harden 32 = .ok (.if_icmp .ne 6, 3) := by decide +kernel
theorem dX8_harden_35 : decode cX8_harden 35 = .ok (.bipush (-2), 2) := by decide +kernel
theorem dX8_harden_37 : decode cX8_harden 37 = .ok (.ireturn, 1) := by decide +kernel
theorem dX8_harden_38 : decode cX8_harden 38 = .ok (.aload_n 0, 1) := by decide +kernel
theorem dX8_harden_39 : decode cX8_harden 39 = .ok (.invokevirtual 144, 3) := by decide +kernel
theorem dX8_harden_42 : decode cX8_harden 42 = .ok (.aload_n 0, 1) := by decide +kernel
theorem dX8_harden_43 : decode cX8_harden 43 = .ok (.getfield 23, 3) := by decide +kernel
theorem dX8_harden_46 : decode cX8_harden 46 = .ok (.bipush 15, 2) := by decide +kernel
theorem dX8_harden_48 : decode cX8_harden 48 = .ok (.iload_n 1, 1) := by decide +kernel
theorem dX8_harden_49 : decode cX8_harden 49 = .ok (.iadd, 1) := by decide +kernel
theorem dX8_harden_50 : decode cX8_harden 50 = .ok (.iload_n 2, 1) := by decide +kernel
theorem dX8_harden_51 : decode cX8_harden 51 = .ok (.iastore, 1) := by decide +kernel
theorem dX8_harden_52 : decode cX8_harden 52 = .ok (.iload_n 3, 1) := by decide +kernel
theorem dX8_harden_53 : decode cX8_harden 53 = .ok (.ireturn, 1) := by decide +kernel
theorem dX8_pass_0 : decode cX8_pass 0 = .ok (.aload_n 0, 1) := by decide +kernel
theorem dX8_pass_1 : decode cX8_pass 1 = .ok (.invokevirtual 150, 3) := by decide +kernel
theorem dX8_pass_4 : decode cX8_pass 4 = .ok (.ifCond .ne 6, 3) := by decide +kernel
theorem dX8_pass_7 : decode cX8_pass 7 = .ok (.bipush (-2), 2) := by decide +kernel
theorem dX8_pass_9 : decode cX8_pass 9 = .ok (.ireturn, 1) := by decide +kernel
theorem dX8_pass_10 : decode cX8_pass 10 = .ok (.aload_n 0, 1) := by decide +kernel
theorem dX8_pass_11 : decode cX8_pass 11 = .ok (.getfield 23, 3) := by decide +kernel
theorem dX8_pass_14 : decode cX8_pass 14 = .ok (.iconst 0, 1) := by decide +kernel
theorem dX8_pass_15 : decode cX8_pass 15 = .ok (.iaload, 1) := by decide +kernel
theorem dX8_pass_16 : decode cX8_pass 16 = .ok (.sipush 9999, 3) := by decide +kernel
theorem dX8_pass_19 : decode cX8_pass 19 = .ok (.if_icmp .ne 6, 3) := by decide +kernel
theorem dX8_pass_22 : decode cX8_pass 22 = .ok (.bipush (-3), 2) := by decide +kernel
theorem dX8_pass_24 : decode cX8_pass 24 = .ok (.ireturn, 1) := by decide +kernel
theorem dX8_pass_25 : decode cX8_pass 25 = .ok (.aload_n 0, 1) := by decide +kernel
theorem dX8_pass_26 : decode cX8_pass 26 = .ok (.invokevirtual 144, 3) := by decide +kernel
theorem dX8_pass_29 : decode cX8_pass 29 = .ok (.aload_n 0, 1) := by decide +kernel
theorem dX8_pass_30 : decode cX8_pass 30 = .ok (.getfield 23, 3) := by decide +kernel
theorem dX8_pass_33 : decode cX8_pass 33 = .ok (.iconst 0, 1) := by decide +kernel
theorem dX8_pass_34 : decode cX8_pass 34 = .ok (.dup2, 1) := by decide +kernel
theorem dX8_pass_35 : decode cX8_pass 35 = .ok (.iaload, 1) := by decide +kernel
theorem dX8_pass_36 : decode cX8_pass 36 = .ok (.iconst 1, 1) := by decide +kernel
theorem dX8_pass_37 : decode cX8_pass 37 = .ok (.iadd, 1) := by decide +kernel
theorem dX8_pass_38 : decode cX8_pass 38 = .ok (.iastore, 1) := by decide +kernel
theorem dX8_pass_39 : decode cX8_pass 39 = .ok (.aload_n 0, 1) := by decide +kernel
theorem dX8_pass_40 : decode cX8_pass 40 = .ok (.getfield 23, 3) := by decide +kernel
theorem dX8_pass_43 : decode cX8_pass 43 = .ok (.iconst 0, 1) := by decide +kernel
theorem dX8_pass_44 : decode cX8_pass 44 = .ok (.iaload, 1) := by decide +kernel
theorem dX8_pass_45 : decode cX8_pass 45 = .ok (.ireturn, 1) := by decide +kernel
theorem dX8_undo_0 : decode cX8_undo 0 = .ok (.aload_n 0, 1) := by decide +kernel
theorem dX8_undo_1 : decode cX8_undo 1 = .ok (.getfield 102, 3) := by decide +kernel
theorem dX8_undo_4 : decode cX8_undo 4 = .ok (.ifCond .ne 6, 3) := by decide +kernel
theorem dX8_undo_7 : decode cX8_undo 7 = .ok (.bipush (-4), 2) := by decide +kernel
theorem dX8_undo_9 : decode cX8_undo 9 = .ok (.ireturn, 1) := by decide +kernel
theorem dX8_undo_10 : decode cX8_undo 10 = .ok (.aload_n 0, 1) := by decide +kernel
theorem dX8_undo_11 : decode cX8_undo 11 = .ok (.dup, 1) := by decide +kernel
theorem dX8_undo_12 : decode cX8_undo 12 = .ok (.getfield 102, 3) := by decide +kernel
theorem dX8_undo_15 : decode cX8_undo 15 = .ok (.iconst 1, 1) := by decide +kernel
theorem dX8_undo_16 : decode cX8_undo 16 = .ok (.isub, 1) := by decide +kernel
theorem dX8_undo_17 : decode cX8_undo 17 = .ok (.putfield 102, 3) := by decide +kernel
theorem dX8_undo_20 : decode cX8_undo 20 = .ok (.aload_n 0, 1) := by decide +kernel
theorem dX8_undo_21 : decode cX8_undo 21 = .ok (.getfield 39, 3) := by decide +kernel
theorem dX8_undo_24 : decode cX8_undo 24 = .ok (.bipush 83, 2) := by decide +kernel
theorem dX8_undo_26 : decode cX8_undo 26 = .ok (.aload_n 0, 1) := by decide +kernel
theorem dX8_undo_27 : decode cX8_undo 27 = .ok (.getfield 102, 3) := by decide +kernel
theorem dX8_undo_30 : decode cX8_undo 30 = .ok (.imul, 1) := by decide +kernel
theorem dX8_undo_31 : decode cX8_undo 31 = .ok (.aload_n 0, 1) := by decide +kernel
theorem dX8_undo_32 : decode cX8_undo 32 = .ok (.getfield 23, 3) := by decide +kernel
theorem dX8_undo_35 : decode cX8_undo 35 = .ok (.iconst 0, 1) := by decide +kernel
theorem dX8_undo_36 : decode cX8_undo 36 = .ok (.bipush 83, 2) := by decide +kernel
theorem dX8_undo_38 : decode cX8_undo 38 = .ok (.invokestatic 98, 3) := by decide +kernel
theorem dX8_undo_41 : decode cX8_undo 41 = .ok (.aload_n 0, 1) := by decide +kernel
theorem dX8_undo_42 : decode cX8_undo 42 = .ok (.getfield 102, 3) := by decide +kernel
theorem dX8_undo_45 : decode cX8_undo 45 = .ok (.ireturn, 1) := by decide +kernel
theorem dX8_image_0 : decode cX8_image 0 = .ok (.iload_n 1, 1) := by decide +kernel
theorem dX8_image_1 : decode cX8_image 1 = .ok (.iconst 0, 1) := by decide +kernel
theorem dX8_image_2 : decode cX8_image 2 = .ok (.iconst 1, 1) := by decide +kernel
theorem dX8_image_3 : decode cX8_image 3 = .ok (.invokestatic 57, 3) := by decide +kernel
theorem dX8_image_6 : decode cX8_image 6 = .ok (.ifCond .ne 5, 3) := by decide +kernel
theorem dX8_image_9 : decode cX8_image 9 = .ok (.iconst (-1), 1) := by decide +kernel
theorem dX8_image_10 : decode cX8_image 10 = .ok (.ireturn, 1) := by decide +kernel
theorem dX8_image_11 : decode cX8_image 11 = .ok (.aload_n 0, 1) := by decide +kernel
theorem dX8_image_12 : decode cX8_image 12 = .ok (.invokevirtual 150, 3) := by decide +kernel
theorem dX8_image_15 : decode cX8_image 15 = .ok (.ifCond .ne 6, 3) := by decide +kernel
theorem dX8_image_18 : decode cX8_image 18 = .ok (.bipush (-2), 2) := by decide +kernel
theorem dX8_image_20 : decode cX8_image 20 = .ok (.ireturn, 1) := by decide +kernel
theorem dX8_image_21 : decode cX8_image 21 = .ok (.aload_n 0, 1) := by decide +kernel
theorem dX8_image_22 : decode cX8_image 22 = .ok (.getfield 23, 3) := by decide +kernel
theorem dX8_image_25 : decode cX8_image 25 = .ok (.iconst 0, 1) := by decide +kernel
theorem dX8_image_26 : decode cX8_image 26 = .ok (.aload_n 0, 1) := by decide +kernel
theorem dX8_image_27 : decode cX8_image 27 = .ok (.getfield 32, 3) := by decide +kernel
theorem dX8_image_30 : decode cX8_image 30 = .ok (.bipush 83, 2) := by decide +kernel
theorem dX8_image_32 : decode cX8_image 32 = .ok (.iload_n 1, 1) := by decide +kernel
theorem dX8_image_33 : decode cX8_image 33 = .ok (.imul, 1) := by decide +kernel
theorem dX8_image_34 : decode cX8_image 34 = .ok (.bipush 83, 2) := by decide +kernel
theorem dX8_image_36 : decode cX8_image 36 = .ok (.invokestatic 98, 3) := by decide +kernel
theorem dX8_image_39 : decode cX8_image 39 = .ok (.aload_n 0, 1) := by decide +kernel
theorem dX8_image_40 : decode cX8_image 40 = .ok (.getfield 35, 3) := by decide +kernel
theorem dX8_image_43 : decode cX8_image 43 = .ok (.iload_n 1, 1) := by decide +kernel
theorem dX8_image_44 : decode cX8_image 44 = .ok (.iconst 1, 1) := by decide +kernel
theorem dX8_image_45 : decode cX8_image 45 = .ok (.bastore, 1) := by decide +kernel
theorem dX8_image_46 : decode cX8_image 46 = .ok (.aload_n 0, 1) := by decide +kernel
theorem dX8_image_47 : decode cX8_image 47 = .ok (.getfield 23, 3) := by decide +kernel
theorem dX8_image_50 : decode cX8_image 50 = .ok (.iconst 0, 1) := by decide +kernel
theorem dX8_image_51 : decode cX8_image 51 = .ok (.iaload, 1) := by decide +kernel
theorem dX8_image_52 : decode cX8_image 52 = .ok (.ireturn, 1) := by decide +kernel
theorem dX8_restore_0 : decode cX8_restore 0 = .ok (.iload_n 1, 1) := by decide +kernel
theorem dX8_restore_1 : decode cX8_restore 1 = .ok (.iconst 0, 1) := by decide +kernel
theorem dX8_restore_2 : decode cX8_restore 2 = .ok (.iconst 1, 1) := by decide +kernel
theorem dX8_restore_3 : decode cX8_restore 3 = .ok (.invokestatic 57, 3) := by decide +kernel
theorem dX8_restore_6 : decode cX8_restore 6 = .ok (.ifCond .ne 5, 3) := by decide +kernel
theorem dX8_restore_9 : decode cX8_restore 9 = .ok (.iconst (-1), 1) := by decide +kernel
theorem dX8_restore_10 : decode cX8_restore 10 = .ok (.ireturn, 1) := by decide +kernel
theorem dX8_restore_11 : decode cX8_restore 11 = .ok (.aload_n 0, 1) := by decide +kernel
theorem dX8_restore_12 : decode cX8_restore 12 = .ok (.getfield 35, 3) := by decide +kernel
theorem dX8_restore_15 : decode cX8_restore 15 = .ok (.iload_n 1, 1) := by decide +kernel
theorem dX8_restore_16 : decode cX8_restore 16 = .ok (.baload, 1) := by decide +kernel
theorem dX8_restore_17 : decode cX8_restore 17 = .ok (.ifCond .ne 6, 3) := by decide +kernel
theorem dX8_restore_20 : decode cX8_restore 20 = .ok (.bipush (-2), 2) := by decide +kernel
theorem dX8_restore_22 : decode cX8_restore 22 = .ok (.ireturn, 1) := by decide +kernel
theorem dX8_restore_23 : decode cX8_restore 23 = .ok (.aload_n 0, 1) := by decide +kernel
theorem dX8_restore_24 : decode cX8_restore 24 = .ok (.getfield 32, 3) := by decide +kernel
theorem dX8_restore_27 : decode cX8_restore 27 = .ok (.bipush 83, 2) := by decide +kernel
theorem dX8_restore_29 : decode cX8_restore 29 = .ok (.iload_n 1, 1) := by decide +kernel
theorem dX8_restore_30 : decode cX8_restore 30 = .ok (.imul, 1) := by decide +kernel
theorem dX8_restore_31 : decode cX8_restore 31 = .ok (.aload_n 0, 1) := by decide +kernel
theorem dX8_restore_32 : decode cX8_restore 32 = .ok (.getfield 23, 3) := by decide +kernel
theorem dX8_restore_35 : decode cX8_restore 35 = .ok (.iconst 0, 1) := by decide +kernel
theorem dX8_restore_36 : decode cX8_restore 36 = .ok (.bipush 83, 2) := by decide +kernel
theorem dX8_restore_38 : decode cX8_restore 38 = .ok (.invokestatic 98, 3) := by decide +kernel
theorem dX8_restore_41 : decode cX8_restore 41 = .ok (.aload_n 0, 1) := by decide +kernel
theorem dX8_restore_42 : decode cX8_restore 42 = .ok (.iconst 0, 1) := by decide +kernel
theorem dX8_restore_43 : decode cX8_restore 43 = .ok (.putfield 102, 3) := by decide +kernel
theorem dX8_restore_46 : decode cX8_restore 46 = .ok (.aload_n 0, 1) := by decide +kernel
theorem dX8_restore_47 : decode cX8_restore 47 = .ok (.getfield 23, 3) := by decide +kernel
theorem dX8_restore_50 : decode cX8_restore 50 = .ok (.iconst 0, 1) := by decide +kernel
theorem dX8_restore_51 : decode cX8_restore 51 = .ok (.iaload, 1) := by decide +kernel
theorem dX8_restore_52 : decode cX8_restore 52 = .ok (.ireturn, 1) := by decide +kernel
theorem dX8_begin_0 : decode cX8_begin 0 = .ok (.aload_n 0, 1) := by decide +kernel
theorem dX8_begin_1 : decode cX8_begin 1 = .ok (.getfield 23, 3) := by decide +kernel
theorem dX8_begin_4 : decode cX8_begin 4 = .ok (.iconst 0, 1) := by decide +kernel
theorem dX8_begin_5 : decode cX8_begin 5 = .ok (.aload_n 0, 1) := by decide +kernel
theorem dX8_begin_6 : decode cX8_begin 6 = .ok (.getfield 29, 3) := by decide +kernel
theorem dX8_begin_9 : decode cX8_begin 9 = .ok (.iconst 0, 1) := by decide +kernel
theorem dX8_begin_10 : decode cX8_begin 10 = .ok (.bipush 83, 2) := by decide +kernel
theorem dX8_begin_12 : decode cX8_begin 12 = .ok (.invokestatic 98, 3) := by decide +kernel
theorem dX8_begin_15 : decode cX8_begin 15 = .ok (.return_, 1) := by decide +kernel
theorem dX8_said_0 : decode cX8_said 0 = .ok (.aload_n 0, 1) := by decide +kernel
theorem dX8_said_1 : decode cX8_said 1 = .ok (.iload_n 1, 1) := by decide +kernel
theorem dX8_said_2 : decode cX8_said 2 = .ok (.invokevirtual 108, 3) := by decide +kernel
theorem dX8_said_5 : decode cX8_said 5 = .ok (.ifCond .eq 23, 3) := by decide +kernel
theorem dX8_said_8 : decode cX8_said 8 = .ok (.aload_n 0, 1) := by decide +kernel
theorem dX8_said_9 : decode cX8_said 9 = .ok (.iload_n 2, 1) := by decide +kernel
theorem dX8_said_10 : decode cX8_said 10 = .ok (.invokevirtual 105, 3) := by decide +kernel
theorem dX8_said_13 : decode cX8_said 13 = .ok (.ifCond .eq 15, 3) := by decide +kernel
theorem dX8_said_16 : decode cX8_said 16 = .ok (.aload_n 0, 1) := by decide +kernel
theorem dX8_said_17 : decode cX8_said 17 = .ok (.getfield 23, 3) := by decide +kernel
theorem dX8_said_20 : decode cX8_said 20 = .ok (.iload_n 1, 1) := by decide +kernel
theorem dX8_said_21 : decode cX8_said 21 = .ok (.iload_n 2, 1) := by decide +kernel
theorem dX8_said_22 : decode cX8_said 22 = .ok (.invokestatic 127, 3) := by decide +kernel
theorem dX8_said_25 : decode cX8_said 25 = .ok (.goto 4, 3) := by decide +kernel
theorem dX8_said_28 : decode cX8_said 28 = .ok (.iconst (-1), 1) := by decide +kernel
theorem dX8_said_29 : decode cX8_said 29 = .ok (.ireturn, 1) := by decide +kernel
theorem dX8_comes_0 : decode cX8_comes 0 = .ok (.aload_n 0, 1) := by decide +kernel
theorem dX8_comes_1 : decode cX8_comes 1 = .ok (.iload_n 1, 1) := by decide +kernel
theorem dX8_comes_2 : decode cX8_comes 2 = .ok (.iload_n 2, 1) := by decide +kernel
theorem dX8_comes_3 : decode cX8_comes 3 = .ok (.invokevirtual 141, 3) := by decide +kernel
theorem dX8_comes_6 : decode cX8_comes 6 = .ok (.istore_n 3, 1) := by decide +kernel
theorem dX8_comes_7 : decode cX8_comes 7 = .ok (.iload_n 3, 1) := by decide +kernel
theorem dX8_comes_8 : decode cX8_comes 8 = .ok (.ifCond .eq 7, 3) := by decide +kernel
theorem dX8_comes_11 : decode cX8_comes 11 = .ok (.iload_n 3, 1) := by decide +kernel
theorem dX8_comes_12 : decode cX8_comes 12 = .ok (.goto 12, 3) := by decide +kernel
theorem dX8_comes_15 : decode cX8_comes 15 = .ok (.aload_n 0, 1) := by decide +kernel
theorem dX8_comes_16 : decode cX8_comes 16 = .ok (.getfield 23, 3) := by decide +kernel
theorem dX8_comes_19 : decode cX8_comes 19 = .ok (.iload_n 1, 1) := by decide +kernel
theorem dX8_comes_20 : decode cX8_comes 20 = .ok (.iload_n 2, 1) := by decide +kernel
theorem dX8_comes_21 : decode cX8_comes 21 = .ok (.invokestatic 131, 3) := by decide +kernel
theorem dX8_comes_24 : decode cX8_comes 24 = .ok (.ireturn, 1) := by decide +kernel
theorem dX8_least_0 : decode cX8_least 0 = .ok (.aload_n 0, 1) := by decide +kernel
theorem dX8_least_1 : decode cX8_least 1 = .ok (.iload_n 1, 1) := by decide +kernel
theorem dX8_least_2 : decode cX8_least 2 = .ok (.iload_n 2, 1) := by decide +kernel
theorem dX8_least_3 : decode cX8_least 3 = .ok (.invokevirtual 141, 3) := by decide +kernel
theorem dX8_least_6 : decode cX8_least 6 = .ok (.istore_n 3, 1) := by decide +kernel
theorem dX8_least_7 : decode cX8_least 7 = .ok (.iload_n 3, 1) := by decide +kernel
theorem dX8_least_8 : decode cX8_least 8 = .ok (.ifCond .eq 5, 3) := by decide +kernel
theorem dX8_least_11 : decode cX8_least 11 = .ok (.iload_n 3, 1) := by decide +kernel
theorem dX8_least_12 : decode cX8_least 12 = .ok (.ireturn, 1) := by decide +kernel
theorem dX8_least_13 : decode cX8_least 13 = .ok (.aload_n 0, 1) := by decide +kernel
theorem dX8_least_14 : decode cX8_least 14 = .ok (.invokevirtual 153, 3) := by decide +kernel
theorem dX8_least_17 : decode cX8_least 17 = .ok (.iconst 0, 1) := by decide +kernel
theorem dX8_least_18 : decode cX8_least 18 = .ok (.istore 4, 2) := by decide +kernel
theorem dX8_least_20 : decode cX8_least 20 = .ok (.iload 4, 2) := by decide +kernel
theorem dX8_least_22 : decode cX8_least 22 = .ok (.bipush 9, 2) := by decide +kernel
theorem dX8_least_24 : decode cX8_least 24 = .ok (.if_icmp .gt 35, 3) := by decide +kernel
theorem dX8_least_27 : decode cX8_least 27 = .ok (.aload_n 0, 1) := by decide +kernel
theorem dX8_least_28 : decode cX8_least 28 = .ok (.getfield 29, 3) := by decide +kernel
theorem dX8_least_31 : decode cX8_least 31 = .ok (.bipush 9, 2) := by decide +kernel
theorem dX8_least_33 : decode cX8_least 33 = .ok (.iload_n 2, 1) := by decide +kernel
theorem dX8_least_34 : decode cX8_least 34 = .ok (.iadd, 1) := by decide +kernel
theorem dX8_least_35 : decode cX8_least 35 = .ok (.iload 4, 2) := by decide +kernel
theorem dX8_least_37 : decode cX8_least 37 = .ok (.iastore, 1) := by decide +kernel
theorem dX8_least_38 : decode cX8_least 38 = .ok (.aload_n 0, 1) := by decide +kernel
theorem dX8_least_39 : decode cX8_least 39 = .ok (.getfield 29, 3) := by decide +kernel
theorem dX8_least_42 : decode cX8_least 42 = .ok (.iload_n 1, 1) := by decide +kernel
theorem dX8_least_43 : decode cX8_least 43 = .ok (.iload_n 2, 1) := by decide +kernel
theorem dX8_least_44 : decode cX8_least 44 = .ok (.invokestatic 131, 3) := by decide +kernel
theorem dX8_least_47 : decode cX8_least 47 = .ok (.ifCond .le 6, 3) := by decide +kernel
theorem dX8_least_50 : decode cX8_least 50 = .ok (.iload 4, 2) := by decide +kernel
theorem dX8_least_52 : decode cX8_least 52 = .ok (.ireturn, 1) := by decide +kernel
theorem dX8_least_53 : decode cX8_least 53 = .ok (.iinc 4 1, 3) := by decide +kernel
theorem dX8_least_56 : decode cX8_least 56 = .ok (.goto (-36), 3) := by decide +kernel
theorem dX8_least_59 : decode cX8_least 59 = .ok (.bipush (-4), 2) := by decide +kernel
theorem dX8_least_61 : decode cX8_least 61 = .ok (.ireturn, 1) := by decide +kernel
theorem dX8_worth_0 : decode cX8_worth 0 = .ok (.aload_n 0, 1) := by decide +kernel
theorem dX8_worth_1 : decode cX8_worth 1 = .ok (.getfield 23, 3) := by decide +kernel
theorem dX8_worth_4 : decode cX8_worth 4 = .ok (.iload_n 1, 1) := by decide +kernel
theorem dX8_worth_5 : decode cX8_worth 5 = .ok (.iload_n 2, 1) := by decide +kernel
theorem dX8_worth_6 : decode cX8_worth 6 = .ok (.invokestatic 137, 3) := by decide +kernel
theorem dX8_worth_9 : decode cX8_worth 9 = .ok (.ifCond .eq 15, 3) := by decide +kernel
theorem dX8_worth_12 : decode cX8_worth 12 = .ok (.aload_n 0, 1) := by decide +kernel
theorem dX8_worth_13 : decode cX8_worth 13 = .ok (.getfield 23, 3) := by decide +kernel
theorem dX8_worth_16 : decode cX8_worth 16 = .ok (.iload_n 1, 1) := by decide +kernel
theorem dX8_worth_17 : decode cX8_worth 17 = .ok (.iload_n 2, 1) := by decide +kernel
theorem dX8_worth_18 : decode cX8_worth 18 = .ok (.invokestatic 131, 3) := by decide +kernel
theorem dX8_worth_21 : decode cX8_worth 21 = .ok (.goto 4, 3) := by decide +kernel
theorem dX8_worth_24 : decode cX8_worth 24 = .ok (.iconst 0, 1) := by decide +kernel
theorem dX8_worth_25 : decode cX8_worth 25 = .ok (.istore_n 3, 1) := by decide +kernel
theorem dX8_worth_26 : decode cX8_worth 26 = .ok (.iload_n 3, 1) := by decide +kernel
theorem dX8_worth_27 : decode cX8_worth 27 = .ok (.ifCond .ne 7, 3) := by decide +kernel
theorem dX8_worth_30 : decode cX8_worth 30 = .ok (.iconst 0, 1) := by decide +kernel
theorem dX8_worth_31 : decode cX8_worth 31 = .ok (.goto 15, 3) := by decide +kernel
theorem dX8_worth_34 : decode cX8_worth 34 = .ok (.iload_n 3, 1) := by decide +kernel
theorem dX8_worth_35 : decode cX8_worth 35 = .ok (.iconst 1, 1) := by decide +kernel
theorem dX8_worth_36 : decode cX8_worth 36 = .ok (.if_icmp .ne 8, 3) := by decide +kernel
theorem dX8_worth_39 : decode cX8_worth 39 = .ok (.bipush 100, 2) := by decide +kernel
theorem dX8_worth_41 : decode cX8_worth 41 = .ok (.goto 5, 3) := by decide +kernel
theorem dX8_worth_44 : decode cX8_worth 44 = .ok (.bipush 99, 2) := by decide +kernel
theorem dX8_worth_46 : decode cX8_worth 46 = .ok (.ireturn, 1) := by decide +kernel
theorem dX8_layMatch_0 : decode cX8_layMatch 0 = .ok (.aload_n 0, 1) := by decide +kernel
theorem dX8_layMatch_1 : decode cX8_layMatch 1 = .ok (.getfield 23, 3) := by decide +kernel
theorem dX8_layMatch_4 : decode cX8_layMatch 4 = .ok (.iconst 2, 1) := by decide +kernel
theorem dX8_layMatch_5 : decode cX8_layMatch 5 = .ok (.iaload, 1) := by decide +kernel
theorem dX8_layMatch_6 : decode cX8_layMatch 6 = .ok (.istore_n 1, 1) := by decide +kernel
theorem dX8_layMatch_7 : decode cX8_layMatch 7 = .ok (.iconst 0, 1) := by decide +kernel
theorem dX8_layMatch_8 : decode cX8_layMatch 8 = .ok (.istore_n 2, 1) := by decide +kernel
theorem dX8_layMatch_9 : decode cX8_layMatch 9 = .ok (.iload_n 2, 1) := by decide +kernel
theorem dX8_layMatch_10 : decode cX8_layMatch 10 = .ok (.bipush 64, 2) := by decide +kernel
theorem dX8_layMatch_12 : decode cX8_layMatch 12 = .ok (.if_icmp .ge 21, 3) := by decide +kernel
theorem dX8_layMatch_15 : decode cX8_layMatch 15 = .ok (.aload_n 0, 1) := by decide +kernel
theorem dX8_layMatch_16 : decode cX8_layMatch 16 = .ok (.getfield 42, 3) := by decide +kernel
theorem dX8_layMatch_19 : decode cX8_layMatch 19 = .ok (.bipush 64, 2) := by decide +kernel
theorem dX8_layMatch_21 : decode cX8_layMatch 21 = .ok (.iload_n 1, 1) := by decide +kernel
theorem dX8_layMatch_22 : decode cX8_layMatch 22 = .ok (.imul, 1) := by decide +kernel
theorem dX8_layMatch_23 : decode cX8_layMatch 23 = .ok (.iload_n 2, 1) := by decide +kernel
theorem dX8_layMatch_24 : decode cX8_layMatch 24 = .ok (.iadd, 1) := by decide +kernel
theorem dX8_layMatch_25 : decode cX8_layMatch 25 = .ok (.iconst 0, 1) := by decide +kernel
theorem dX8_layMatch_26 : decode cX8_layMatch 26 = .ok (.iastore, 1) := by decide +kernel
theorem dX8_layMatch_27 : decode cX8_layMatch 27 = .ok (.iinc 2 1, 3) := by decide +kernel
theorem dX8_layMatch_30 : decode cX8_layMatch 30 = .ok (.goto (-21), 3) := by decide +kernel
theorem dX8_layMatch_33 : decode cX8_layMatch 33 = .ok (.iload_n 1, 1) := by decide +kernel
theorem dX8_layMatch_34 : decode cX8_layMatch 34 = .ok (.iconst 1, 1) := by decide +kernel
theorem dX8_layMatch_35 : decode cX8_layMatch 35 = .ok (.isub, 1) := by decide +kernel
theorem dX8_layMatch_36 : decode cX8_layMatch 36 = .ok (.istore_n 2, 1) := by decide +kernel
theorem dX8_layMatch_37 : decode cX8_layMatch 37 = .ok (.iload_n 2, 1) := by decide +kernel
theorem dX8_layMatch_38 : decode cX8_layMatch 38 = .ok (.ifCond .lt 141, 3) := by decide +kernel
theorem dX8_layMatch_41 : decode cX8_layMatch 41 = .ok (.iconst 0, 1) := by decide +kernel
theorem dX8_layMatch_42 : decode cX8_layMatch 42 = .ok (.istore_n 3, 1) := by decide +kernel
theorem dX8_layMatch_43 : decode cX8_layMatch 43 = .ok (.iload_n 3, 1) := by decide +kernel
theorem dX8_layMatch_44 : decode cX8_layMatch 44 = .ok (.bipush 64, 2) := by decide +kernel
theorem dX8_layMatch_46 : decode cX8_layMatch 46 = .ok (.if_icmp .ge 127, 3) := by decide +kernel
theorem dX8_layMatch_49 : decode cX8_layMatch 49 = .ok (.aload_n 0, 1) := by decide +kernel
theorem dX8_layMatch_50 : decode cX8_layMatch 50 = .ok (.getfield 42, 3) := by decide +kernel
theorem dX8_layMatch_53 : decode cX8_layMatch 53 = .ok (.bipush 64, 2) := by decide +kernel
theorem dX8_layMatch_55 : decode cX8_layMatch 55 = .ok (.iload_n 2, 1) := by decide +kernel
theorem dX8_layMatch_56 : decode cX8_layMatch 56 = .ok (.iconst 1, 1) := by decide +kernel
theorem dX8_layMatch_57 : decode cX8_layMatch 57 = .ok (.iadd, 1) := by decide +kernel
theorem dX8_layMatch_58 : decode cX8_layMatch 58 = .ok (.imul, 1) := by decide +kernel
theorem dX8_layMatch_59 : decode cX8_layMatch 59 = .ok (.iload_n 3, 1) := by decide +kernel
theorem dX8_layMatch_60 : decode cX8_layMatch 60 = .ok (.iadd, 1) := by decide +kernel
theorem dX8_layMatch_61 : decode cX8_layMatch 61 = .ok (.iaload, 1) := by decide +kernel
theorem dX8_layMatch_62 : decode cX8_layMatch 62 = .ok (.istore 4, 2) := by decide +kernel
theorem dX8_layMatch_64 : decode cX8_layMatch 64 = .ok (.iconst 0, 1) := by decide +kernel
theorem dX8_layMatch_65 : decode cX8_layMatch 65 = .ok (.istore 5, 2) := by decide +kernel
theorem dX8_layMatch_67 : decode cX8_layMatch 67 = .ok (.iload 5, 2) := by decide +kernel
theorem dX8_layMatch_69 : decode cX8_layMatch 69 = .ok (.aload_n 0, 1) := by decide +kernel
theorem dX8_layMatch_70 : decode cX8_layMatch 70 = .ok (.getfield 23, 3) := by decide +kernel
theorem dX8_layMatch_73 : decode cX8_layMatch 73 = .ok (.iconst 1, 1) := by decide +kernel
theorem dX8_layMatch_74 : decode cX8_layMatch 74 = .ok (.iaload, 1) := by decide +kernel
theorem dX8_layMatch_75 : decode cX8_layMatch 75 = .ok (.if_icmp .ge 79, 3) := by decide +kernel
theorem dX8_layMatch_78 : decode cX8_layMatch 78 = .ok (.iload_n 3, 1) := by decide +kernel
theorem dX8_layMatch_79 : decode cX8_layMatch 79 = .ok (.iload 5, 2) := by decide +kernel
theorem dX8_layMatch_81 : decode cX8_layMatch 81 = .ok (.invokestatic 156, 3) := by decide +kernel
theorem dX8_layMatch_84 : decode cX8_layMatch 84 = .ok (.ifCond .eq 7, 3) := by decide +kernel
theorem dX8_layMatch_87 : decode cX8_layMatch 87 = .ok (.iconst 0, 1) := by decide +kernel
theorem dX8_layMatch_88 : decode cX8_layMatch 88 = .ok (.goto 10, 3) := by decide +kernel
theorem dX8_layMatch_91 : decode cX8_layMatch 91 = .ok (.aload_n 0, 1) := by decide +kernel
theorem dX8_layMatch_92 : decode cX8_layMatch 92 = .ok (.iload_n 2, 1) := by decide +kernel
theorem dX8_layMatch_93 : decode cX8_layMatch 93 = .ok (.iload 5, 2) := by decide +kernel
theorem dX8_layMatch_95 : decode cX8_layMatch 95 = .ok (.invokevirtual 159, 3) := by decide +kernel
theorem dX8_layMatch_98 : decode cX8_layMatch 98 = .ok (.istore 6, 2) := by decide +kernel
theorem dX8_layMatch_100 : decode cX8_layMatch 100 = .ok (.iload 6, 2) := by decide +kernel
theorem dX8_layMatch_102 : decode cX8_layMatch 102 = .ok (.ifCond .ne 7, 3) := by decide +kernel
theorem dX8_layMatch_105 : decode cX8_layMatch 105 = .ok (.iconst 0, 1) := by decide +kernel
theorem dX8_layMatch_106 : decode cX8_layMatch 106 = .ok (.goto 24, 3) := by decide +kernel
theorem dX8_layMatch_109 : decode cX8_layMatch 109 = .ok (.iload 6, 2) := by decide +kernel
theorem dX8_layMatch_111 : decode cX8_layMatch 111 = .ok (.aload_n 0, 1) := by decide +kernel
theorem dX8_layMatch_112 : decode cX8_layMatch 112 = .ok (.getfield 42, 3) := by decide +kernel
theorem dX8_layMatch_115 : decode cX8_layMatch 115 = .ok (.bipush 64, 2) := by decide +kernel
theorem dX8_layMatch_117 : decode cX8_layMatch 117 = .ok (.iload_n 2, 1) := by decide +kernel
theorem dX8_layMatch_118 : decode cX8_layMatch 118 = .ok (.iconst 1, 1) := by decide +kernel
theorem dX8_layMatch_119 : decode cX8_layMatch 119 = .ok (.iadd, 1) := by decide +kernel
theorem dX8_layMatch_120 : decode cX8_layMatch 120 = .ok (.imul, 1) := by decide +kernel
theorem dX8_layMatch_121 : decode cX8_layMatch 121 = .ok (.iload_n 3, 1) := by decide +kernel
theorem dX8_layMatch_122 : decode cX8_layMatch 122 = .ok (.iconst 1, 1) := by decide +kernel
theorem dX8_layMatch_123 : decode cX8_layMatch 123 = .ok (.iload 5, 2) := by decide +kernel
theorem dX8_layMatch_125 : decode cX8_layMatch 125 = .ok (.ishl, 1) := by decide +kernel
theorem dX8_layMatch_126 : decode cX8_layMatch 126 = .ok (.ior, 1) := by decide +kernel
theorem dX8_layMatch_127 : decode cX8_layMatch 127 = .ok (.iadd, 1) := by decide +kernel
theorem dX8_layMatch_128 : decode cX8_layMatch 128 = .ok (.iaload, 1) := by decide +kernel
theorem dX8_layMatch_129 : decode cX8_layMatch 129 = .ok (.iadd, 1) := by decide +kernel
theorem dX8_layMatch_130 : decode cX8_layMatch 130 = .ok (.istore 7, 2) := by decide +kernel
theorem dX8_layMatch_132 : decode cX8_layMatch 132 = .ok (.iload 7, 2) := by decide +kernel
theorem dX8_layMatch_134 : decode cX8_layMatch 134 = .ok (.iload 4, 2) := by decide +kernel
theorem dX8_layMatch_136 : decode cX8_layMatch 136 = .ok (.if_icmp .le 8, 3) := by decide +kernel
theorem dX8_layMatch_139 : decode cX8_layMatch 139 = .ok (.iload 7, 2) := by decide +kernel
theorem dX8_layMatch_141 : decode cX8_layMatch 141 = .ok (.goto 5, 3) := by decide +kernel
theorem dX8_layMatch_144 : decode cX8_layMatch 144 = .ok (.iload 4, 2) := by decide +kernel
theorem dX8_layMatch_146 : decode cX8_layMatch 146 = .ok (.istore 4, 2) := by decide +kernel
theorem dX8_layMatch_148 : decode cX8_layMatch 148 = .ok (.iinc 5 1, 3) := by decide +kernel
theorem dX8_layMatch_151 : decode cX8_layMatch 151 = .ok (.goto (-84), 3) := by decide +kernel
theorem dX8_layMatch_154 : decode cX8_layMatch 154 = .ok (.aload_n 0, 1) := by decide +kernel
theorem dX8_layMatch_155 : decode cX8_layMatch 155 = .ok (.getfield 42, 3) := by decide +kernel
theorem dX8_layMatch_158 : decode cX8_layMatch 158 = .ok (.bipush 64, 2) := by decide +kernel
theorem dX8_layMatch_160 : decode cX8_layMatch 160 = .ok (.iload_n 2, 1) := by decide +kernel
theorem dX8_layMatch_161 : decode cX8_layMatch 161 = .ok (.imul, 1) := by decide +kernel
theorem dX8_layMatch_162 : decode cX8_layMatch 162 = .ok (.iload_n 3, 1) := by decide +kernel
theorem dX8_layMatch_163 : decode cX8_layMatch 163 = .ok (.iadd, 1) := by decide +kernel
theorem dX8_layMatch_164 : decode cX8_layMatch 164 = .ok (.iload 4, 2) := by decide +kernel
theorem dX8_layMatch_166 : decode cX8_layMatch 166 = .ok (.iastore, 1) := by decide +kernel
theorem dX8_layMatch_167 : decode cX8_layMatch 167 = .ok (.iinc 3 1, 3) := by decide +kernel
theorem dX8_layMatch_170 : decode cX8_layMatch 170 = .ok (.goto (-127), 3) := by decide +kernel
theorem dX8_layMatch_173 : decode cX8_layMatch 173 = .ok (.iinc 2 (-1), 3) := by decide +kernel
theorem dX8_layMatch_176 : decode cX8_layMatch 176 = .ok (.goto (-139), 3) := by decide +kernel
theorem dX8_layMatch_179 : decode cX8_layMatch 179 = .ok (.return_, 1) := by decide +kernel
theorem dX8_matched_0 : decode cX8_matched 0 = .ok (.iconst 0, 1) := by decide +kernel
theorem dX8_matched_1 : decode cX8_matched 1 = .ok (.istore_n 2, 1) := by decide +kernel
theorem dX8_matched_2 : decode cX8_matched 2 = .ok (.bipush (-4), 2) := by decide +kernel
theorem dX8_matched_4 : decode cX8_matched 4 = .ok (.istore_n 3, 1) := by decide +kernel
theorem dX8_matched_5 : decode cX8_matched 5 = .ok (.iconst 0, 1) := by decide +kernel
theorem dX8_matched_6 : decode cX8_matched 6 = .ok (.istore 4, 2) := by decide +kernel
theorem dX8_matched_8 : decode cX8_matched 8 = .ok (.iload 4, 2) := by decide +kernel
theorem dX8_matched_10 : decode cX8_matched 10 = .ok (.iload_n 1, 1) := by decide +kernel
theorem dX8_matched_11 : decode cX8_matched 11 = .ok (.if_icmp .gt 121, 3) := by decide +kernel
theorem dX8_matched_14 : decode cX8_matched 14 = .ok (.bipush (-4), 2) := by decide +kernel
theorem dX8_matched_16 : decode cX8_matched 16 = .ok (.istore_n 3, 1) := by decide +kernel
theorem dX8_matched_17 : decode cX8_matched 17 = .ok (.aload_n 0, 1) := by decide +kernel
theorem dX8_matched_18 : decode cX8_matched 18 = .ok (.getfield 23, 3) := by decide +kernel
theorem dX8_matched_21 : decode cX8_matched 21 = .ok (.iconst 1, 1) := by decide +kernel
theorem dX8_matched_22 : decode cX8_matched 22 = .ok (.iaload, 1) := by decide +kernel
theorem dX8_matched_23 : decode cX8_matched 23 = .ok (.iconst 1, 1) := by decide +kernel
theorem dX8_matched_24 : decode cX8_matched 24 = .ok (.isub, 1) := by decide +kernel
theorem dX8_matched_25 : decode cX8_matched 25 = .ok (.istore 5, 2) := by decide +kernel
theorem dX8_matched_27 : decode cX8_matched 27 = .ok (.iload 5, 2) := by decide +kernel
theorem dX8_matched_29 : decode cX8_matched 29 = .ok (.ifCond .lt 81, 3) := by decide +kernel
theorem dX8_matched_32 : decode cX8_matched 32 = .ok (.iload_n 2, 1) := by decide +kernel
theorem dX8_matched_33 : decode cX8_matched 33 = .ok (.iload 5, 2) := by decide +kernel
theorem dX8_matched_35 : decode cX8_matched 35 = .ok (.invokestatic 156, 3) := by decide +kernel
theorem dX8_matched_38 : decode cX8_matched 38 = .ok (.ifCond .eq 7, 3) := by decide +kernel
theorem dX8_matched_41 : decode cX8_matched 41 = .ok (.iconst 0, 1) := by decide +kernel
theorem dX8_matched_42 : decode cX8_matched 42 = .ok (.goto 11, 3) := by decide +kernel
theorem dX8_matched_45 : decode cX8_matched 45 = .ok (.aload_n 0, 1) := by decide +kernel
theorem dX8_matched_46 : decode cX8_matched 46 = .ok (.iload 4, 2) := by decide +kernel
theorem dX8_matched_48 : decode cX8_matched 48 = .ok (.iload 5, 2) := by decide +kernel
theorem dX8_matched_50 : decode cX8_matched 50 = .ok (.invokevirtual 159, 3) := by decide +kernel
theorem dX8_matched_53 : decode cX8_matched 53 = .ok (.istore 6, 2) := by decide +kernel
theorem dX8_matched_55 : decode cX8_matched 55 = .ok (.iload 6, 2) := by decide +kernel
theorem dX8_matched_57 : decode cX8_matched 57 = .ok (.ifCond .le 45, 3) := by decide +kernel
theorem dX8_matched_60 : decode cX8_matched 60 = .ok (.iload 6, 2) := by decide +kernel
theorem dX8_matched_62 : decode cX8_matched 62 = .ok (.aload_n 0, 1) := by decide +kernel
theorem dX8_matched_63 : decode cX8_matched 63 = .ok (.getfield 42, 3) := by decide +kernel
theorem dX8_matched_66 : decode cX8_matched 66 = .ok (.bipush 64, 2) := by decide +kernel
theorem dX8_matched_68 : decode cX8_matched 68 = .ok (.iload 4, 2) := by decide +kernel
theorem dX8_matched_70 : decode cX8_matched 70 = .ok (.iconst 1, 1) := by decide +kernel
theorem dX8_matched_71 : decode cX8_matched 71 = .ok (.iadd, 1) := by decide +kernel
theorem dX8_matched_72 : decode cX8_matched 72 = .ok (.imul, 1) := by decide +kernel
theorem dX8_matched_73 : decode cX8_matched 73 = .ok (.iload_n 2, 1) := by decide +kernel
theorem dX8_matched_74 : decode cX8_matched 74 = .ok (.iconst 1, 1) := by decide +kernel
theorem dX8_matched_75 : decode cX8_matched 75 = .ok (.iload 5, 2) := by decide +kernel
theorem dX8_matched_77 : decode cX8_matched 77 = .ok (.ishl, 1) := by decide +kernel
theorem dX8_matched_78 : decode cX8_matched 78 = .ok (.ior, 1) := by decide +kernel
theorem dX8_matched_79 : decode cX8_matched 79 = .ok (.iadd, 1) := by decide +kernel
theorem dX8_matched_80 : decode cX8_matched 80 = .ok (.iaload, 1) := by decide +kernel
theorem dX8_matched_81 : decode cX8_matched 81 = .ok (.iadd, 1) := by decide +kernel
theorem dX8_matched_82 : decode cX8_matched 82 = .ok (.aload_n 0, 1) := by decide +kernel
theorem dX8_matched_83 : decode cX8_matched 83 = .ok (.getfield 42, 3) := by decide +kernel
theorem dX8_matched_86 : decode cX8_matched 86 = .ok (.bipush 64, 2) := by decide +kernel
theorem dX8_matched_88 : decode cX8_matched 88 = .ok (.iload 4, 2) := by decide +kernel
theorem dX8_matched_90 : decode cX8_matched 90 = .ok (.imul, 1) := by decide +kernel
theorem dX8_matched_91 : decode cX8_matched 91 = .ok (.iload_n 2, 1) := by decide +kernel
theorem dX8_matched_92 : decode cX8_matched 92 = .ok (.iadd, 1) := by decide +kernel
theorem dX8_matched_93 : decode cX8_matched 93 = .ok (.iaload, 1) := by decide +kernel
theorem dX8_matched_94 : decode cX8_matched 94 = .ok (.if_icmp .ne 8, 3) := by decide +kernel
theorem dX8_matched_97 : decode cX8_matched 97 = .ok (.iload 5, 2) := by decide +kernel
theorem dX8_matched_99 : decode cX8_matched 99 = .ok (.goto 4, 3) := by decide +kernel
theorem dX8_matched_102 : decode cX8_matched 102 = .ok (.iload_n 3, 1) := by decide +kernel
theorem dX8_matched_103 : decode cX8_matched 103 = .ok (.istore_n 3, 1) := by decide +kernel
theorem dX8_matched_104 : decode cX8_matched 104 = .ok (.iinc 5 (-1), 3) := by decide +kernel
theorem dX8_matched_107 : decode cX8_matched 107 = .ok (.goto (-80), 3) := by decide +kernel
theorem dX8_matched_110 : decode cX8_matched 110 = .ok (.iload_n 3, 1) := by decide +kernel
theorem dX8_matched_111 : decode cX8_matched 111 = .ok (.bipush (-4), 2) := by decide +kernel
theorem dX8_matched_113 : decode cX8_matched 113 = .ok (.if_icmp .ne 7, 3) := by decide +kernel
theorem dX8_matched_116 : decode cX8_matched 116 = .ok (.iload_n 2, 1) := by decide +kernel
theorem dX8_matched_117 : decode cX8_matched 117 = .ok (.goto 8, 3) := by decide +kernel
theorem dX8_matched_120 : decode cX8_matched 120 = .ok (.iload_n 2, 1) := by decide +kernel
theorem dX8_matched_121 : decode cX8_matched 121 = .ok (.iconst 1, 1) := by decide +kernel
theorem dX8_matched_122 : decode cX8_matched 122 = .ok (.iload_n 3, 1) := by decide +kernel
theorem dX8_matched_123 : decode cX8_matched 123 = .ok (.ishl, 1) := by decide +kernel
theorem dX8_matched_124 : decode cX8_matched 124 = .ok (.ior, 1) := by decide +kernel
theorem dX8_matched_125 : decode cX8_matched 125 = .ok (.istore_n 2, 1) := by decide +kernel
theorem dX8_matched_126 : decode cX8_matched 126 = .ok (.iinc 4 1, 3) := by decide +kernel
theorem dX8_matched_129 : decode cX8_matched 129 = .ok (.goto (-121), 3) := by decide +kernel
theorem dX8_matched_132 : decode cX8_matched 132 = .ok (.iload_n 3, 1) := by decide +kernel
theorem dX8_matched_133 : decode cX8_matched 133 = .ok (.ireturn, 1) := by decide +kernel
theorem dX8_match_0 : decode cX8_match 0 = .ok (.iload_n 1, 1) := by decide +kernel
theorem dX8_match_1 : decode cX8_match 1 = .ok (.iconst (-1), 1) := by decide +kernel
theorem dX8_match_2 : decode cX8_match 2 = .ok (.if_icmp .eq 20, 3) := by decide +kernel
theorem dX8_match_5 : decode cX8_match 5 = .ok (.aload_n 0, 1) := by decide +kernel
theorem dX8_match_6 : decode cX8_match 6 = .ok (.iload_n 1, 1) := by decide +kernel
theorem dX8_match_7 : decode cX8_match 7 = .ok (.invokevirtual 108, 3) := by decide +kernel
theorem dX8_match_10 : decode cX8_match 10 = .ok (.ifCond .ne 12, 3) := by decide +kernel
theorem dX8_match_13 : decode cX8_match 13 = .ok (.aload_n 0, 1) := by decide +kernel
theorem dX8_match_14 : decode cX8_match 14 = .ok (.invokevirtual 150, 3) := by decide +kernel
theorem dX8_match_17 : decode cX8_match 17 = .ok (.ifCond .eq 5, 3) := by decide +kernel
theorem dX8_match_20 : decode cX8_match 20 = .ok (.iconst (-1), 1) := by decide +kernel
theorem dX8_match_21 : decode cX8_match 21 = .ok (.ireturn, 1) := by decide +kernel
theorem dX8_match_22 : decode cX8_match 22 = .ok (.aload_n 0, 1) := by decide +kernel
theorem dX8_match_23 : decode cX8_match 23 = .ok (.invokevirtual 150, 3) := by decide +kernel
theorem dX8_match_26 : decode cX8_match 26 = .ok (.ifCond .ne 15, 3) := by decide +kernel
theorem dX8_match_29 : decode cX8_match 29 = .ok (.iload_n 1, 1) := by decide +kernel
theorem dX8_match_30 : decode cX8_match 30 = .ok (.iconst (-1), 1) := by decide +kernel
theorem dX8_match_31 : decode cX8_match 31 = .ok (.if_icmp .ne 8, 3) := by decide +kernel
theorem dX8_match_34 : decode cX8_match 34 = .ok (.bipush (-2), 2) := by decide +kernel
theorem dX8_match_36 : decode cX8_match 36 = .ok (.goto 4, 3) := by decide +kernel
theorem dX8_match_39 : decode cX8_match 39 = .ok (.iconst (-1), 1) := by decide +kernel
theorem dX8_match_40 : decode cX8_match 40 = .ok (.ireturn, 1) := by decide +kernel
theorem dX8_match_41 : decode cX8_match 41 = .ok (.aload_n 0, 1) := by decide +kernel
theorem dX8_match_42 : decode cX8_match 42 = .ok (.invokevirtual 162, 3) := by decide +kernel
theorem dX8_match_45 : decode cX8_match 45 = .ok (.iload_n 1, 1) := by decide +kernel
theorem dX8_match_46 : decode cX8_match 46 = .ok (.iconst (-1), 1) := by decide +kernel
theorem dX8_match_47 : decode cX8_match 47 = .ok (.if_icmp .ne 18, 3) := by decide +kernel
theorem dX8_match_50 : decode cX8_match 50 = .ok (.aload_n 0, 1) := by decide +kernel
theorem dX8_match_51 : decode cX8_match 51 = .ok (.getfield 42, 3) := by decide +kernel
theorem dX8_match_54 : decode cX8_match 54 = .ok (.iconst 0, 1) := by decide +kernel
theorem dX8_match_55 : decode cX8_match 55 = .ok (.iaload, 1) := by decide +kernel
theorem dX8_match_56 : decode cX8_match 56 = .ok (.bipush 99, 2) := by decide +kernel
theorem dX8_match_58 : decode cX8_match 58 = .ok (.iadd, 1) := by decide +kernel
theorem dX8_match_59 : decode cX8_match 59 = .ok (.bipush 100, 2) := by decide +kernel
theorem dX8_match_61 : decode cX8_match 61 = .ok (.idiv, 1) := by decide +kernel
theorem dX8_match_62 : decode cX8_match 62 = .ok (.goto 8, 3) := by decide +kernel
theorem dX8_match_65 : decode cX8_match 65 = .ok (.aload_n 0, 1) := by decide +kernel
theorem dX8_match_66 : decode cX8_match 66 = .ok (.iload_n 1, 1) := by decide +kernel
theorem dX8_match_67 : decode cX8_match 67 = .ok (.invokevirtual 165, 3) := by decide +kernel
theorem dX8_match_70 : decode cX8_match 70 = .ok (.ireturn, 1) := by decide +kernel
theorem dX8_stepsTo_0 : decode cX8_stepsTo 0 = .ok (.iload_n 1, 1) := by decide +kernel
theorem dX8_stepsTo_1 : decode cX8_stepsTo 1 = .ok (.istore_n 3, 1) := by decide +kernel
theorem dX8_stepsTo_2 : decode cX8_stepsTo 2 = .ok (.iconst 1, 1) := by decide +kernel
theorem dX8_stepsTo_3 : decode cX8_stepsTo 3 = .ok (.istore 4, 2) := by decide +kernel
theorem dX8_stepsTo_5 : decode cX8_stepsTo 5 = .ok (.iload 4, 2) := by decide +kernel
theorem dX8_stepsTo_7 : decode cX8_stepsTo 7 = .ok (.bipush 6, 2) := by decide +kernel
theorem dX8_stepsTo_9 : decode cX8_stepsTo 9 = .ok (.if_icmp .gt 33, 3) := by decide +kernel
theorem dX8_stepsTo_12 : decode cX8_stepsTo 12 = .ok (.iload_n 3, 1) := by decide +kernel
theorem dX8_stepsTo_13 : decode cX8_stepsTo 13 = .ok (.bipush (-4), 2) := by decide +kernel
theorem dX8_stepsTo_15 : decode cX8_stepsTo 15 = .ok (.if_icmp .eq 27, 3) := by decide +kernel
theorem dX8_stepsTo_18 : decode cX8_stepsTo 18 = .ok (.aload_n 0, 1) := by decide +kernel
theorem dX8_stepsTo_19 : decode cX8_stepsTo 19 = .ok (.getfield 23, 3) := by decide +kernel
theorem dX8_stepsTo_22 : decode cX8_stepsTo 22 = .ok (.bipush 33, 2) := by decide +kernel
theorem dX8_stepsTo_24 : decode cX8_stepsTo 24 = .ok (.iload_n 3, 1) := by decide +kernel
theorem dX8_stepsTo_25 : decode cX8_stepsTo 25 = .ok (.iadd, 1) := by decide +kernel
theorem dX8_stepsTo_26 : decode cX8_stepsTo 26 = .ok (.iaload, 1) := by decide +kernel
theorem dX8_stepsTo_27 : decode cX8_stepsTo 27 = .ok (.istore_n 3, 1) := by decide +kernel
theorem dX8_stepsTo_28 : decode cX8_stepsTo 28 = .ok (.iload_n 3, 1) := by decide +kernel
theorem dX8_stepsTo_29 : decode cX8_stepsTo 29 = .ok (.iload_n 2, 1) := by decide +kernel
theorem dX8_stepsTo_30 : decode cX8_stepsTo 30 = .ok (.if_icmp .ne 6, 3) := by decide +kernel
theorem dX8_stepsTo_33 : decode cX8_stepsTo 33 = .ok (.iload 4, 2) := by decide +kernel
theorem dX8_stepsTo_35 : decode cX8_stepsTo 35 = .ok (.ireturn, 1) := by decide +kernel
theorem dX8_stepsTo_36 : decode cX8_stepsTo 36 = .ok (.iinc 4 1, 3) := by decide +kernel
theorem dX8_stepsTo_39 : decode cX8_stepsTo 39 = .ok (.goto (-34), 3) := by decide +kernel
theorem dX8_stepsTo_42 : decode cX8_stepsTo 42 = .ok (.bipush (-4), 2) := by decide +kernel
theorem dX8_stepsTo_44 : decode cX8_stepsTo 44 = .ok (.ireturn, 1) := by decide +kernel
theorem dX8_chain_0 : decode cX8_chain 0 = .ok (.aload_n 0, 1) := by decide +kernel
theorem dX8_chain_1 : decode cX8_chain 1 = .ok (.iload_n 1, 1) := by decide +kernel
theorem dX8_chain_2 : decode cX8_chain 2 = .ok (.invokevirtual 105, 3) := by decide +kernel
theorem dX8_chain_5 : decode cX8_chain 5 = .ok (.ifCond .eq 12, 3) := by decide +kernel
theorem dX8_chain_8 : decode cX8_chain 8 = .ok (.iload_n 2, 1) := by decide +kernel
theorem dX8_chain_9 : decode cX8_chain 9 = .ok (.iconst 0, 1) := by decide +kernel
theorem dX8_chain_10 : decode cX8_chain 10 = .ok (.iconst 1, 1) := by decide +kernel
theorem dX8_chain_11 : decode cX8_chain 11 = .ok (.invokestatic 57, 3) := by decide +kernel
theorem dX8_chain_14 : decode cX8_chain 14 = .ok (.ifCond .ne 5, 3) := by decide +kernel
theorem dX8_chain_17 : decode cX8_chain 17 = .ok (.iconst (-1), 1) := by decide +kernel
theorem dX8_chain_18 : decode cX8_chain 18 = .ok (.ireturn, 1) := by decide +kernel
theorem dX8_chain_19 : decode cX8_chain 19 = .ok (.iload_n 1, 1) := by decide +kernel
theorem dX8_chain_20 : decode cX8_chain 20 = .ok (.istore_n 3, 1) := by decide +kernel
theorem dX8_chain_21 : decode cX8_chain 21 = .ok (.iconst 0, 1) := by decide +kernel
theorem dX8_chain_22 : decode cX8_chain 22 = .ok (.istore 4, 2) := by decide +kernel
theorem dX8_chain_24 : decode cX8_chain 24 = .ok (.iload_n 3, 1) := by decide +kernel
theorem dX8_chain_25 : decode cX8_chain 25 = .ok (.bipush (-4), 2) := by decide +kernel
theorem dX8_chain_27 : decode cX8_chain 27 = .ok (.if_icmp .eq 30, 3) := by decide +kernel
theorem dX8_chain_30 : decode cX8_chain 30 = .ok (.aload_n 0, 1) := by decide +kernel
theorem dX8_chain_31 : decode cX8_chain 31 = .ok (.iload_n 3, 1) := by decide +kernel
theorem dX8_chain_32 : decode cX8_chain 32 = .ok (.iload_n 3, 1) := by decide +kernel
theorem dX8_chain_33 : decode cX8_chain 33 = .ok (.invokevirtual 168, 3) := by decide +kernel
theorem dX8_chain_36 : decode cX8_chain 36 = .ok (.bipush (-4), 2) := by decide +kernel
theorem dX8_chain_38 : decode cX8_chain 38 = .ok (.if_icmp .ne 19, 3) := by decide +kernel
theorem dX8_chain_41 : decode cX8_chain 41 = .ok (.aload_n 0, 1) := by decide +kernel
theorem dX8_chain_42 : decode cX8_chain 42 = .ok (.getfield 23, 3) := by decide +kernel
theorem dX8_chain_45 : decode cX8_chain 45 = .ok (.bipush 33, 2) := by decide +kernel
theorem dX8_chain_47 : decode cX8_chain 47 = .ok (.iload_n 3, 1) := by decide +kernel
theorem dX8_chain_48 : decode cX8_chain 48 = .ok (.iadd, 1) := by decide +kernel
theorem dX8_chain_49 : decode cX8_chain 49 = .ok (.iaload, 1) := by decide +kernel
theorem dX8_chain_50 : decode cX8_chain 50 = .ok (.istore_n 3, 1) := by decide +kernel
theorem dX8_chain_51 : decode cX8_chain 51 = .ok (.iinc 4 1, 3) := by decide +kernel
theorem dX8_chain_54 : decode cX8_chain 54 = .ok (.goto (-30), 3) := by decide +kernel
theorem dX8_chain_57 : decode cX8_chain 57 = .ok (.iload_n 2, 1) := by decide +kernel
theorem dX8_chain_58 : decode cX8_chain 58 = .ok (.ifCond .ne 8, 3) := by decide +kernel
theorem dX8_chain_61 : decode cX8_chain 61 = .ok (.iload 4, 2) := by decide +kernel
theorem dX8_chain_63 : decode cX8_chain 63 = .ok (.goto 19, 3) := by decide +kernel
theorem dX8_chain_66 : decode cX8_chain 66 = .ok (.iload_n 3, 1) := by decide +kernel
theorem dX8_chain_67 : decode cX8_chain 67 = .ok (.bipush (-4), 2) := by decide +kernel
theorem dX8_chain_69 : decode cX8_chain 69 = .ok (.if_icmp .ne 7, 3) := by decide +kernel
theorem dX8_chain_72 : decode cX8_chain 72 = .ok (.iconst 0, 1) := by decide +kernel
theorem dX8_chain_73 : decode cX8_chain 73 = .ok (.goto 9, 3) := by decide +kernel
theorem dX8_chain_76 : decode cX8_chain 76 = .ok (.aload_n 0, 1) := by decide +kernel
theorem dX8_chain_77 : decode cX8_chain 77 = .ok (.iload_n 3, 1) := by decide +kernel
theorem dX8_chain_78 : decode cX8_chain 78 = .ok (.iload_n 3, 1) := by decide +kernel
theorem dX8_chain_79 : decode cX8_chain 79 = .ok (.invokevirtual 168, 3) := by decide +kernel
theorem dX8_chain_82 : decode cX8_chain 82 = .ok (.ireturn, 1) := by decide +kernel
theorem dX8_reach_0 : decode cX8_reach 0 = .ok (.aload_n 0, 1) := by decide +kernel
theorem dX8_reach_1 : decode cX8_reach 1 = .ok (.iload_n 1, 1) := by decide +kernel
theorem dX8_reach_2 : decode cX8_reach 2 = .ok (.invokevirtual 105, 3) := by decide +kernel
theorem dX8_reach_5 : decode cX8_reach 5 = .ok (.ifCond .eq 13, 3) := by decide +kernel
theorem dX8_reach_8 : decode cX8_reach 8 = .ok (.iload_n 2, 1) := by decide +kernel
theorem dX8_reach_9 : decode cX8_reach 9 = .ok (.iconst 0, 1) := by decide +kernel
theorem dX8_reach_10 : decode cX8_reach 10 = .ok (.bipush 9, 2) := by decide +kernel
theorem dX8_reach_12 : decode cX8_reach 12 = .ok (.invokestatic 57, 3) := by decide +kernel
theorem dX8_reach_15 : decode cX8_reach 15 = .ok (.ifCond .ne 5, 3) := by decide +kernel
theorem dX8_reach_18 : decode cX8_reach 18 = .ok (.iconst (-1), 1) := by decide +kernel
theorem dX8_reach_19 : decode cX8_reach 19 = .ok (.ireturn, 1) := by decide +kernel
theorem dX8_reach_20 : decode cX8_reach 20 = .ok (.iconst 0, 1) := by decide +kernel
theorem dX8_reach_21 : decode cX8_reach 21 = .ok (.istore_n 3, 1) := by decide +kernel
theorem dX8_reach_22 : decode cX8_reach 22 = .ok (.iload_n 3, 1) := by decide +kernel
theorem dX8_reach_23 : decode cX8_reach 23 = .ok (.bipush 10, 2) := by decide +kernel
theorem dX8_reach_25 : decode cX8_reach 25 = .ok (.if_icmp .ge 33, 3) := by decide +kernel
theorem dX8_reach_28 : decode cX8_reach 28 = .ok (.aload_n 0, 1) := by decide +kernel
theorem dX8_reach_29 : decode cX8_reach 29 = .ok (.getfield 45, 3) := by decide +kernel
theorem dX8_reach_32 : decode cX8_reach 32 = .ok (.iload_n 3, 1) := by decide +kernel
theorem dX8_reach_33 : decode cX8_reach 33 = .ok (.iload_n 3, 1) := by decide +kernel
theorem dX8_reach_34 : decode cX8_reach 34 = .ok (.aload_n 0, 1) := by decide +kernel
theorem dX8_reach_35 : decode cX8_reach 35 = .ok (.getfield 23, 3) := by decide +kernel
theorem dX8_reach_38 : decode cX8_reach 38 = .ok (.bipush 27, 2) := by decide +kernel
theorem dX8_reach_40 : decode cX8_reach 40 = .ok (.iload_n 1, 1) := by decide +kernel
theorem dX8_reach_41 : decode cX8_reach 41 = .ok (.iadd, 1) := by decide +kernel
theorem dX8_reach_42 : decode cX8_reach 42 = .ok (.iaload, 1) := by decide +kernel
theorem dX8_reach_43 : decode cX8_reach 43 = .ok (.if_icmp .ne 7, 3) := by decide +kernel
theorem dX8_reach_46 : decode cX8_reach 46 = .ok (.iconst 1, 1) := by decide +kernel
theorem dX8_reach_47 : decode cX8_reach 47 = .ok (.goto 4, 3) := by decide +kernel
theorem dX8_reach_50 : decode cX8_reach 50 = .ok (.iconst 0, 1) := by decide +kernel
theorem dX8_reach_51 : decode cX8_reach 51 = .ok (.iastore, 1) := by decide +kernel
theorem dX8_reach_52 : decode cX8_reach 52 = .ok (.iinc 3 1, 3) := by decide +kernel
theorem dX8_reach_55 : decode cX8_reach 55 = .ok (.goto (-33), 3) := by decide +kernel
theorem dX8_reach_58 : decode cX8_reach 58 = .ok (.iconst 0, 1) := by decide +kernel
theorem dX8_reach_59 : decode cX8_reach 59 = .ok (.istore_n 3, 1) := by decide +kernel
theorem dX8_reach_60 : decode cX8_reach 60 = .ok (.aload_n 0, 1) := by decide +kernel
theorem dX8_reach_61 : decode cX8_reach 61 = .ok (.getfield 45, 3) := by decide +kernel
theorem dX8_reach_64 : decode cX8_reach 64 = .ok (.iload_n 2, 1) := by decide +kernel
theorem dX8_reach_65 : decode cX8_reach 65 = .ok (.iaload, 1) := by decide +kernel
theorem dX8_reach_66 : decode cX8_reach 66 = .ok (.ifCond .ne 151, 3) := by decide +kernel
theorem dX8_reach_69 : decode cX8_reach 69 = .ok (.aload_n 0, 1) := by decide +kernel
theorem dX8_reach_70 : decode cX8_reach 70 = .ok (.getfield 23, 3) := by decide +kernel
theorem dX8_reach_73 : decode cX8_reach 73 = .ok (.iconst 0, 1) := by decide +kernel
theorem dX8_reach_74 : decode cX8_reach 74 = .ok (.iaload, 1) := by decide +kernel
theorem dX8_reach_75 : decode cX8_reach 75 = .ok (.iload_n 3, 1) := by decide +kernel
theorem dX8_reach_76 : decode cX8_reach 76 = .ok (.iadd, 1) := by decide +kernel
theorem dX8_reach_77 : decode cX8_reach 77 = .ok (.iconst 2, 1) := by decide +kernel
theorem dX8_reach_78 : decode cX8_reach 78 = .ok (.irem, 1) := by decide +kernel
theorem dX8_reach_79 : decode cX8_reach 79 = .ok (.ifCond .ne 7, 3) := by decide +kernel
theorem dX8_reach_82 : decode cX8_reach 82 = .ok (.iconst 1, 1) := by decide +kernel
theorem dX8_reach_83 : decode cX8_reach 83 = .ok (.goto 4, 3) := by decide +kernel
theorem dX8_reach_86 : decode cX8_reach 86 = .ok (.iconst 0, 1) := by decide +kernel
theorem dX8_reach_87 : decode cX8_reach 87 = .ok (.istore 4, 2) := by decide +kernel
theorem dX8_reach_89 : decode cX8_reach 89 = .ok (.iconst 0, 1) := by decide +kernel
theorem dX8_reach_90 : decode cX8_reach 90 = .ok (.istore 5, 2) := by decide +kernel
theorem dX8_reach_92 : decode cX8_reach 92 = .ok (.iload 5, 2) := by decide +kernel
theorem dX8_reach_94 : decode cX8_reach 94 = .ok (.bipush 10, 2) := by decide +kernel
theorem dX8_reach_96 : decode cX8_reach 96 = .ok (.if_icmp .ge 100, 3) := by decide +kernel
theorem dX8_reach_99 : decode cX8_reach 99 = .ok (.aload_n 0, 1) := by decide +kernel
theorem dX8_reach_100 : decode cX8_reach 100 = .ok (.getfield 48, 3) := by decide +kernel
theorem dX8_reach_103 : decode cX8_reach 103 = .ok (.iload 5, 2) := by decide +kernel
theorem dX8_reach_105 : decode cX8_reach 105 = .ok (.iconst 0, 1) := by decide +kernel
theorem dX8_reach_106 : decode cX8_reach 106 = .ok (.iastore, 1) := by decide +kernel
theorem dX8_reach_107 : decode cX8_reach 107 = .ok (.iconst 0, 1) := by decide +kernel
theorem dX8_reach_108 : decode cX8_reach 108 = .ok (.istore 6, 2) := by decide +kernel
theorem dX8_reach_110 : decode cX8_reach 110 = .ok (.iload 6, 2) := by decide +kernel
theorem dX8_reach_112 : decode cX8_reach 112 = .ok (.bipush 10, 2) := by decide +kernel
theorem dX8_reach_114 : decode cX8_reach 114 = .ok (.if_icmp .ge 76, 3) := by decide +kernel
theorem dX8_reach_117 : decode cX8_reach 117 = .ok (.aload_n 0, 1) := by decide +kernel
theorem dX8_reach_118 : decode cX8_reach 118 = .ok (.getfield 45, 3) := by decide +kernel
theorem dX8_reach_121 : decode cX8_reach 121 = .ok (.iload 6, 2) := by decide +kernel
theorem dX8_reach_123 : decode cX8_reach 123 = .ok (.iaload, 1) := by decide +kernel
theorem dX8_reach_124 : decode cX8_reach 124 = .ok (.iconst 1, 1) := by decide +kernel
theorem dX8_reach_125 : decode cX8_reach 125 = .ok (.if_icmp .ne 33, 3) := by decide +kernel
theorem dX8_reach_128 : decode cX8_reach 128 = .ok (.iload 6, 2) := by decide +kernel
theorem dX8_reach_130 : decode cX8_reach 130 = .ok (.iload 5, 2) := by decide +kernel
theorem dX8_reach_132 : decode cX8_reach 132 = .ok (.invokestatic 119, 3) := by decide +kernel
theorem dX8_reach_135 : decode cX8_reach 135 = .ok (.iconst 3, 1) := by decide +kernel
theorem dX8_reach_136 : decode cX8_reach 136 = .ok (.if_icmp .gt 22, 3) := by decide +kernel
theorem dX8_reach_139 : decode cX8_reach 139 = .ok (.iload 4, 2) := by decide +kernel
theorem dX8_reach_141 : decode cX8_reach 141 = .ok (.ifCond .ne 13, 3) := by decide +kernel
theorem dX8_reach_144 : decode cX8_reach 144 = .ok (.iload 6, 2) := by decide +kernel
theorem dX8_reach_146 : decode cX8_reach 146 = .ok (.iload 5, 2) := by decide +kernel
theorem dX8_reach_148 : decode cX8_reach 148 = .ok (.invokestatic 115, 3) := by decide +kernel
theorem dX8_reach_151 : decode cX8_reach 151 = .ok (.ifCond .ne 7, 3) := by decide +kernel
theorem dX8_reach_154 : decode cX8_reach 154 = .ok (.iconst 1, 1) := by decide +kernel
theorem dX8_reach_155 : decode cX8_reach 155 = .ok (.goto 4, 3) := by decide +kernel
theorem dX8_reach_158 : decode cX8_reach 158 = .ok (.iconst 0, 1) := by decide +kernel
theorem dX8_reach_159 : decode cX8_reach 159 = .ok (.istore 7, 2) := by decide +kernel
theorem dX8_reach_161 : decode cX8_reach 161 = .ok (.aload_n 0, 1) := by decide +kernel
theorem dX8_reach_162 : decode cX8_reach 162 = .ok (.getfield 48, 3) := by decide +kernel
theorem dX8_reach_165 : decode cX8_reach 165 = .ok (.iload 5, 2) := by decide +kernel
theorem dX8_reach_167 : decode cX8_reach 167 = .ok (.iload 7, 2) := by decide +kernel
theorem dX8_reach_169 : decode cX8_reach 169 = .ok (.ifCond .eq 7, 3) := by decide +kernel
theorem dX8_reach_172 : decode cX8_reach 172 = .ok (.iconst 1, 1) := by decide +kernel
theorem dX8_reach_173 : decode cX8_reach 173 = .ok (.goto 10, 3) := by decide +kernel
theorem dX8_reach_176 : decode cX8_reach 176 = .ok (.aload_n 0, 1) := by decide +kernel
theorem dX8_reach_177 : decode cX8_reach 177 = .ok (.getfield 48, 3) := by decide +kernel
theorem dX8_reach_180 : decode cX8_reach 180 = .ok (.iload 5, 2) := by decide +kernel
theorem dX8_reach_182 : decode cX8_reach 182 = .ok (.iaload, 1) := by decide +kernel
theorem dX8_reach_183 : decode cX8_reach 183 = .ok (.iastore, 1) := by decide +kernel
theorem dX8_reach_184 : decode cX8_reach 184 = .ok (.iinc 6 1, 3) := by decide +kernel
theorem dX8_reach_187 : decode cX8_reach 187 = .ok (.goto (-77), 3) := by decide +kernel
theorem dX8_reach_190 : decode cX8_reach 190 = .ok (.iinc 5 1, 3) := by decide +kernel
theorem dX8_reach_193 : decode cX8_reach 193 = .ok (.goto (-101), 3) := by decide +kernel
theorem dX8_reach_196 : decode cX8_reach 196 = .ok (.aload_n 0, 1) := by decide +kernel
theorem dX8_reach_197 : decode cX8_reach 197 = .ok (.getfield 48, 3) := by decide +kernel
theorem dX8_reach_200 : decode cX8_reach 200 = .ok (.iconst 0, 1) := by decide +kernel
theorem dX8_reach_201 : decode cX8_reach 201 = .ok (.aload_n 0, 1) := by decide +kernel
theorem dX8_reach_202 : decode cX8_reach 202 = .ok (.getfield 45, 3) := by decide +kernel
theorem dX8_reach_205 : decode cX8_reach 205 = .ok (.iconst 0, 1) := by decide +kernel
theorem dX8_reach_206 : decode cX8_reach 206 = .ok (.bipush 10, 2) := by decide +kernel
theorem dX8_reach_208 : decode cX8_reach 208 = .ok (.invokestatic 98, 3) := by decide +kernel
theorem dX8_reach_211 : decode cX8_reach 211 = .ok (.iinc 3 1, 3) := by decide +kernel
theorem dX8_reach_214 : decode cX8_reach 214 = .ok (.goto (-154), 3) := by decide +kernel
theorem dX8_reach_217 : decode cX8_reach 217 = .ok (.iload_n 3, 1) := by decide +kernel
theorem dX8_reach_218 : decode cX8_reach 218 = .ok (.ireturn, 1) := by decide +kernel
theorem dX8_does_0 : decode cX8_does 0 = .ok (.iload_n 1, 1) := by decide +kernel
theorem dX8_does_1 : decode cX8_does 1 = .ok (.bipush 99, 2) := by decide +kernel
theorem dX8_does_3 : decode cX8_does 3 = .ok (.if_icmp .ne 15, 3) := by decide +kernel
theorem dX8_does_6 : decode cX8_does 6 = .ok (.aload_n 0, 1) := by decide +kernel
theorem dX8_does_7 : decode cX8_does 7 = .ok (.getfield 29, 3) := by decide +kernel
theorem dX8_does_10 : decode cX8_does 10 = .ok (.iconst 0, 1) := by decide +kernel
theorem dX8_does_11 : decode cX8_does 11 = .ok (.dup2, 1) := by decide +kernel
theorem dX8_does_12 : decode cX8_does 12 = .ok (.iaload, 1) := by decide +kernel
theorem dX8_does_13 : decode cX8_does 13 = .ok (.iconst 1, 1) := by decide +kernel
theorem dX8_does_14 : decode cX8_does 14 = .ok (.iadd, 1) := by decide +kernel
theorem dX8_does_15 : decode cX8_does 15 = .ok (.iastore, 1) := by decide +kernel
theorem dX8_does_16 : decode cX8_does 16 = .ok (.iconst 0, 1) := by decide +kernel
theorem dX8_does_17 : decode cX8_does 17 = .ok (.ireturn, 1) := by decide +kernel
theorem dX8_does_18 : decode cX8_does 18 = .ok (.iload_n 1, 1) := by decide +kernel
theorem dX8_does_19 : decode cX8_does 19 = .ok (.bipush 10, 2) := by decide +kernel
theorem dX8_does_21 : decode cX8_does 21 = .ok (.idiv, 1) := by decide +kernel
theorem dX8_does_22 : decode cX8_does 22 = .ok (.istore_n 2, 1) := by decide +kernel
theorem dX8_does_23 : decode cX8_does 23 = .ok (.iload_n 1, 1) := by decide +kernel
theorem dX8_does_24 : decode cX8_does 24 = .ok (.bipush 10, 2) := by decide +kernel
theorem dX8_does_26 : decode cX8_does 26 = .ok (.irem, 1) := by decide +kernel
theorem dX8_does_27 : decode cX8_does 27 = .ok (.istore_n 3, 1) := by decide +kernel
theorem dX8_does_28 : decode cX8_does 28 = .ok (.iload_n 3, 1) := by decide +kernel
theorem dX8_does_29 : decode cX8_does 29 = .ok (.aload_n 0, 1) := by decide +kernel
theorem dX8_does_30 : decode cX8_does 30 = .ok (.getfield 23, 3) := by decide +kernel
theorem dX8_does_33 : decode cX8_does 33 = .ok (.iconst 1, 1) := by decide +kernel
theorem dX8_does_34 : decode cX8_does 34 = .ok (.iaload, 1) := by decide +kernel
theorem dX8_does_35 : decode cX8_does 35 = .ok (.if_icmp .ge 15, 3) := by decide +kernel
theorem dX8_does_38 : decode cX8_does 38 = .ok (.aload_n 0, 1) := by decide +kernel
theorem dX8_does_39 : decode cX8_does 39 = .ok (.getfield 29, 3) := by decide +kernel
theorem dX8_does_42 : decode cX8_does 42 = .ok (.iload_n 2, 1) := by decide +kernel
theorem dX8_does_43 : decode cX8_does 43 = .ok (.iload_n 3, 1) := by decide +kernel
theorem dX8_does_44 : decode cX8_does 44 = .ok (.invokestatic 137, 3) := by decide +kernel
theorem dX8_does_47 : decode cX8_does 47 = .ok (.ifCond .ne 5, 3) := by decide +kernel
theorem dX8_does_50 : decode cX8_does 50 = .ok (.iconst (-1), 1) := by decide +kernel
theorem dX8_does_51 : decode cX8_does 51 = .ok (.ireturn, 1) := by decide +kernel
theorem dX8_does_52 : decode cX8_does 52 = .ok (.aload_n 0, 1) := by decide +kernel
theorem dX8_does_53 : decode cX8_does 53 = .ok (.getfield 29, 3) := by decide +kernel
theorem dX8_does_56 : decode cX8_does 56 = .ok (.iload_n 2, 1) := by decide +kernel
theorem dX8_does_57 : decode cX8_does 57 = .ok (.iload_n 3, 1) := by decide +kernel
theorem dX8_does_58 : decode cX8_does 58 = .ok (.invokestatic 147, 3) := by decide +kernel
theorem dX8_does_61 : decode cX8_does 61 = .ok (.ifCond .le 7, 3) := by decide +kernel
theorem dX8_does_64 : decode cX8_does 64 = .ok (.iconst 1, 1) := by decide +kernel
theorem dX8_does_65 : decode cX8_does 65 = .ok (.goto 4, 3) := by decide +kernel
theorem dX8_does_68 : decode cX8_does 68 = .ok (.iconst 0, 1) := by decide +kernel
theorem dX8_does_69 : decode cX8_does 69 = .ok (.ireturn, 1) := by decide +kernel
theorem dX8_nextCode_0 : decode cX8_nextCode 0 = .ok (.iload_n 1, 1) := by decide +kernel
theorem dX8_nextCode_1 : decode cX8_nextCode 1 = .ok (.bipush 10, 2) := by decide +kernel
theorem dX8_nextCode_3 : decode cX8_nextCode 3 = .ok (.irem, 1) := by decide +kernel
theorem dX8_nextCode_4 : decode cX8_nextCode 4 = .ok (.aload_n 0, 1) := by decide +kernel
theorem dX8_nextCode_5 : decode cX8_nextCode 5 = .ok (.getfield 23, 3) := by decide +kernel
theorem dX8_nextCode_8 : decode cX8_nextCode 8 = .ok (.iconst 1, 1) := by decide +kernel
theorem dX8_nextCode_9 : decode cX8_nextCode 9 = .ok (.iaload, 1) := by decide +kernel
theorem dX8_nextCode_10 : decode cX8_nextCode 10 = .ok (.iconst 1, 1) := by decide +kernel
theorem dX8_nextCode_11 : decode cX8_nextCode 11 = .ok (.isub, 1) := by decide +kernel
theorem dX8_nextCode_12 : decode cX8_nextCode 12 = .ok (.if_icmp .ge 9, 3) := by decide +kernel
theorem dX8_nextCode_15 : decode cX8_nextCode 15 = .ok (.iload_n 1, 1) := by decide +kernel
theorem dX8_nextCode_16 : decode cX8_nextCode 16 = .ok (.iconst 1, 1) := by decide +kernel
theorem dX8_nextCode_17 : decode cX8_nextCode 17 = .ok (.iadd, 1) := by decide +kernel
theorem dX8_nextCode_18 : decode cX8_nextCode 18 = .ok (.goto 12, 3) := by decide +kernel
theorem dX8_nextCode_21 : decode cX8_nextCode 21 = .ok (.bipush 10, 2) := by decide +kernel
theorem dX8_nextCode_23 : decode cX8_nextCode 23 = .ok (.iload_n 1, 1) := by decide +kernel
theorem dX8_nextCode_24 : decode cX8_nextCode 24 = .ok (.bipush 10, 2) := by decide +kernel
theorem dX8_nextCode_26 : decode cX8_nextCode 26 = .ok (.idiv, 1) := by decide +kernel
theorem dX8_nextCode_27 : decode cX8_nextCode 27 = .ok (.iconst 1, 1) := by decide +kernel
theorem dX8_nextCode_28 : decode cX8_nextCode 28 = .ok (.iadd, 1) := by decide +kernel
theorem dX8_nextCode_29 : decode cX8_nextCode 29 = .ok (.imul, 1) := by decide +kernel
theorem dX8_nextCode_30 : decode cX8_nextCode 30 = .ok (.istore_n 2, 1) := by decide +kernel
theorem dX8_nextCode_31 : decode cX8_nextCode 31 = .ok (.iload_n 2, 1) := by decide +kernel
theorem dX8_nextCode_32 : decode cX8_nextCode 32 = .ok (.bipush 10, 2) := by decide +kernel
theorem dX8_nextCode_34 : decode cX8_nextCode 34 = .ok (.aload_n 0, 1) := by decide +kernel
theorem dX8_nextCode_35 : decode cX8_nextCode 35 = .ok (.getfield 23, 3) := by decide +kernel
theorem dX8_nextCode_38 : decode cX8_nextCode 38 = .ok (.iconst 2, 1) := by decide +kernel
theorem dX8_nextCode_39 : decode cX8_nextCode 39 = .ok (.iaload, 1) := by decide +kernel
theorem dX8_nextCode_40 : decode cX8_nextCode 40 = .ok (.imul, 1) := by decide +kernel
theorem dX8_nextCode_41 : decode cX8_nextCode 41 = .ok (.if_icmp .lt 8, 3) := by decide +kernel
theorem dX8_nextCode_44 : decode cX8_nextCode 44 = .ok (.bipush 99, 2) := by decide +kernel
theorem dX8_nextCode_46 : decode cX8_nextCode 46 = .ok (.goto 4, 3) := by decide +kernel
theorem dX8_nextCode_49 : decode cX8_nextCode 49 = .ok (.iload_n 2, 1) := by decide +kernel
theorem dX8_nextCode_50 : decode cX8_nextCode 50 = .ok (.ireturn, 1) := by decide +kernel
theorem dX8_planned_0 : decode cX8_planned 0 = .ok (.aload_n 0, 1) := by decide +kernel
theorem dX8_planned_1 : decode cX8_planned 1 = .ok (.invokevirtual 153, 3) := by decide +kernel
theorem dX8_planned_4 : decode cX8_planned 4 = .ok (.iload_n 1, 1) := by decide +kernel
theorem dX8_planned_5 : decode cX8_planned 5 = .ok (.ifCond .le 11, 3) := by decide +kernel
theorem dX8_planned_8 : decode cX8_planned 8 = .ok (.aload_n 0, 1) := by decide +kernel
theorem dX8_planned_9 : decode cX8_planned 9 = .ok (.iload_n 2, 1) := by decide +kernel
theorem dX8_planned_10 : decode cX8_planned 10 = .ok (.invokevirtual 171, 3) := by decide +kernel
theorem dX8_planned_13 : decode cX8_planned 13 = .ok (.goto 4, 3) := by decide +kernel
theorem dX8_planned_16 : decode cX8_planned 16 = .ok (.iconst 0, 1) := by decide +kernel
theorem dX8_planned_17 : decode cX8_planned 17 = .ok (.istore 5, 2) := by decide +kernel
theorem dX8_planned_19 : decode cX8_planned 19 = .ok (.iload 5, 2) := by decide +kernel
theorem dX8_planned_21 : decode cX8_planned 21 = .ok (.ifCond .ge 7, 3) := by decide +kernel
theorem dX8_planned_24 : decode cX8_planned 24 = .ok (.iconst (-1), 1) := by decide +kernel
theorem dX8_planned_25 : decode cX8_planned 25 = .ok (.goto 17, 3) := by decide +kernel
theorem dX8_planned_28 : decode cX8_planned 28 = .ok (.iload_n 1, 1) := by decide +kernel
theorem dX8_planned_29 : decode cX8_planned 29 = .ok (.iconst 1, 1) := by decide +kernel
theorem dX8_planned_30 : decode cX8_planned 30 = .ok (.if_icmp .le 11, 3) := by decide +kernel
theorem dX8_planned_33 : decode cX8_planned 33 = .ok (.aload_n 0, 1) := by decide +kernel
theorem dX8_planned_34 : decode cX8_planned 34 = .ok (.iload_n 3, 1) := by decide +kernel
theorem dX8_planned_35 : decode cX8_planned 35 = .ok (.invokevirtual 171, 3) := by decide +kernel
theorem dX8_planned_38 : decode cX8_planned 38 = .ok (.goto 4, 3) := by decide +kernel
theorem dX8_planned_41 : decode cX8_planned 41 = .ok (.iconst 0, 1) := by decide +kernel
theorem dX8_planned_42 : decode cX8_planned 42 = .ok (.istore 6, 2) := by decide +kernel
theorem dX8_planned_44 : decode cX8_planned 44 = .ok (.iload 6, 2) := by decide +kernel
theorem dX8_planned_46 : decode cX8_planned 46 = .ok (.ifCond .ge 7, 3) := by decide +kernel
theorem dX8_planned_49 : decode cX8_planned 49 = .ok (.iconst (-1), 1) := by decide +kernel
theorem dX8_planned_50 : decode cX8_planned 50 = .ok (.goto 18, 3) := by decide +kernel
theorem dX8_planned_53 : decode cX8_planned 53 = .ok (.iload_n 1, 1) := by decide +kernel
theorem dX8_planned_54 : decode cX8_planned 54 = .ok (.iconst 2, 1) := by decide +kernel
theorem dX8_planned_55 : decode cX8_planned 55 = .ok (.if_icmp .le 12, 3) := by decide +kernel
theorem dX8_planned_58 : decode cX8_planned 58 = .ok (.aload_n 0, 1) := by decide +kernel
theorem dX8_planned_59 : decode cX8_planned 59 = .ok (.iload 4, 2) := by decide +kernel
theorem dX8_planned_61 : decode cX8_planned 61 = .ok (.invokevirtual 171, 3) := by decide +kernel
theorem dX8_planned_64 : decode cX8_planned 64 = .ok (.goto 4, 3) := by decide +kernel
theorem dX8_planned_67 : decode cX8_planned 67 = .ok (.iconst 0, 1) := by decide +kernel
theorem dX8_planned_68 : decode cX8_planned 68 = .ok (.istore 7, 2) := by decide +kernel
theorem dX8_planned_70 : decode cX8_planned 70 = .ok (.iload 7, 2) := by decide +kernel
theorem dX8_planned_72 : decode cX8_planned 72 = .ok (.ifCond .ge 7, 3) := by decide +kernel
theorem dX8_planned_75 : decode cX8_planned 75 = .ok (.iconst (-1), 1) := by decide +kernel
theorem dX8_planned_76 : decode cX8_planned 76 = .ok (.goto 11, 3) := by decide +kernel
theorem dX8_planned_79 : decode cX8_planned 79 = .ok (.iload 5, 2) := by decide +kernel
theorem dX8_planned_81 : decode cX8_planned 81 = .ok (.iload 6, 2) := by decide +kernel
theorem dX8_planned_83 : decode cX8_planned 83 = .ok (.iadd, 1) := by decide +kernel
theorem dX8_planned_84 : decode cX8_planned 84 = .ok (.iload 7, 2) := by decide +kernel
theorem dX8_planned_86 : decode cX8_planned 86 = .ok (.iadd, 1) := by decide +kernel
theorem dX8_planned_87 : decode cX8_planned 87 = .ok (.ireturn, 1) := by decide +kernel
theorem dX8_take_0 : decode cX8_take 0 = .ok (.iload_n 1, 1) := by decide +kernel
theorem dX8_take_1 : decode cX8_take 1 = .ok (.aload_n 0, 1) := by decide +kernel
theorem dX8_take_2 : decode cX8_take 2 = .ok (.getfield 174, 3) := by decide +kernel
theorem dX8_take_5 : decode cX8_take 5 = .ok (.if_icmp .le 30, 3) := by decide +kernel
theorem dX8_take_8 : decode cX8_take 8 = .ok (.aload_n 0, 1) := by decide +kernel
theorem dX8_take_9 : decode cX8_take 9 = .ok (.iload_n 1, 1) := by decide +kernel
theorem dX8_take_10 : decode cX8_take 10 = .ok (.putfield 174, 3) := by decide +kernel
theorem dX8_take_13 : decode cX8_take 13 = .ok (.aload_n 0, 1) := by decide +kernel
theorem dX8_take_14 : decode cX8_take 14 = .ok (.getfield 51, 3) := by decide +kernel
theorem dX8_take_17 : decode cX8_take 17 = .ok (.iconst 0, 1) := by decide +kernel
theorem dX8_take_18 : decode cX8_take 18 = .ok (.iload_n 2, 1) := by decide +kernel
theorem dX8_take_19 : decode cX8_take 19 = .ok (.iastore, 1) := by decide +kernel
theorem dX8_take_20 : decode cX8_take 20 = .ok (.aload_n 0, 1) := by decide +kernel
theorem dX8_take_21 : decode cX8_take 21 = .ok (.getfield 51, 3) := by decide +kernel
theorem dX8_take_24 : decode cX8_take 24 = .ok (.iconst 1, 1) := by decide +kernel
theorem dX8_take_25 : decode cX8_take 25 = .ok (.iload_n 3, 1) := by decide +kernel
theorem dX8_take_26 : decode cX8_take 26 = .ok (.iastore, 1) := by decide +kernel
theorem dX8_take_27 : decode cX8_take 27 = .ok (.aload_n 0, 1) := by decide +kernel
theorem dX8_take_28 : decode cX8_take 28 = .ok (.getfield 51, 3) := by decide +kernel
theorem dX8_take_31 : decode cX8_take 31 = .ok (.iconst 2, 1) := by decide +kernel
theorem dX8_take_32 : decode cX8_take 32 = .ok (.iload 4, 2) := by decide +kernel
theorem dX8_take_34 : decode cX8_take 34 = .ok (.iastore, 1) := by decide +kernel
theorem dX8_take_35 : decode cX8_take 35 = .ok (.return_, 1) := by decide +kernel
theorem dX8_layLast_0 : decode cX8_layLast 0 = .ok (.iconst 0, 1) := by decide +kernel
theorem dX8_layLast_1 : decode cX8_layLast 1 = .ok (.istore 4, 2) := by decide +kernel
theorem dX8_layLast_3 : decode cX8_layLast 3 = .ok (.iload 4, 2) := by decide +kernel
theorem dX8_layLast_5 : decode cX8_layLast 5 = .ok (.bipush 99, 2) := by decide +kernel
theorem dX8_layLast_7 : decode cX8_layLast 7 = .ok (.if_icmp .ge 36, 3) := by decide +kernel
theorem dX8_layLast_10 : decode cX8_layLast 10 = .ok (.iload_n 1, 1) := by decide +kernel
theorem dX8_layLast_11 : decode cX8_layLast 11 = .ok (.iconst 2, 1) := by decide +kernel
theorem dX8_layLast_12 : decode cX8_layLast 12 = .ok (.if_icmp .le 31, 3) := by decide +kernel
theorem dX8_layLast_15 : decode cX8_layLast 15 = .ok (.aload_n 0, 1) := by decide +kernel
theorem dX8_layLast_16 : decode cX8_layLast 16 = .ok (.aload_n 0, 1) := by decide +kernel
theorem dX8_layLast_17 : decode cX8_layLast 17 = .ok (.iconst 3, 1) := by decide +kernel
theorem dX8_layLast_18 : decode cX8_layLast 18 = .ok (.iload_n 2, 1) := by decide +kernel
theorem dX8_layLast_19 : decode cX8_layLast 19 = .ok (.iload_n 3, 1) := by decide +kernel
theorem dX8_layLast_20 : decode cX8_layLast 20 = .ok (.iload 4, 2) := by decide +kernel
theorem dX8_layLast_22 : decode cX8_layLast 22 = .ok (.invokevirtual 177, 3) := by decide +kernel
theorem dX8_layLast_25 : decode cX8_layLast 25 = .ok (.iload_n 2, 1) := by decide +kernel
theorem dX8_layLast_26 : decode cX8_layLast 26 = .ok (.iload_n 3, 1) := by decide +kernel
theorem dX8_layLast_27 : decode cX8_layLast 27 = .ok (.iload 4, 2) := by decide +kernel
theorem dX8_layLast_29 : decode cX8_layLast 29 = .ok (.invokevirtual 180, 3) := by decide +kernel
theorem dX8_layLast_32 : decode cX8_layLast 32 = .ok (.aload_n 0, 1) := by decide +kernel
theorem dX8_layLast_33 : decode cX8_layLast 33 = .ok (.iload 4, 2) := by decide +kernel
theorem dX8_layLast_35 : decode cX8_layLast 35 = .ok (.invokevirtual 184, 3) := by decide +kernel
theorem dX8_layLast_38 : decode cX8_layLast 38 = .ok (.istore 4, 2) := by decide +kernel
theorem dX8_layLast_40 : decode cX8_layLast 40 = .ok (.goto (-37), 3) := by decide +kernel
theorem dX8_layLast_43 : decode cX8_layLast 43 = .ok (.aload_n 0, 1) := by decide +kernel
theorem dX8_layLast_44 : decode cX8_layLast 44 = .ok (.aload_n 0, 1) := by decide +kernel
theorem dX8_layLast_45 : decode cX8_layLast 45 = .ok (.iload_n 1, 1) := by decide +kernel
theorem dX8_layLast_46 : decode cX8_layLast 46 = .ok (.iload_n 2, 1) := by decide +kernel
theorem dX8_layLast_47 : decode cX8_layLast 47 = .ok (.iload_n 3, 1) := by decide +kernel
theorem dX8_layLast_48 : decode cX8_layLast 48 = .ok (.bipush 99, 2) := by decide +kernel
theorem dX8_layLast_50 : decode cX8_layLast 50 = .ok (.invokevirtual 177, 3) := by decide +kernel
theorem dX8_layLast_53 : decode cX8_layLast 53 = .ok (.iload_n 2, 1) := by decide +kernel
theorem dX8_layLast_54 : decode cX8_layLast 54 = .ok (.iload_n 3, 1) := by decide +kernel
theorem dX8_layLast_55 : decode cX8_layLast 55 = .ok (.bipush 99, 2) := by decide +kernel
theorem dX8_layLast_57 : decode cX8_layLast 57 = .ok (.invokevirtual 180, 3) := by decide +kernel
theorem dX8_layLast_60 : decode cX8_layLast 60 = .ok (.return_, 1) := by decide +kernel
theorem dX8_laySecond_0 : decode cX8_laySecond 0 = .ok (.iconst 0, 1) := by decide +kernel
theorem dX8_laySecond_1 : decode cX8_laySecond 1 = .ok (.istore_n 3, 1) := by decide +kernel
theorem dX8_laySecond_2 : decode cX8_laySecond 2 = .ok (.iload_n 3, 1) := by decide +kernel
theorem dX8_laySecond_3 : decode cX8_laySecond 3 = .ok (.bipush 99, 2) := by decide +kernel
theorem dX8_laySecond_5 : decode cX8_laySecond 5 = .ok (.if_icmp .ge 36, 3) := by decide +kernel
theorem dX8_laySecond_8 : decode cX8_laySecond 8 = .ok (.iload_n 1, 1) := by decide +kernel
theorem dX8_laySecond_9 : decode cX8_laySecond 9 = .ok (.iconst 1, 1) := by decide +kernel
theorem dX8_laySecond_10 : decode cX8_laySecond 10 = .ok (.if_icmp .le 31, 3) := by decide +kernel
theorem dX8_laySecond_13 : decode cX8_laySecond 13 = .ok (.aload_n 0, 1) := by decide +kernel
theorem dX8_laySecond_14 : decode cX8_laySecond 14 = .ok (.iconst 2, 1) := by decide +kernel
theorem dX8_laySecond_15 : decode cX8_laySecond 15 = .ok (.iload_n 2, 1) := by decide +kernel
theorem dX8_laySecond_16 : decode cX8_laySecond 16 = .ok (.iload_n 3, 1) := by decide +kernel
theorem dX8_laySecond_17 : decode cX8_laySecond 17 = .ok (.bipush 99, 2) := by decide +kernel
theorem dX8_laySecond_19 : decode cX8_laySecond 19 = .ok (.invokevirtual 177, 3) := by decide +kernel
theorem dX8_laySecond_22 : decode cX8_laySecond 22 = .ok (.ifCond .lt 10, 3) := by decide +kernel
theorem dX8_laySecond_25 : decode cX8_laySecond 25 = .ok (.aload_n 0, 1) := by decide +kernel
theorem dX8_laySecond_26 : decode cX8_laySecond 26 = .ok (.iload_n 1, 1) := by decide +kernel
theorem dX8_laySecond_27 : decode cX8_laySecond 27 = .ok (.iload_n 2, 1) := by decide +kernel
theorem dX8_laySecond_28 : decode cX8_laySecond 28 = .ok (.iload_n 3, 1) := by decide +kernel
theorem dX8_laySecond_29 : decode cX8_laySecond 29 = .ok (.invokevirtual 187, 3) := by decide +kernel
theorem dX8_laySecond_32 : decode cX8_laySecond 32 = .ok (.aload_n 0, 1) := by decide +kernel
theorem dX8_laySecond_33 : decode cX8_laySecond 33 = .ok (.iload_n 3, 1) := by decide +kernel
theorem dX8_laySecond_34 : decode cX8_laySecond 34 = .ok (.invokevirtual 184, 3) := by decide +kernel
theorem dX8_laySecond_37 : decode cX8_laySecond 37 = .ok (.istore_n 3, 1) := by decide +kernel
theorem dX8_laySecond_38 : decode cX8_laySecond 38 = .ok (.goto (-36), 3) := by decide +kernel
theorem dX8_laySecond_41 : decode cX8_laySecond 41 = .ok (.aload_n 0, 1) := by decide +kernel
theorem dX8_laySecond_42 : decode cX8_laySecond 42 = .ok (.iload_n 1, 1) := by decide +kernel
theorem dX8_laySecond_43 : decode cX8_laySecond 43 = .ok (.iload_n 2, 1) := by decide +kernel
theorem dX8_laySecond_44 : decode cX8_laySecond 44 = .ok (.bipush 99, 2) := by decide +kernel
theorem dX8_laySecond_46 : decode cX8_laySecond 46 = .ok (.invokevirtual 187, 3) := by decide +kernel
theorem dX8_laySecond_49 : decode cX8_laySecond 49 = .ok (.return_, 1) := by decide +kernel
theorem dX8_layPlan_0 : decode cX8_layPlan 0 = .ok (.aload_n 0, 1) := by decide +kernel
theorem dX8_layPlan_1 : decode cX8_layPlan 1 = .ok (.iconst (-1), 1) := by decide +kernel
theorem dX8_layPlan_2 : decode cX8_layPlan 2 = .ok (.putfield 174, 3) := by decide +kernel
theorem dX8_layPlan_5 : decode cX8_layPlan 5 = .ok (.iconst 0, 1) := by decide +kernel
theorem dX8_layPlan_6 : decode cX8_layPlan 6 = .ok (.istore_n 2, 1) := by decide +kernel
theorem dX8_layPlan_7 : decode cX8_layPlan 7 = .ok (.iload_n 2, 1) := by decide +kernel
theorem dX8_layPlan_8 : decode cX8_layPlan 8 = .ok (.bipush 99, 2) := by decide +kernel
theorem dX8_layPlan_10 : decode cX8_layPlan 10 = .ok (.if_icmp .ge 35, 3) := by decide +kernel
theorem dX8_layPlan_13 : decode cX8_layPlan 13 = .ok (.iload_n 1, 1) := by decide +kernel
theorem dX8_layPlan_14 : decode cX8_layPlan 14 = .ok (.ifCond .le 31, 3) := by decide +kernel
theorem dX8_layPlan_17 : decode cX8_layPlan 17 = .ok (.aload_n 0, 1) := by decide +kernel
theorem dX8_layPlan_18 : decode cX8_layPlan 18 = .ok (.iconst 1, 1) := by decide +kernel
theorem dX8_layPlan_19 : decode cX8_layPlan 19 = .ok (.iload_n 2, 1) := by decide +kernel
theorem dX8_layPlan_20 : decode cX8_layPlan 20 = .ok (.bipush 99, 2) := by decide +kernel
theorem dX8_layPlan_22 : decode cX8_layPlan 22 = .ok (.bipush 99, 2) := by decide +kernel
theorem dX8_layPlan_24 : decode cX8_layPlan 24 = .ok (.invokevirtual 177, 3) := by decide +kernel
theorem dX8_layPlan_27 : decode cX8_layPlan 27 = .ok (.ifCond .lt 9, 3) := by decide +kernel
theorem dX8_layPlan_30 : decode cX8_layPlan 30 = .ok (.aload_n 0, 1) := by decide +kernel
theorem dX8_layPlan_31 : decode cX8_layPlan 31 = .ok (.iload_n 1, 1) := by decide +kernel
theorem dX8_layPlan_32 : decode cX8_layPlan 32 = .ok (.iload_n 2, 1) := by decide +kernel
theorem dX8_layPlan_33 : decode cX8_layPlan 33 = .ok (.invokevirtual 191, 3) := by decide +kernel
theorem dX8_layPlan_36 : decode cX8_layPlan 36 = .ok (.aload_n 0, 1) := by decide +kernel
theorem dX8_layPlan_37 : decode cX8_layPlan 37 = .ok (.iload_n 2, 1) := by decide +kernel
theorem dX8_layPlan_38 : decode cX8_layPlan 38 = .ok (.invokevirtual 184, 3) := by decide +kernel
theorem dX8_layPlan_41 : decode cX8_layPlan 41 = .ok (.istore_n 2, 1) := by decide +kernel
theorem dX8_layPlan_42 : decode cX8_layPlan 42 = .ok (.goto (-35), 3) := by decide +kernel
theorem dX8_layPlan_45 : decode cX8_layPlan 45 = .ok (.aload_n 0, 1) := by decide +kernel
theorem dX8_layPlan_46 : decode cX8_layPlan 46 = .ok (.iload_n 1, 1) := by decide +kernel
theorem dX8_layPlan_47 : decode cX8_layPlan 47 = .ok (.bipush 99, 2) := by decide +kernel
theorem dX8_layPlan_49 : decode cX8_layPlan 49 = .ok (.invokevirtual 191, 3) := by decide +kernel
theorem dX8_layPlan_52 : decode cX8_layPlan 52 = .ok (.return_, 1) := by decide +kernel
theorem dX8_plan_0 : decode cX8_plan 0 = .ok (.iload_n 1, 1) := by decide +kernel
theorem dX8_plan_1 : decode cX8_plan 1 = .ok (.iconst 0, 1) := by decide +kernel
theorem dX8_plan_2 : decode cX8_plan 2 = .ok (.iconst 3, 1) := by decide +kernel
theorem dX8_plan_3 : decode cX8_plan 3 = .ok (.invokestatic 57, 3) := by decide +kernel
theorem dX8_plan_6 : decode cX8_plan 6 = .ok (.ifCond .eq 8, 3) := by decide +kernel
theorem dX8_plan_9 : decode cX8_plan 9 = .ok (.iload_n 2, 1) := by decide +kernel
theorem dX8_plan_10 : decode cX8_plan 10 = .ok (.iconst (-1), 1) := by decide +kernel
theorem dX8_plan_11 : decode cX8_plan 11 = .ok (.if_icmp .ge 5, 3) := by decide +kernel
theorem dX8_plan_14 : decode cX8_plan 14 = .ok (.iconst (-1), 1) := by decide +kernel
theorem dX8_plan_15 : decode cX8_plan 15 = .ok (.ireturn, 1) := by decide +kernel
theorem dX8_plan_16 : decode cX8_plan 16 = .ok (.aload_n 0, 1) := by decide +kernel
theorem dX8_plan_17 : decode cX8_plan 17 = .ok (.invokevirtual 150, 3) := by decide +kernel
theorem dX8_plan_20 : decode cX8_plan 20 = .ok (.ifCond .ne 6, 3) := by decide +kernel
theorem dX8_plan_23 : decode cX8_plan 23 = .ok (.bipush (-2), 2) := by decide +kernel
theorem dX8_plan_25 : decode cX8_plan 25 = .ok (.ireturn, 1) := by decide +kernel
theorem dX8_plan_26 : decode cX8_plan 26 = .ok (.aload_n 0, 1) := by decide +kernel
theorem dX8_plan_27 : decode cX8_plan 27 = .ok (.iload_n 1, 1) := by decide +kernel
theorem dX8_plan_28 : decode cX8_plan 28 = .ok (.invokevirtual 195, 3) := by decide +kernel
theorem dX8_plan_31 : decode cX8_plan 31 = .ok (.iload_n 2, 1) := by decide +kernel
theorem dX8_plan_32 : decode cX8_plan 32 = .ok (.iconst (-1), 1) := by decide +kernel
theorem dX8_plan_33 : decode cX8_plan 33 = .ok (.if_icmp .ne 10, 3) := by decide +kernel
theorem dX8_plan_36 : decode cX8_plan 36 = .ok (.aload_n 0, 1) := by decide +kernel
theorem dX8_plan_37 : decode cX8_plan 37 = .ok (.getfield 174, 3) := by decide +kernel
theorem dX8_plan_40 : decode cX8_plan 40 = .ok (.goto 19, 3) := by decide +kernel
theorem dX8_plan_43 : decode cX8_plan 43 = .ok (.iload_n 2, 1) := by decide +kernel
theorem dX8_plan_44 : decode cX8_plan 44 = .ok (.iload_n 1, 1) := by decide +kernel
theorem dX8_plan_45 : decode cX8_plan 45 = .ok (.if_icmp .ge 12, 3) := by decide +kernel
theorem dX8_plan_48 : decode cX8_plan 48 = .ok (.aload_n 0, 1) := by decide +kernel
theorem dX8_plan_49 : decode cX8_plan 49 = .ok (.getfield 51, 3) := by decide +kernel
theorem dX8_plan_52 : decode cX8_plan 52 = .ok (.iload_n 2, 1) := by decide +kernel
theorem dX8_plan_53 : decode cX8_plan 53 = .ok (.iaload, 1) := by decide +kernel
theorem dX8_plan_54 : decode cX8_plan 54 = .ok (.goto 5, 3) := by decide +kernel
theorem dX8_plan_57 : decode cX8_plan 57 = .ok (.bipush (-4), 2) := by decide +kernel
theorem dX8_plan_59 : decode cX8_plan 59 = .ok (.ireturn, 1) := by decide +kernel
theorem dX8_gusts_0 : decode cX8_gusts 0 = .ok (.iload_n 3, 1) := by decide +kernel
theorem dX8_gusts_1 : decode cX8_gusts 1 = .ok (.iconst 0, 1) := by decide +kernel
theorem dX8_gusts_2 : decode cX8_gusts 2 = .ok (.bipush 10, 2) := by decide +kernel
theorem dX8_gusts_4 : decode cX8_gusts 4 = .ok (.invokestatic 57, 3) := by decide +kernel
theorem dX8_gusts_7 : decode cX8_gusts 7 = .ok (.ifCond .eq 13, 3) := by decide +kernel
theorem dX8_gusts_10 : decode cX8_gusts 10 = .ok (.iload 4, 2) := by decide +kernel
theorem dX8_gusts_12 : decode cX8_gusts 12 = .ok (.iconst 0, 1) := by decide +kernel
theorem dX8_gusts_13 : decode cX8_gusts 13 = .ok (.iconst 1, 1) := by decide +kernel
theorem dX8_gusts_14 : decode cX8_gusts 14 = .ok (.invokestatic 57, 3) := by decide +kernel
theorem dX8_gusts_17 : decode cX8_gusts 17 = .ok (.ifCond .ne 5, 3) := by decide +kernel
theorem dX8_gusts_20 : decode cX8_gusts 20 = .ok (.iconst (-1), 1) := by decide +kernel
theorem dX8_gusts_21 : decode cX8_gusts 21 = .ok (.ireturn, 1) := by decide +kernel
theorem dX8_gusts_22 : decode cX8_gusts 22 = .ok (.aload_n 0, 1) := by decide +kernel
theorem dX8_gusts_23 : decode cX8_gusts 23 = .ok (.iload_n 1, 1) := by decide +kernel
theorem dX8_gusts_24 : decode cX8_gusts 24 = .ok (.iload_n 2, 1) := by decide +kernel
theorem dX8_gusts_25 : decode cX8_gusts 25 = .ok (.invokevirtual 141, 3) := by decide +kernel
theorem dX8_gusts_28 : decode cX8_gusts 28 = .ok (.istore 5, 2) := by decide +kernel
theorem dX8_gusts_30 : decode cX8_gusts 30 = .ok (.iload 5, 2) := by decide +kernel
theorem dX8_gusts_32 : decode cX8_gusts 32 = .ok (.ifCond .eq 6, 3) := by decide +kernel
theorem dX8_gusts_35 : decode cX8_gusts 35 = .ok (.iload 5, 2) := by decide +kernel
theorem dX8_gusts_37 : decode cX8_gusts 37 = .ok (.ireturn, 1) := by decide +kernel
theorem dX8_gusts_38 : decode cX8_gusts 38 = .ok (.iconst 0, 1) := by decide +kernel
theorem dX8_gusts_39 : decode cX8_gusts 39 = .ok (.istore 6, 2) := by decide +kernel
theorem dX8_gusts_41 : decode cX8_gusts 41 = .ok (.iconst 0, 1) := by decide +kernel
theorem dX8_gusts_42 : decode cX8_gusts 42 = .ok (.istore 7, 2) := by decide +kernel
theorem dX8_gusts_44 : decode cX8_gusts 44 = .ok (.iload 7, 2) := by decide +kernel
theorem dX8_gusts_46 : decode cX8_gusts 46 = .ok (.bipush 8, 2) := by decide +kernel
theorem dX8_gusts_48 : decode cX8_gusts 48 = .ok (.if_icmp .ge 107, 3) := by decide +kernel
theorem dX8_gusts_51 : decode cX8_gusts 51 = .ok (.iconst 1, 1) := by decide +kernel
theorem dX8_gusts_52 : decode cX8_gusts 52 = .ok (.istore 8, 2) := by decide +kernel
theorem dX8_gusts_54 : decode cX8_gusts 54 = .ok (.iconst 0, 1) := by decide +kernel
theorem dX8_gusts_55 : decode cX8_gusts 55 = .ok (.istore 9, 2) := by decide +kernel
theorem dX8_gusts_57 : decode cX8_gusts 57 = .ok (.iconst 0, 1) := by decide +kernel
theorem dX8_gusts_58 : decode cX8_gusts 58 = .ok (.istore 10, 2) := by decide +kernel
theorem dX8_gusts_60 : decode cX8_gusts 60 = .ok (.iload 10, 2) := by decide +kernel
theorem dX8_gusts_62 : decode cX8_gusts 62 = .ok (.iconst 3, 1) := by decide +kernel
theorem dX8_gusts_63 : decode cX8_gusts 63 = .ok (.if_icmp .ge 52, 3) := by decide +kernel
theorem dX8_gusts_66 : decode cX8_gusts 66 = .ok (.iload 8, 2) := by decide +kernel
theorem dX8_gusts_68 : decode cX8_gusts 68 = .ok (.iload 7, 2) := by decide +kernel
theorem dX8_gusts_70 : decode cX8_gusts 70 = .ok (.iload 10, 2) := by decide +kernel
theorem dX8_gusts_72 : decode cX8_gusts 72 = .ok (.invokestatic 156, 3) := by decide +kernel
theorem dX8_gusts_75 : decode cX8_gusts 75 = .ok (.ifCond .eq 7, 3) := by decide +kernel
theorem dX8_gusts_78 : decode cX8_gusts 78 = .ok (.iload_n 3, 1) := by decide +kernel
theorem dX8_gusts_79 : decode cX8_gusts 79 = .ok (.goto 7, 3) := by decide +kernel
theorem dX8_gusts_82 : decode cX8_gusts 82 = .ok (.bipush 10, 2) := by decide +kernel
theorem dX8_gusts_84 : decode cX8_gusts 84 = .ok (.iload_n 3, 1) := by decide +kernel
theorem dX8_gusts_85 : decode cX8_gusts 85 = .ok (.isub, 1) := by decide +kernel
theorem dX8_gusts_86 : decode cX8_gusts 86 = .ok (.imul, 1) := by decide +kernel
theorem dX8_gusts_87 : decode cX8_gusts 87 = .ok (.istore 8, 2) := by decide +kernel
theorem dX8_gusts_89 : decode cX8_gusts 89 = .ok (.iload 9, 2) := by decide +kernel
theorem dX8_gusts_91 : decode cX8_gusts 91 = .ok (.iload 7, 2) := by decide +kernel
theorem dX8_gusts_93 : decode cX8_gusts 93 = .ok (.iload 10, 2) := by decide +kernel
theorem dX8_gusts_95 : decode cX8_gusts 95 = .ok (.invokestatic 156, 3) := by decide +kernel
theorem dX8_gusts_98 : decode cX8_gusts 98 = .ok (.ifCond .eq 7, 3) := by decide +kernel
theorem dX8_gusts_101 : decode cX8_gusts 101 = .ok (.iconst 1, 1) := by decide +kernel
theorem dX8_gusts_102 : decode cX8_gusts 102 = .ok (.goto 4, 3) := by decide +kernel
theorem dX8_gusts_105 : decode cX8_gusts 105 = .ok (.iconst 0, 1) := by decide +kernel
theorem dX8_gusts_106 : decode cX8_gusts 106 = .ok (.iadd, 1) := by decide +kernel
theorem dX8_gusts_107 : decode cX8_gusts 107 = .ok (.istore 9, 2) := by decide +kernel
theorem dX8_gusts_109 : decode cX8_gusts 109 = .ok (.iinc 10 1, 3) := by decide +kernel
theorem dX8_gusts_112 : decode cX8_gusts 112 = .ok (.goto (-52), 3) := by decide +kernel
theorem dX8_gusts_115 : decode cX8_gusts 115 = .ok (.iload 6, 2) := by decide +kernel
theorem dX8_gusts_117 : decode cX8_gusts 117 = .ok (.aload_n 0, 1) := by decide +kernel
theorem dX8_gusts_118 : decode cX8_gusts 118 = .ok (.getfield 23, 3) := by decide +kernel
theorem dX8_gusts_121 : decode cX8_gusts 121 = .ok (.iload_n 1, 1) := by decide +kernel
theorem dX8_gusts_122 : decode cX8_gusts 122 = .ok (.iload_n 2, 1) := by decide +kernel
theorem dX8_gusts_123 : decode cX8_gusts 123 = .ok (.invokestatic 127, 3) := by decide +kernel
theorem dX8_gusts_126 : decode cX8_gusts 126 = .ok (.iload 9, 2) := by decide +kernel
theorem dX8_gusts_128 : decode cX8_gusts 128 = .ok (.isub, 1) := by decide +kernel
theorem dX8_gusts_129 : decode cX8_gusts 129 = .ok (.aload_n 0, 1) := by decide +kernel
theorem dX8_gusts_130 : decode cX8_gusts 130 = .ok (.getfield 23, 3) := by decide +kernel
theorem dX8_gusts_133 : decode cX8_gusts 133 = .ok (.iload_n 1, 1) := by decide +kernel
theorem dX8_gusts_134 : decode cX8_gusts 134 = .ok (.invokestatic 111, 3) := by decide +kernel
theorem dX8_gusts_137 : decode cX8_gusts 137 = .ok (.if_icmp .lt 8, 3) := by decide +kernel
theorem dX8_gusts_140 : decode cX8_gusts 140 = .ok (.iload 8, 2) := by decide +kernel
theorem dX8_gusts_142 : decode cX8_gusts 142 = .ok (.goto 4, 3) := by decide +kernel
theorem dX8_gusts_145 : decode cX8_gusts 145 = .ok (.iconst 0, 1) := by decide +kernel
theorem dX8_gusts_146 : decode cX8_gusts 146 = .ok (.iadd, 1) := by decide +kernel
theorem dX8_gusts_147 : decode cX8_gusts 147 = .ok (.istore 6, 2) := by decide +kernel
theorem dX8_gusts_149 : decode cX8_gusts 149 = .ok (.iinc 7 1, 3) := by decide +kernel
theorem dX8_gusts_152 : decode cX8_gusts 152 = .ok (.goto (-108), 3) := by decide +kernel
theorem dX8_gusts_155 : decode cX8_gusts 155 = .ok (.iload 6, 2) := by decide +kernel
theorem dX8_gusts_157 : decode cX8_gusts 157 = .ok (.istore 7, 2) := by decide +kernel
theorem dX8_gusts_159 : decode cX8_gusts 159 = .ok (.sipush 1000, 3) := by decide +kernel
theorem dX8_gusts_162 : decode cX8_gusts 162 = .ok (.istore 8, 2) := by decide +kernel
theorem dX8_gusts_164 : decode cX8_gusts 164 = .ok (.iload 8, 2) := by decide +kernel
theorem dX8_gusts_166 : decode cX8_gusts 166 = .ok (.ifCond .le 21, 3) := by decide +kernel
theorem dX8_gusts_169 : decode cX8_gusts 169 = .ok (.iload 7, 2) := by decide +kernel
theorem dX8_gusts_171 : decode cX8_gusts 171 = .ok (.iload 8, 2) := by decide +kernel
theorem dX8_gusts_173 : decode cX8_gusts 173 = .ok (.irem, 1) := by decide +kernel
theorem dX8_gusts_174 : decode cX8_gusts 174 = .ok (.istore 9, 2) := by decide +kernel
theorem dX8_gusts_176 : decode cX8_gusts 176 = .ok (.iload 8, 2) := by decide +kernel
theorem dX8_gusts_178 : decode cX8_gusts 178 = .ok (.istore 7, 2) := by decide +kernel
theorem dX8_gusts_180 : decode cX8_gusts 180 = .ok (.iload 9, 2) := by decide +kernel
theorem dX8_gusts_182 : decode cX8_gusts 182 = .ok (.istore 8, 2) := by decide +kernel
theorem dX8_gusts_184 : decode cX8_gusts 184 = .ok (.goto (-20), 3) := by decide +kernel
theorem dX8_gusts_187 : decode cX8_gusts 187 = .ok (.iload 4, 2) := by decide +kernel
theorem dX8_gusts_189 : decode cX8_gusts 189 = .ok (.ifCond .ne 8, 3) := by decide +kernel
theorem dX8_gusts_192 : decode cX8_gusts 192 = .ok (.iload 6, 2) := by decide +kernel
theorem dX8_gusts_194 : decode cX8_gusts 194 = .ok (.goto 6, 3) := by decide +kernel
theorem dX8_gusts_197 : decode cX8_gusts 197 = .ok (.sipush 1000, 3) := by decide +kernel
theorem dX8_gusts_200 : decode cX8_gusts 200 = .ok (.iload 7, 2) := by decide +kernel
theorem dX8_gusts_202 : decode cX8_gusts 202 = .ok (.idiv, 1) := by decide +kernel
theorem dX8_gusts_203 : decode cX8_gusts 203 = .ok (.ireturn, 1) := by decide +kernel
theorem dX8_forgivenOnes_0 : decode cX8_forgivenOnes 0 = .ok (.iconst 0, 1) := by decide +kernel
theorem dX8_forgivenOnes_1 : decode cX8_forgivenOnes 1 = .ok (.istore_n 1, 1) := by decide +kernel
theorem dX8_forgivenOnes_2 : decode cX8_forgivenOnes 2 = .ok (.iconst 0, 1) := by decide +kernel
theorem dX8_forgivenOnes_3 : decode cX8_forgivenOnes 3 = .ok (.istore_n 2, 1) := by decide +kernel
theorem dX8_forgivenOnes_4 : decode cX8_forgivenOnes 4 = .ok (.iload_n 2, 1) := by decide +kernel
theorem dX8_forgivenOnes_5 : decode cX8_forgivenOnes 5 = .ok (.aload_n 0, 1) := by decide +kernel
theorem dX8_forgivenOnes_6 : decode cX8_forgivenOnes 6 = .ok (.iconst 2, 1) := by decide +kernel
theorem dX8_forgivenOnes_7 : decode cX8_forgivenOnes 7 = .ok (.iaload, 1) := by decide +kernel
theorem dX8_forgivenOnes_8 : decode cX8_forgivenOnes 8 = .ok (.if_icmp .ge 28, 3) := by decide +kernel
theorem dX8_forgivenOnes_11 : decode cX8_forgivenOnes 11 = .ok (.iload_n 1, 1) := by decide +kernel
theorem dX8_forgivenOnes_12 : decode cX8_forgivenOnes 12 = .ok (.aload_n 0, 1) := by decide +kernel
theorem dX8_forgivenOnes_13 : decode cX8_forgivenOnes 13 = .ok (.bipush 75, 2) := by decide +kernel
theorem dX8_forgivenOnes_15 : decode cX8_forgivenOnes 15 = .ok (.iload_n 2, 1) := by decide +kernel
theorem dX8_forgivenOnes_16 : decode cX8_forgivenOnes 16 = .ok (.iadd, 1) := by decide +kernel
theorem dX8_forgivenOnes_17 : decode cX8_forgivenOnes 17 = .ok (.iaload, 1) := by decide +kernel
theorem dX8_forgivenOnes_18 : decode cX8_forgivenOnes 18 = .ok (.bipush (-4), 2) := by decide +kernel
theorem dX8_forgivenOnes_20 : decode cX8_forgivenOnes 20 = .ok (.if_icmp .ne 7, 3) := by decide +kernel
theorem dX8_forgivenOnes_23 : decode cX8_forgivenOnes 23 = .ok (.iconst 0, 1) := by decide +kernel
theorem dX8_forgivenOnes_24 : decode cX8_forgivenOnes 24 = .ok (.goto 4, 3) := by decide +kernel
theorem dX8_forgivenOnes_27 : decode cX8_forgivenOnes 27 = .ok (.iconst 1, 1) := by decide +kernel
theorem dX8_forgivenOnes_28 : decode cX8_forgivenOnes 28 = .ok (.iadd, 1) := by decide +kernel
theorem dX8_forgivenOnes_29 : decode cX8_forgivenOnes 29 = .ok (.istore_n 1, 1) := by decide +kernel
theorem dX8_forgivenOnes_30 : decode cX8_forgivenOnes 30 = .ok (.iinc 2 1, 3) := by decide +kernel
theorem dX8_forgivenOnes_33 : decode cX8_forgivenOnes 33 = .ok (.goto (-29), 3) := by decide +kernel
theorem dX8_forgivenOnes_36 : decode cX8_forgivenOnes 36 = .ok (.iload_n 1, 1) := by decide +kernel
theorem dX8_forgivenOnes_37 : decode cX8_forgivenOnes 37 = .ok (.ireturn, 1) := by decide +kernel
theorem dX8_wonOnes_0 : decode cX8_wonOnes 0 = .ok (.iconst 0, 1) := by decide +kernel
theorem dX8_wonOnes_1 : decode cX8_wonOnes 1 = .ok (.istore_n 1, 1) := by decide +kernel
theorem dX8_wonOnes_2 : decode cX8_wonOnes 2 = .ok (.iconst 0, 1) := by decide +kernel
theorem dX8_wonOnes_3 : decode cX8_wonOnes 3 = .ok (.istore_n 2, 1) := by decide +kernel
theorem dX8_wonOnes_4 : decode cX8_wonOnes 4 = .ok (.iload_n 2, 1) := by decide +kernel
theorem dX8_wonOnes_5 : decode cX8_wonOnes 5 = .ok (.aload_n 0, 1) := by decide +kernel
theorem dX8_wonOnes_6 : decode cX8_wonOnes 6 = .ok (.iconst 1, 1) := by decide +kernel
theorem dX8_wonOnes_7 : decode cX8_wonOnes 7 = .ok (.iaload, 1) := by decide +kernel
theorem dX8_wonOnes_8 : decode cX8_wonOnes 8 = .ok (.if_icmp .ge 30, 3) := by decide +kernel
theorem dX8_wonOnes_11 : decode cX8_wonOnes 11 = .ok (.iload_n 1, 1) := by decide +kernel
theorem dX8_wonOnes_12 : decode cX8_wonOnes 12 = .ok (.aload_n 0, 1) := by decide +kernel
theorem dX8_wonOnes_13 : decode cX8_wonOnes 13 = .ok (.bipush 45, 2) := by decide +kernel
theorem dX8_wonOnes_15 : decode cX8_wonOnes 15 = .ok (.iload_n 2, 1) := by decide +kernel
theorem dX8_wonOnes_16 : decode cX8_wonOnes 16 = .ok (.iadd, 1) := by decide +kernel
theorem dX8_wonOnes_17 : decode cX8_wonOnes 17 = .ok (.iaload, 1) := by decide +kernel
theorem dX8_wonOnes_18 : decode cX8_wonOnes 18 = .ok (.bipush (-4), 2) := by decide +kernel
theorem dX8_wonOnes_20 : decode cX8_wonOnes 20 = .ok (.if_icmp .ne 7, 3) := by decide +kernel
theorem dX8_wonOnes_23 : decode cX8_wonOnes 23 = .ok (.iconst 0, 1) := by decide +kernel
theorem dX8_wonOnes_24 : decode cX8_wonOnes 24 = .ok (.goto 6, 3) := by decide +kernel
theorem dX8_wonOnes_27 : decode cX8_wonOnes 27 = .ok (.iconst 1, 1) := by decide +kernel
theorem dX8_wonOnes_28 : decode cX8_wonOnes 28 = .ok (.iload_n 2, 1) := by decide +kernel
theorem dX8_wonOnes_29 : decode cX8_wonOnes 29 = .ok (.ishl, 1) := by decide +kernel
theorem dX8_wonOnes_30 : decode cX8_wonOnes 30 = .ok (.ior, 1) := by decide +kernel
theorem dX8_wonOnes_31 : decode cX8_wonOnes 31 = .ok (.istore_n 1, 1) := by decide +kernel
theorem dX8_wonOnes_32 : decode cX8_wonOnes 32 = .ok (.iinc 2 1, 3) := by decide +kernel
theorem dX8_wonOnes_35 : decode cX8_wonOnes 35 = .ok (.goto (-31), 3) := by decide +kernel
theorem dX8_wonOnes_38 : decode cX8_wonOnes 38 = .ok (.iload_n 1, 1) := by decide +kernel
theorem dX8_wonOnes_39 : decode cX8_wonOnes 39 = .ok (.ireturn, 1) := by decide +kernel
theorem dX8_decades_0 : decode cX8_decades 0 = .ok (.iload_n 1, 1) := by decide +kernel
theorem dX8_decades_1 : decode cX8_decades 1 = .ok (.iconst 0, 1) := by decide +kernel
theorem dX8_decades_2 : decode cX8_decades 2 = .ok (.bipush 60, 2) := by decide +kernel
theorem dX8_decades_4 : decode cX8_decades 4 = .ok (.invokestatic 57, 3) := by decide +kernel
theorem dX8_decades_7 : decode cX8_decades 7 = .ok (.ifCond .eq 22, 3) := by decide +kernel
theorem dX8_decades_10 : decode cX8_decades 10 = .ok (.iload_n 2, 1) := by decide +kernel
theorem dX8_decades_11 : decode cX8_decades 11 = .ok (.iconst 1, 1) := by decide +kernel
theorem dX8_decades_12 : decode cX8_decades 12 = .ok (.ldc 199, 2) := by decide +kernel
theorem dX8_decades_14 : decode cX8_decades 14 = .ok (.invokestatic 57, 3) := by decide +kernel
theorem dX8_decades_17 : decode cX8_decades 17 = .ok (.ifCond .eq 12, 3) := by decide +kernel
theorem dX8_decades_20 : decode cX8_decades 20 = .ok (.iload_n 3, 1) := by decide +kernel
theorem dX8_decades_21 : decode cX8_decades 21 = .ok (.iconst 0, 1) := by decide +kernel
theorem dX8_decades_22 : decode cX8_decades 22 = .ok (.iconst 1, 1) := by decide +kernel
theorem dX8_decades_23 : decode cX8_decades 23 = .ok (.invokestatic 57, 3) := by decide +kernel
theorem dX8_decades_26 : decode cX8_decades 26 = .ok (.ifCond .ne 5, 3) := by decide +kernel
theorem dX8_decades_29 : decode cX8_decades 29 = .ok (.iconst (-1), 1) := by decide +kernel
theorem dX8_decades_30 : decode cX8_decades 30 = .ok (.ireturn, 1) := by decide +kernel
theorem dX8_decades_31 : decode cX8_decades 31 = .ok (.aload_n 0, 1) := by decide +kernel
theorem dX8_decades_32 : decode cX8_decades 32 = .ok (.invokevirtual 150, 3) := by decide +kernel
theorem dX8_decades_35 : decode cX8_decades 35 = .ok (.ifCond .ne 6, 3) := by decide +kernel
theorem dX8_decades_38 : decode cX8_decades 38 = .ok (.bipush (-2), 2) := by decide +kernel
theorem dX8_decades_40 : decode cX8_decades 40 = .ok (.ireturn, 1) := by decide +kernel
theorem dX8_decades_41 : decode cX8_decades 41 = .ok (.aload_n 0, 1) := by decide +kernel
theorem dX8_decades_42 : decode cX8_decades 42 = .ok (.invokevirtual 153, 3) := by decide +kernel
theorem dX8_decades_45 : decode cX8_decades 45 = .ok (.iload_n 2, 1) := by decide +kernel
theorem dX8_decades_46 : decode cX8_decades 46 = .ok (.i2l, 1) := by decide +kernel
theorem dX8_decades_47 : decode cX8_decades 47 = .ok (.lstore 4, 2) := by decide +kernel
theorem dX8_decades_49 : decode cX8_decades 49 = .ok (.iconst 0, 1) := by decide +kernel
theorem dX8_decades_50 : decode cX8_decades 50 = .ok (.istore 6, 2) := by decide +kernel
theorem dX8_decades_52 : decode cX8_decades 52 = .ok (.iload 6, 2) := by decide +kernel
theorem dX8_decades_54 : decode cX8_decades 54 = .ok (.iload_n 1, 1) := by decide +kernel
theorem dX8_decades_55 : decode cX8_decades 55 = .ok (.if_icmp .ge 90, 3) := by decide +kernel
theorem dX8_decades_58 : decode cX8_decades 58 = .ok (.lload 4, 2) := by decide +kernel
theorem dX8_decades_60 : decode cX8_decades 60 = .ok (.ldc2_w 200, 3) := by decide +kernel
theorem dX8_decades_63 : decode cX8_decades 63 = .ok (.lmul, 1) := by decide +kernel
theorem dX8_decades_64 : decode cX8_decades 64 = .ok (.ldc2_w 202, 3) := by decide +kernel
theorem dX8_decades_67 : decode cX8_decades 67 = .ok (.lrem, 1) := by decide +kernel
theorem dX8_decades_68 : decode cX8_decades 68 = .ok (.lstore 4, 2) := by decide +kernel
theorem dX8_decades_70 : decode cX8_decades 70 = .ok (.lload 4, 2) := by decide +kernel
theorem dX8_decades_72 : decode cX8_decades 72 = .ok (.aload_n 0, 1) := by decide +kernel
theorem dX8_decades_73 : decode cX8_decades 73 = .ok (.getfield 29, 3) := by decide +kernel
theorem dX8_decades_76 : decode cX8_decades 76 = .ok (.iconst 2, 1) := by decide +kernel
theorem dX8_decades_77 : decode cX8_decades 77 = .ok (.iaload, 1) := by decide +kernel
theorem dX8_decades_78 : decode cX8_decades 78 = .ok (.i2l, 1) := by decide +kernel
theorem dX8_decades_79 : decode cX8_decades 79 = .ok (.lrem, 1) := by decide +kernel
theorem dX8_decades_80 : decode cX8_decades 80 = .ok (.l2i, 1) := by decide +kernel
theorem dX8_decades_81 : decode cX8_decades 81 = .ok (.istore 7, 2) := by decide +kernel
theorem dX8_decades_83 : decode cX8_decades 83 = .ok (.lload 4, 2) := by decide +kernel
theorem dX8_decades_85 : decode cX8_decades 85 = .ok (.ldc2_w 204, 3) := by decide +kernel
theorem dX8_decades_88 : decode cX8_decades 88 = .ok (.ldiv, 1) := by decide +kernel
theorem dX8_decades_89 : decode cX8_decades 89 = .ok (.aload_n 0, 1) := by decide +kernel
theorem dX8_decades_90 : decode cX8_decades 90 = .ok (.getfield 29, 3) := by decide +kernel
theorem dX8_decades_93 : decode cX8_decades 93 = .ok (.iconst 1, 1) := by decide +kernel
theorem dX8_decades_94 : decode cX8_decades 94 = .ok (.iaload, 1) := by decide +kernel
theorem dX8_decades_95 : decode cX8_decades 95 = .ok (.i2l, 1) := by decide +kernel
theorem dX8_decades_96 : decode cX8_decades 96 = .ok (.lrem, 1) := by decide +kernel
theorem dX8_decades_97 : decode cX8_decades 97 = .ok (.l2i, 1) := by decide +kernel
theorem dX8_decades_98 : decode cX8_decades 98 = .ok (.istore 8, 2) := by decide +kernel
theorem dX8_decades_100 : decode cX8_decades 100 = .ok (.aload_n 0, 1) := by decide +kernel
theorem dX8_decades_101 : decode cX8_decades 101 = .ok (.getfield 29, 3) := by decide +kernel
theorem dX8_decades_104 : decode cX8_decades 104 = .ok (.iload 7, 2) := by decide +kernel
theorem dX8_decades_106 : decode cX8_decades 106 = .ok (.iload 8, 2) := by decide +kernel
theorem dX8_decades_108 : decode cX8_decades 108 = .ok (.invokestatic 137, 3) := by decide +kernel
theorem dX8_decades_111 : decode cX8_decades 111 = .ok (.ifCond .eq 18, 3) := by decide +kernel
theorem dX8_decades_114 : decode cX8_decades 114 = .ok (.aload_n 0, 1) := by decide +kernel
theorem dX8_decades_115 : decode cX8_decades 115 = .ok (.getfield 29, 3) := by decide +kernel
theorem dX8_decades_118 : decode cX8_decades 118 = .ok (.iload 7, 2) := by decide +kernel
theorem dX8_decades_120 : decode cX8_decades 120 = .ok (.iload 8, 2) := by decide +kernel
theorem dX8_decades_122 : decode cX8_decades 122 = .ok (.invokestatic 147, 3) := by decide +kernel
theorem dX8_decades_125 : decode cX8_decades 125 = .ok (.pop, 1) := by decide +kernel
theorem dX8_decades_126 : decode cX8_decades 126 = .ok (.goto 13, 3) := by decide +kernel
theorem dX8_decades_129 : decode cX8_decades 129 = .ok (.aload_n 0, 1) := by decide +kernel
theorem dX8_decades_130 : decode cX8_decades 130 = .ok (.getfield 29, 3) := by decide +kernel
theorem dX8_decades_133 : decode cX8_decades 133 = .ok (.iconst 0, 1) := by decide +kernel
theorem dX8_decades_134 : decode cX8_decades 134 = .ok (.dup2, 1) := by decide +kernel
theorem dX8_decades_135 : decode cX8_decades 135 = .ok (.iaload, 1) := by decide +kernel
theorem dX8_decades_136 : decode cX8_decades 136 = .ok (.iconst 1, 1) := by decide +kernel
theorem dX8_decades_137 : decode cX8_decades 137 = .ok (.iadd, 1) := by decide +kernel
theorem dX8_decades_138 : decode cX8_decades 138 = .ok (.iastore, 1) := by decide +kernel
theorem dX8_decades_139 : decode cX8_decades 139 = .ok (.iinc 6 1, 3) := by decide +kernel
theorem dX8_decades_142 : decode cX8_decades 142 = .ok (.goto (-90), 3) := by decide +kernel
theorem dX8_decades_145 : decode cX8_decades 145 = .ok (.iload_n 3, 1) := by decide +kernel
theorem dX8_decades_146 : decode cX8_decades 146 = .ok (.ifCond .ne 13, 3) := by decide +kernel
theorem dX8_decades_149 : decode cX8_decades 149 = .ok (.aload_n 0, 1) := by decide +kernel
theorem dX8_decades_150 : decode cX8_decades 150 = .ok (.getfield 29, 3) := by decide +kernel
theorem dX8_decades_153 : decode cX8_decades 153 = .ok (.invokestatic 206, 3) := by decide +kernel
theorem dX8_decades_156 : decode cX8_decades 156 = .ok (.goto 10, 3) := by decide +kernel
theorem dX8_decades_159 : decode cX8_decades 159 = .ok (.aload_n 0, 1) := by decide +kernel
theorem dX8_decades_160 : decode cX8_decades 160 = .ok (.getfield 29, 3) := by decide +kernel
theorem dX8_decades_163 : decode cX8_decades 163 = .ok (.invokestatic 210, 3) := by decide +kernel
theorem dX8_decades_166 : decode cX8_decades 166 = .ok (.ireturn, 1) := by decide +kernel
theorem dX8_isSheet_0 : decode cX8_isSheet 0 = .ok (.iload_n 0, 1) := by decide +kernel
theorem dX8_isSheet_1 : decode cX8_isSheet 1 = .ok (.iconst 0, 1) := by decide +kernel
theorem dX8_isSheet_2 : decode cX8_isSheet 2 = .ok (.iconst 3, 1) := by decide +kernel
theorem dX8_isSheet_3 : decode cX8_isSheet 3 = .ok (.invokestatic 57, 3) := by decide +kernel
theorem dX8_isSheet_6 : decode cX8_isSheet 6 = .ok (.ireturn, 1) := by decide +kernel
theorem dX8_isPart_0 : decode cX8_isPart 0 = .ok (.iload_n 1, 1) := by decide +kernel
theorem dX8_isPart_1 : decode cX8_isPart 1 = .ok (.ifCond .lt 23, 3) := by decide +kernel
theorem dX8_isPart_4 : decode cX8_isPart 4 = .ok (.iload_n 0, 1) := by decide +kernel
theorem dX8_isPart_5 : decode cX8_isPart 5 = .ok (.ifCond .lt 19, 3) := by decide +kernel
theorem dX8_isPart_8 : decode cX8_isPart 8 = .ok (.iload_n 1, 1) := by decide +kernel
theorem dX8_isPart_9 : decode cX8_isPart 9 = .ok (.iload_n 2, 1) := by decide +kernel
theorem dX8_isPart_10 : decode cX8_isPart 10 = .ok (.if_icmp .gt 14, 3) := by decide +kernel
theorem dX8_isPart_13 : decode cX8_isPart 13 = .ok (.iload_n 0, 1) := by decide +kernel
theorem dX8_isPart_14 : decode cX8_isPart 14 = .ok (.iload_n 2, 1) := by decide +kernel
theorem dX8_isPart_15 : decode cX8_isPart 15 = .ok (.iload_n 1, 1) := by decide +kernel
theorem dX8_isPart_16 : decode cX8_isPart 16 = .ok (.isub, 1) := by decide +kernel
theorem dX8_isPart_17 : decode cX8_isPart 17 = .ok (.if_icmp .gt 7, 3) := by decide +kernel
theorem dX8_isPart_20 : decode cX8_isPart 20 = .ok (.iconst 1, 1) := by decide +kernel
theorem dX8_isPart_21 : decode cX8_isPart 21 = .ok (.goto 4, 3) := by decide +kernel
theorem dX8_isPart_24 : decode cX8_isPart 24 = .ok (.iconst 0, 1) := by decide +kernel
theorem dX8_isPart_25 : decode cX8_isPart 25 = .ok (.ireturn, 1) := by decide +kernel
theorem dX8_badRow_0 : decode cX8_badRow 0 = .ok (.aload_n 0, 1) := by decide +kernel
theorem dX8_badRow_1 : decode cX8_badRow 1 = .ok (.getfield 7, 3) := by decide +kernel
theorem dX8_badRow_4 : decode cX8_badRow 4 = .ok (.iload_n 1, 1) := by decide +kernel
theorem dX8_badRow_5 : decode cX8_badRow 5 = .ok (.iaload, 1) := by decide +kernel
theorem dX8_badRow_6 : decode cX8_badRow 6 = .ok (.ifCond .ge 8, 3) := by decide +kernel
theorem dX8_badRow_9 : decode cX8_badRow 9 = .ok (.bipush (-11), 2) := by decide +kernel
theorem dX8_badRow_11 : decode cX8_badRow 11 = .ok (.goto 39, 3) := by decide +kernel
theorem dX8_badRow_14 : decode cX8_badRow 14 = .ok (.aload_n 0, 1) := by decide +kernel
theorem dX8_badRow_15 : decode cX8_badRow 15 = .ok (.getfield 7, 3) := by decide +kernel
theorem dX8_badRow_18 : decode cX8_badRow 18 = .ok (.iload_n 1, 1) := by decide +kernel
theorem dX8_badRow_19 : decode cX8_badRow 19 = .ok (.iaload, 1) := by decide +kernel
theorem dX8_badRow_20 : decode cX8_badRow 20 = .ok (.iload_n 2, 1) := by decide +kernel
theorem dX8_badRow_21 : decode cX8_badRow 21 = .ok (.if_icmp .eq 8, 3) := by decide +kernel
theorem dX8_badRow_24 : decode cX8_badRow 24 = .ok (.bipush (-12), 2) := by decide +kernel
theorem dX8_badRow_26 : decode cX8_badRow 26 = .ok (.goto 24, 3) := by decide +kernel
theorem dX8_badRow_29 : decode cX8_badRow 29 = .ok (.iload_n 3, 1) := by decide +kernel
theorem dX8_badRow_30 : decode cX8_badRow 30 = .ok (.iload 4, 2) := by decide +kernel
theorem dX8_badRow_32 : decode cX8_badRow 32 = .ok (.aload_n 0, 1) := by decide +kernel
theorem dX8_badRow_33 : decode cX8_badRow 33 = .ok (.getfield 13, 3) := by decide +kernel
theorem dX8_badRow_36 : decode cX8_badRow 36 = .ok (.iload_n 1, 1) := by decide +kernel
theorem dX8_badRow_37 : decode cX8_badRow 37 = .ok (.iaload, 1) := by decide +kernel
theorem dX8_badRow_38 : decode cX8_badRow 38 = .ok (.invokestatic 213, 3) := by decide +kernel
theorem dX8_badRow_41 : decode cX8_badRow 41 = .ok (.ifCond .eq 7, 3) := by decide +kernel
theorem dX8_badRow_44 : decode cX8_badRow 44 = .ok (.iconst 0, 1) := by decide +kernel
theorem dX8_badRow_45 : decode cX8_badRow 45 = .ok (.goto 5, 3) := by decide +kernel
theorem dX8_badRow_48 : decode cX8_badRow 48 = .ok (.bipush (-13), 2) := by decide +kernel
theorem dX8_badRow_50 : decode cX8_badRow 50 = .ok (.ireturn, 1) := by decide +kernel
theorem dX8_sheet_0 : decode cX8_sheet 0 = .ok (.iload_n 1, 1) := by decide +kernel
theorem dX8_sheet_1 : decode cX8_sheet 1 = .ok (.invokestatic 216, 3) := by decide +kernel
theorem dX8_sheet_4 : decode cX8_sheet 4 = .ok (.ifCond .eq 18, 3) := by decide +kernel
theorem dX8_sheet_7 : decode cX8_sheet 7 = .ok (.iload_n 2, 1) := by decide +kernel
theorem dX8_sheet_8 : decode cX8_sheet 8 = .ok (.iconst 0, 1) := by decide +kernel
theorem dX8_sheet_9 : decode cX8_sheet 9 = .ok (.iconst 3, 1) := by decide +kernel
theorem dX8_sheet_10 : decode cX8_sheet 10 = .ok (.invokestatic 57, 3) := by decide +kernel
theorem dX8_sheet_13 : decode cX8_sheet 13 = .ok (.ifCond .eq 9, 3) := by decide +kernel
theorem dX8_sheet_16 : decode cX8_sheet 16 = .ok (.iload_n 3, 1) := by decide +kernel
theorem dX8_sheet_17 : decode cX8_sheet 17 = .ok (.bipush 24, 2) := by decide +kernel
theorem dX8_sheet_19 : decode cX8_sheet 19 = .ok (.if_icmp .le 5, 3) := by decide +kernel
theorem dX8_sheet_22 : decode cX8_sheet 22 = .ok (.iconst (-1), 1) := by decide +kernel
theorem dX8_sheet_23 : decode cX8_sheet 23 = .ok (.ireturn, 1) := by decide +kernel
theorem dX8_sheet_24 : decode cX8_sheet 24 = .ok (.iload_n 3, 1) := by decide +kernel
theorem dX8_sheet_25 : decode cX8_sheet 25 = .ok (.ifCond .ge 6, 3) := by decide +kernel
theorem dX8_sheet_28 : decode cX8_sheet 28 = .ok (.bipush (-14), 2) := by decide +kernel
theorem dX8_sheet_30 : decode cX8_sheet 30 = .ok (.ireturn, 1) := by decide +kernel
theorem dX8_sheet_31 : decode cX8_sheet 31 = .ok (.aload_n 0, 1) := by decide +kernel
theorem dX8_sheet_32 : decode cX8_sheet 32 = .ok (.getfield 7, 3) := by decide +kernel
theorem dX8_sheet_35 : decode cX8_sheet 35 = .ok (.iload_n 1, 1) := by decide +kernel
theorem dX8_sheet_36 : decode cX8_sheet 36 = .ok (.iload_n 2, 1) := by decide +kernel
theorem dX8_sheet_37 : decode cX8_sheet 37 = .ok (.iastore, 1) := by decide +kernel
theorem dX8_sheet_38 : decode cX8_sheet 38 = .ok (.aload_n 0, 1) := by decide +kernel
theorem dX8_sheet_39 : decode cX8_sheet 39 = .ok (.getfield 13, 3) := by decide +kernel
theorem dX8_sheet_42 : decode cX8_sheet 42 = .ok (.iload_n 1, 1) := by decide +kernel
theorem dX8_sheet_43 : decode cX8_sheet 43 = .ok (.iload_n 3, 1) := by decide +kernel
theorem dX8_sheet_44 : decode cX8_sheet 44 = .ok (.iastore, 1) := by decide +kernel
theorem dX8_sheet_45 : decode cX8_sheet 45 = .ok (.iconst 0, 1) := by decide +kernel
theorem dX8_sheet_46 : decode cX8_sheet 46 = .ok (.istore 4, 2) := by decide +kernel
theorem dX8_sheet_48 : decode cX8_sheet 48 = .ok (.iload 4, 2) := by decide +kernel
theorem dX8_sheet_50 : decode cX8_sheet 50 = .ok (.bipush 24, 2) := by decide +kernel
theorem dX8_sheet_52 : decode cX8_sheet 52 = .ok (.if_icmp .ge 22, 3) := by decide +kernel
theorem dX8_sheet_55 : decode cX8_sheet 55 = .ok (.aload_n 0, 1) := by decide +kernel
theorem dX8_sheet_56 : decode cX8_sheet 56 = .ok (.getfield 16, 3) := by decide +kernel
theorem dX8_sheet_59 : decode cX8_sheet 59 = .ok (.bipush 24, 2) := by decide +kernel
theorem dX8_sheet_61 : decode cX8_sheet 61 = .ok (.iload_n 1, 1) := by decide +kernel
theorem dX8_sheet_62 : decode cX8_sheet 62 = .ok (.imul, 1) := by decide +kernel
theorem dX8_sheet_63 : decode cX8_sheet 63 = .ok (.iload 4, 2) := by decide +kernel
theorem dX8_sheet_65 : decode cX8_sheet 65 = .ok (.iadd, 1) := by decide +kernel
theorem dX8_sheet_66 : decode cX8_sheet 66 = .ok (.lconst 0, 1) := by decide +kernel
theorem dX8_sheet_67 : decode cX8_sheet 67 = .ok (.lastore, 1) := by decide +kernel
theorem dX8_sheet_68 : decode cX8_sheet 68 = .ok (.iinc 4 1, 3) := by decide +kernel
theorem dX8_sheet_71 : decode cX8_sheet 71 = .ok (.goto (-23), 3) := by decide +kernel
theorem dX8_sheet_74 : decode cX8_sheet 74 = .ok (.iload_n 3, 1) := by decide +kernel
theorem dX8_sheet_75 : decode cX8_sheet 75 = .ok (.ireturn, 1) := by decide +kernel
theorem dX8_drop_0 : decode cX8_drop 0 = .ok (.iload_n 1, 1) := by decide +kernel
theorem dX8_drop_1 : decode cX8_drop 1 = .ok (.invokestatic 216, 3) := by decide +kernel
theorem dX8_drop_4 : decode cX8_drop 4 = .ok (.ifCond .ne 5, 3) := by decide +kernel
theorem dX8_drop_7 : decode cX8_drop 7 = .ok (.iconst (-1), 1) := by decide +kernel
theorem dX8_drop_8 : decode cX8_drop 8 = .ok (.ireturn, 1) := by decide +kernel
theorem dX8_drop_9 : decode cX8_drop 9 = .ok (.aload_n 0, 1) := by decide +kernel
theorem dX8_drop_10 : decode cX8_drop 10 = .ok (.getfield 7, 3) := by decide +kernel
theorem dX8_drop_13 : decode cX8_drop 13 = .ok (.iload_n 1, 1) := by decide +kernel
theorem dX8_drop_14 : decode cX8_drop 14 = .ok (.iaload, 1) := by decide +kernel
theorem dX8_drop_15 : decode cX8_drop 15 = .ok (.ifCond .ge 6, 3) := by decide +kernel
theorem dX8_drop_18 : decode cX8_drop 18 = .ok (.bipush (-11), 2) := by decide +kernel
theorem dX8_drop_20 : decode cX8_drop 20 = .ok (.ireturn, 1) := by decide +kernel
theorem dX8_drop_21 : decode cX8_drop 21 = .ok (.aload_n 0, 1) := by decide +kernel
theorem dX8_drop_22 : decode cX8_drop 22 = .ok (.getfield 7, 3) := by decide +kernel
theorem dX8_drop_25 : decode cX8_drop 25 = .ok (.iload_n 1, 1) := by decide +kernel
theorem dX8_drop_26 : decode cX8_drop 26 = .ok (.iconst (-1), 1) := by decide +kernel
theorem dX8_drop_27 : decode cX8_drop 27 = .ok (.iastore, 1) := by decide +kernel
theorem dX8_drop_28 : decode cX8_drop 28 = .ok (.aload_n 0, 1) := by decide +kernel
theorem dX8_drop_29 : decode cX8_drop 29 = .ok (.getfield 13, 3) := by decide +kernel
theorem dX8_drop_32 : decode cX8_drop 32 = .ok (.iload_n 1, 1) := by decide +kernel
theorem dX8_drop_33 : decode cX8_drop 33 = .ok (.iaload, 1) := by decide +kernel
theorem dX8_drop_34 : decode cX8_drop 34 = .ok (.ireturn, 1) := by decide +kernel
theorem dX8_item_0 : decode cX8_item 0 = .ok (.iload_n 1, 1) := by decide +kernel
theorem dX8_item_1 : decode cX8_item 1 = .ok (.invokestatic 216, 3) := by decide +kernel
theorem dX8_item_4 : decode cX8_item 4 = .ok (.ifCond .eq 12, 3) := by decide +kernel
theorem dX8_item_7 : decode cX8_item 7 = .ok (.iload_n 2, 1) := by decide +kernel
theorem dX8_item_8 : decode cX8_item 8 = .ok (.iconst 0, 1) := by decide +kernel
theorem dX8_item_9 : decode cX8_item 9 = .ok (.iconst 3, 1) := by decide +kernel
theorem dX8_item_10 : decode cX8_item 10 = .ok (.invokestatic 57, 3) := by decide +kernel
theorem dX8_item_13 : decode cX8_item 13 = .ok (.ifCond .ne 7, 3) := by decide +kernel
theorem dX8_item_16 : decode cX8_item 16 = .ok (.ldc2_w 219, 3) := by decide +kernel
theorem dX8_item_19 : decode cX8_item 19 = .ok (.lreturn, 1) := by decide +kernel
theorem dX8_item_20 : decode cX8_item 20 = .ok (.aload_n 0, 1) := by decide +kernel
theorem dX8_item_21 : decode cX8_item 21 = .ok (.iload_n 1, 1) := by decide +kernel
theorem dX8_item_22 : decode cX8_item 22 = .ok (.iload_n 2, 1) := by decide +kernel
theorem dX8_item_23 : decode cX8_item 23 = .ok (.iload_n 3, 1) := by decide +kernel
theorem dX8_item_24 : decode cX8_item 24 = .ok (.iconst 1, 1) := by decide +kernel
theorem dX8_item_25 : decode cX8_item 25 = .ok (.invokevirtual 221, 3) := by decide +kernel
theorem dX8_item_28 : decode cX8_item 28 = .ok (.istore 6, 2) := by decide +kernel
theorem dX8_item_30 : decode cX8_item 30 = .ok (.iload 6, 2) := by decide +kernel
theorem dX8_item_32 : decode cX8_item 32 = .ok (.ifCond .eq 7, 3) := by decide +kernel
theorem dX8_item_35 : decode cX8_item 35 = .ok (.iload 6, 2) := by decide +kernel
theorem dX8_item_37 : decode cX8_item 37 = .ok (.i2l, 1) := by decide +kernel
theorem dX8_item_38 : decode cX8_item 38 = .ok (.lreturn, 1) := by decide +kernel
theorem dX8_item_39 : decode cX8_item 39 = .ok (.aload_n 0, 1) := by decide +kernel
theorem dX8_item_40 : decode cX8_item 40 = .ok (.getfield 16, 3) := by decide +kernel
theorem dX8_item_43 : decode cX8_item 43 = .ok (.bipush 24, 2) := by decide +kernel
theorem dX8_item_45 : decode cX8_item 45 = .ok (.iload_n 1, 1) := by decide +kernel
theorem dX8_item_46 : decode cX8_item 46 = .ok (.imul, 1) := by decide +kernel
theorem dX8_item_47 : decode cX8_item 47 = .ok (.iload_n 3, 1) := by decide +kernel
theorem dX8_item_48 : decode cX8_item 48 = .ok (.iadd, 1) := by decide +kernel
theorem dX8_item_49 : decode cX8_item 49 = .ok (.iload_n 2, 1) := by decide +kernel
theorem dX8_item_50 : decode cX8_item 50 = .ok (.ifCond .ne 11, 3) := by decide +kernel
theorem dX8_item_53 : decode cX8_item 53 = .ok (.lload 4, 2) := by decide +kernel
theorem dX8_item_55 : decode cX8_item 55 = .ok (.l2i, 1) := by decide +kernel
theorem dX8_item_56 : decode cX8_item 56 = .ok (.i2b, 1) := by decide +kernel
theorem dX8_item_57 : decode cX8_item 57 = .ok (.i2l, 1) := by decide +kernel
theorem dX8_item_58 : decode cX8_item 58 = .ok (.goto 30, 3) := by decide +kernel
theorem dX8_item_61 : decode cX8_item 61 = .ok (.iload_n 2, 1) := by decide +kernel
theorem dX8_item_62 : decode cX8_item 62 = .ok (.iconst 1, 1) := by decide +kernel
theorem dX8_item_63 : decode cX8_item 63 = .ok (.if_icmp .ne 11, 3) := by decide +kernel
theorem dX8_item_66 : decode cX8_item 66 = .ok (.lload 4, 2) := by decide +kernel
theorem dX8_item_68 : decode cX8_item 68 = .ok (.l2i, 1) := by decide +kernel
theorem dX8_item_69 : decode cX8_item 69 = .ok (.i2s, 1) := by decide +kernel
theorem dX8_item_70 : decode cX8_item 70 = .ok (.i2l, 1) := by decide +kernel
theorem dX8_item_71 : decode cX8_item 71 = .ok (.goto 17, 3) := by decide +kernel
theorem dX8_item_74 : decode cX8_item 74 = .ok (.iload_n 2, 1) := by decide +kernel
theorem dX8_item_75 : decode cX8_item 75 = .ok (.iconst 2, 1) := by decide +kernel
theorem dX8_item_76 : decode cX8_item 76 = .ok (.if_icmp .ne 10, 3) := by decide +kernel
theorem dX8_item_79 : decode cX8_item 79 = .ok (.lload 4, 2) := by decide +kernel
theorem dX8_item_81 : decode cX8_item 81 = .ok (.l2i, 1) := by decide +kernel
theorem dX8_item_82 : decode cX8_item 82 = .ok (.i2l, 1) := by decide +kernel
theorem dX8_item_83 : decode cX8_item 83 = .ok (.goto 5, 3) := by decide +kernel
theorem dX8_item_86 : decode cX8_item 86 = .ok (.lload 4, 2) := by decide +kernel
theorem dX8_item_88 : decode cX8_item 88 = .ok (.lastore, 1) := by decide +kernel
theorem dX8_item_89 : decode cX8_item 89 = .ok (.aload_n 0, 1) := by decide +kernel
theorem dX8_item_90 : decode cX8_item 90 = .ok (.getfield 16, 3) := by decide +kernel
theorem dX8_item_93 : decode cX8_item 93 = .ok (.bipush 24, 2) := by decide +kernel
theorem dX8_item_95 : decode cX8_item 95 = .ok (.iload_n 1, 1) := by decide +kernel
theorem dX8_item_96 : decode cX8_item 96 = .ok (.imul, 1) := by decide +kernel
theorem dX8_item_97 : decode cX8_item 97 = .ok (.iload_n 3, 1) := by decide +kernel
theorem dX8_item_98 : decode cX8_item 98 = .ok (.iadd, 1) := by decide +kernel
theorem dX8_item_99 : decode cX8_item 99 = .ok (.laload, 1) := by decide +kernel
theorem dX8_item_100 : decode cX8_item 100 = .ok (.lreturn, 1) := by decide +kernel
theorem dX8_copy_0 : decode cX8_copy 0 = .ok (.iload_n 1, 1) := by decide +kernel
theorem dX8_copy_1 : decode cX8_copy 1 = .ok (.invokestatic 216, 3) := by decide +kernel
theorem dX8_copy_4 : decode cX8_copy 4 = .ok (.ifCond .eq 10, 3) := by decide +kernel
theorem dX8_copy_7 : decode cX8_copy 7 = .ok (.iload_n 3, 1) := by decide +kernel
theorem dX8_copy_8 : decode cX8_copy 8 = .ok (.invokestatic 216, 3) := by decide +kernel
theorem dX8_copy_11 : decode cX8_copy 11 = .ok (.ifCond .ne 5, 3) := by decide +kernel
theorem dX8_copy_14 : decode cX8_copy 14 = .ok (.iconst (-1), 1) := by decide +kernel
theorem dX8_copy_15 : decode cX8_copy 15 = .ok (.ireturn, 1) := by decide +kernel
theorem dX8_copy_16 : decode cX8_copy 16 = .ok (.aload_n 0, 1) := by decide +kernel
theorem dX8_copy_17 : decode cX8_copy 17 = .ok (.getfield 7, 3) := by decide +kernel
theorem dX8_copy_20 : decode cX8_copy 20 = .ok (.iload_n 1, 1) := by decide +kernel
theorem dX8_copy_21 : decode cX8_copy 21 = .ok (.iaload, 1) := by decide +kernel
theorem dX8_copy_22 : decode cX8_copy 22 = .ok (.ifCond .lt 12, 3) := by decide +kernel
theorem dX8_copy_25 : decode cX8_copy 25 = .ok (.aload_n 0, 1) := by decide +kernel
theorem dX8_copy_26 : decode cX8_copy 26 = .ok (.getfield 7, 3) := by decide +kernel
theorem dX8_copy_29 : decode cX8_copy 29 = .ok (.iload_n 3, 1) := by decide +kernel
theorem dX8_copy_30 : decode cX8_copy 30 = .ok (.iaload, 1) := by decide +kernel
theorem dX8_copy_31 : decode cX8_copy 31 = .ok (.ifCond .ge 6, 3) := by decide +kernel
theorem dX8_copy_34 : decode cX8_copy 34 = .ok (.bipush (-11), 2) := by decide +kernel
theorem dX8_copy_36 : decode cX8_copy 36 = .ok (.ireturn, 1) := by decide +kernel
theorem dX8_copy_37 : decode cX8_copy 37 = .ok (.aload_n 0, 1) := by decide +kernel
theorem dX8_copy_38 : decode cX8_copy 38 = .ok (.getfield 7, 3) := by decide +kernel
theorem dX8_copy_41 : decode cX8_copy 41 = .ok (.iload_n 1, 1) := by decide +kernel
theorem dX8_copy_42 : decode cX8_copy 42 = .ok (.iaload, 1) := by decide +kernel
theorem dX8_copy_43 : decode cX8_copy 43 = .ok (.aload_n 0, 1) := by decide +kernel
theorem dX8_copy_44 : decode cX8_copy 44 = .ok (.getfield 7, 3) := by decide +kernel
theorem dX8_copy_47 : decode cX8_copy 47 = .ok (.iload_n 3, 1) := by decide +kernel
theorem dX8_copy_48 : decode cX8_copy 48 = .ok (.iaload, 1) := by decide +kernel
theorem dX8_copy_49 : decode cX8_copy 49 = .ok (.if_icmp .eq 6, 3) := by decide +kernel
theorem dX8_copy_52 : decode cX8_copy 52 = .ok (.bipush (-12), 2) := by decide +kernel
theorem dX8_copy_54 : decode cX8_copy 54 = .ok (.ireturn, 1) := by decide +kernel
theorem dX8_copy_55 : decode cX8_copy 55 = .ok (.iload_n 2, 1) := by decide +kernel
theorem dX8_copy_56 : decode cX8_copy 56 = .ok (.iload 5, 2) := by decide +kernel
theorem dX8_copy_58 : decode cX8_copy 58 = .ok (.aload_n 0, 1) := by decide +kernel
theorem dX8_copy_59 : decode cX8_copy 59 = .ok (.getfield 13, 3) := by decide +kernel
theorem dX8_copy_62 : decode cX8_copy 62 = .ok (.iload_n 1, 1) := by decide +kernel
theorem dX8_copy_63 : decode cX8_copy 63 = .ok (.iaload, 1) := by decide +kernel
theorem dX8_copy_64 : decode cX8_copy 64 = .ok (.invokestatic 213, 3) := by decide +kernel
theorem dX8_copy_67 : decode cX8_copy 67 = .ok (.ifCond .eq 19, 3) := by decide +kernel
theorem dX8_copy_70 : decode cX8_copy 70 = .ok (.iload 4, 2) := by decide +kernel
theorem dX8_copy_72 : decode cX8_copy 72 = .ok (.iload 5, 2) := by decide +kernel
theorem dX8_copy_74 : decode cX8_copy 74 = .ok (.aload_n 0, 1) := by decide +kernel
theorem dX8_copy_75 : decode cX8_copy 75 = .ok (.getfield 13, 3) := by decide +kernel
theorem dX8_copy_78 : decode cX8_copy 78 = .ok (.iload_n 3, 1) := by decide +kernel
theorem dX8_copy_79 : decode cX8_copy 79 = .ok (.iaload, 1) := by decide +kernel
theorem dX8_copy_80 : decode cX8_copy 80 = .ok (.invokestatic 213, 3) := by decide +kernel
theorem dX8_copy_83 : decode cX8_copy 83 = .ok (.ifCond .ne 6, 3) := by decide +kernel
theorem dX8_copy_86 : decode cX8_copy 86 = .ok (.bipush (-13), 2) := by decide +kernel
theorem dX8_copy_88 : decode cX8_copy 88 = .ok (.ireturn, 1) := by decide +kernel
theorem dX8_copy_89 : decode cX8_copy 89 = .ok (.iload_n 1, 1) := by decide +kernel
theorem dX8_copy_90 : decode cX8_copy 90 = .ok (.iload_n 3, 1) := by decide +kernel
theorem dX8_copy_91 : decode cX8_copy 91 = .ok (.if_icmp .ne 13, 3) := by decide +kernel
theorem dX8_copy_94 : decode cX8_copy 94 = .ok (.iload 4, 2) := by decide +kernel
theorem dX8_copy_96 : decode cX8_copy 96 = .ok (.iload_n 2, 1) := by decide +kernel
theorem dX8_copy_97 : decode cX8_copy 97 = .ok (.if_icmp .le 7, 3) := by decide +kernel
theorem dX8_copy_100 : decode cX8_copy 100 = .ok (.iconst 1, 1) := by decide +kernel
theorem dX8_copy_101 : decode cX8_copy 101 = .ok (.goto 4, 3) := by decide +kernel
theorem dX8_copy_104 : decode cX8_copy 104 = .ok (.iconst 0, 1) := by decide +kernel
theorem dX8_copy_105 : decode cX8_copy 105 = .ok (.istore 6, 2) := by decide +kernel
theorem dX8_copy_107 : decode cX8_copy 107 = .ok (.iconst 0, 1) := by decide +kernel
theorem dX8_copy_108 : decode cX8_copy 108 = .ok (.istore 7, 2) := by decide +kernel
theorem dX8_copy_110 : decode cX8_copy 110 = .ok (.iload 7, 2) := by decide +kernel
theorem dX8_copy_112 : decode cX8_copy 112 = .ok (.iload 5, 2) := by decide +kernel
theorem dX8_copy_114 : decode cX8_copy 114 = .ok (.if_icmp .ge 57, 3) := by decide +kernel
theorem dX8_copy_117 : decode cX8_copy 117 = .ok (.iload 6, 2) := by decide +kernel
theorem dX8_copy_119 : decode cX8_copy 119 = .ok (.ifCond .eq 13, 3) := by decide +kernel
theorem dX8_copy_122 : decode cX8_copy 122 = .ok (.iload 5, 2) := by decide +kernel
theorem dX8_copy_124 : decode cX8_copy 124 = .ok (.iconst 1, 1) := by decide +kernel
theorem dX8_copy_125 : decode cX8_copy 125 = .ok (.isub, 1) := by decide +kernel
theorem dX8_copy_126 : decode cX8_copy 126 = .ok (.iload 7, 2) := by decide +kernel
theorem dX8_copy_128 : decode cX8_copy 128 = .ok (.isub, 1) := by decide +kernel
theorem dX8_copy_129 : decode cX8_copy 129 = .ok (.goto 5, 3) := by decide +kernel
theorem dX8_copy_132 : decode cX8_copy 132 = .ok (.iload 7, 2) := by decide +kernel
theorem dX8_copy_134 : decode cX8_copy 134 = .ok (.istore 8, 2) := by decide +kernel
theorem dX8_copy_136 : decode cX8_copy 136 = .ok (.aload_n 0, 1) := by decide +kernel
theorem dX8_copy_137 : decode cX8_copy 137 = .ok (.getfield 16, 3) := by decide +kernel
theorem dX8_copy_140 : decode cX8_copy 140 = .ok (.bipush 24, 2) := by decide +kernel
theorem dX8_copy_142 : decode cX8_copy 142 = .ok (.iload_n 3, 1) := by decide +kernel
theorem dX8_copy_143 : decode cX8_copy 143 = .ok (.imul, 1) := by decide +kernel
theorem dX8_copy_144 : decode cX8_copy 144 = .ok (.iload 4, 2) := by decide +kernel
theorem dX8_copy_146 : decode cX8_copy 146 = .ok (.iadd, 1) := by decide +kernel
theorem dX8_copy_147 : decode cX8_copy 147 = .ok (.iload 8, 2) := by decide +kernel
theorem dX8_copy_149 : decode cX8_copy 149 = .ok (.iadd, 1) := by decide +kernel
theorem dX8_copy_150 : decode cX8_copy 150 = .ok (.aload_n 0, 1) := by decide +kernel
theorem dX8_copy_151 : decode cX8_copy 151 = .ok (.getfield 16, 3) := by decide +kernel
theorem dX8_copy_154 : decode cX8_copy 154 = .ok (.bipush 24, 2) := by decide +kernel
theorem dX8_copy_156 : decode cX8_copy 156 = .ok (.iload_n 1, 1) := by decide +kernel
theorem dX8_copy_157 : decode cX8_copy 157 = .ok (.imul, 1) := by decide +kernel
theorem dX8_copy_158 : decode cX8_copy 158 = .ok (.iload_n 2, 1) := by decide +kernel
theorem dX8_copy_159 : decode cX8_copy 159 = .ok (.iadd, 1) := by decide +kernel
theorem dX8_copy_160 : decode cX8_copy 160 = .ok (.iload 8, 2) := by decide +kernel
theorem dX8_copy_162 : decode cX8_copy 162 = .ok (.iadd, 1) := by decide +kernel
theorem dX8_copy_163 : decode cX8_copy 163 = .ok (.laload, 1) := by decide +kernel
theorem dX8_copy_164 : decode cX8_copy 164 = .ok (.lastore, 1) := by decide +kernel
theorem dX8_copy_165 : decode cX8_copy 165 = .ok (.iinc 7 1, 3) := by decide +kernel
theorem dX8_copy_168 : decode cX8_copy 168 = .ok (.goto (-58), 3) := by decide +kernel
theorem dX8_copy_171 : decode cX8_copy 171 = .ok (.iload 5, 2) := by decide +kernel
theorem dX8_copy_173 : decode cX8_copy 173 = .ok (.ireturn, 1) := by decide +kernel
theorem dX8_cutTo_0 : decode cX8_cutTo 0 = .ok (.iload_n 0, 1) := by decide +kernel
theorem dX8_cutTo_1 : decode cX8_cutTo 1 = .ok (.ifCond .ne 10, 3) := by decide +kernel
theorem dX8_cutTo_4 : decode cX8_cutTo 4 = .ok (.lload_n 1, 1) := by decide +kernel
theorem dX8_cutTo_5 : decode cX8_cutTo 5 = .ok (.l2i, 1) := by decide +kernel
theorem dX8_cutTo_6 : decode cX8_cutTo 6 = .ok (.i2b, 1) := by decide +kernel
theorem dX8_cutTo_7 : decode cX8_cutTo 7 = .ok (.i2l, 1) := by decide +kernel
theorem dX8_cutTo_8 : decode cX8_cutTo 8 = .ok (.goto 27, 3) := by decide +kernel
theorem dX8_cutTo_11 : decode cX8_cutTo 11 = .ok (.iload_n 0, 1) := by decide +kernel
theorem dX8_cutTo_12 : decode cX8_cutTo 12 = .ok (.iconst 1, 1) := by decide +kernel
theorem dX8_cutTo_13 : decode cX8_cutTo 13 = .ok (.if_icmp .ne 10, 3) := by decide +kernel
theorem dX8_cutTo_16 : decode cX8_cutTo 16 = .ok (.lload_n 1, 1) := by decide +kernel
theorem dX8_cutTo_17 : decode cX8_cutTo 17 = .ok (.l2i, 1) := by decide +kernel
theorem dX8_cutTo_18 : decode cX8_cutTo 18 = .ok (.i2s, 1) := by decide +kernel
theorem dX8_cutTo_19 : decode cX8_cutTo 19 = .ok (.i2l, 1) := by decide +kernel
theorem dX8_cutTo_20 : decode cX8_cutTo 20 = .ok (.goto 15, 3) := by decide +kernel
theorem dX8_cutTo_23 : decode cX8_cutTo 23 = .ok (.iload_n 0, 1) := by decide +kernel
theorem dX8_cutTo_24 : decode cX8_cutTo 24 = .ok (.iconst 2, 1) := by decide +kernel
theorem dX8_cutTo_25 : decode cX8_cutTo 25 = .ok (.if_icmp .ne 9, 3) := by decide +kernel
theorem dX8_cutTo_28 : decode cX8_cutTo 28 = .ok (.lload_n 1, 1) := by decide +kernel
theorem dX8_cutTo_29 : decode cX8_cutTo 29 = .ok (.l2i, 1) := by decide +kernel
theorem dX8_cutTo_30 : decode cX8_cutTo 30 = .ok (.i2l, 1) := by decide +kernel
theorem dX8_cutTo_31 : decode cX8_cutTo 31 = .ok (.goto 4, 3) := by decide +kernel
theorem dX8_cutTo_34 : decode cX8_cutTo 34 = .ok (.lload_n 1, 1) := by decide +kernel
theorem dX8_cutTo_35 : decode cX8_cutTo 35 = .ok (.lreturn, 1) := by decide +kernel
theorem dX8_log_0 : decode cX8_log 0 = .ok (.aload_n 0, 1) := by decide +kernel
theorem dX8_log_1 : decode cX8_log 1 = .ok (.iload_n 1, 1) := by decide +kernel
theorem dX8_log_2 : decode cX8_log 2 = .ok (.invokevirtual 105, 3) := by decide +kernel
theorem dX8_log_5 : decode cX8_log 5 = .ok (.ifCond .eq 19, 3) := by decide +kernel
theorem dX8_log_8 : decode cX8_log 8 = .ok (.iload_n 2, 1) := by decide +kernel
theorem dX8_log_9 : decode cX8_log 9 = .ok (.invokestatic 216, 3) := by decide +kernel
theorem dX8_log_12 : decode cX8_log 12 = .ok (.ifCond .eq 12, 3) := by decide +kernel
theorem dX8_log_15 : decode cX8_log 15 = .ok (.iload_n 3, 1) := by decide +kernel
theorem dX8_log_16 : decode cX8_log 16 = .ok (.iconst 0, 1) := by decide +kernel
theorem dX8_log_17 : decode cX8_log 17 = .ok (.iconst 3, 1) := by decide +kernel
theorem dX8_log_18 : decode cX8_log 18 = .ok (.invokestatic 57, 3) := by decide +kernel
theorem dX8_log_21 : decode cX8_log 21 = .ok (.ifCond .ne 5, 3) := by decide +kernel
theorem dX8_log_24 : decode cX8_log 24 = .ok (.iconst (-1), 1) := by decide +kernel
theorem dX8_log_25 : decode cX8_log 25 = .ok (.ireturn, 1) := by decide +kernel
theorem dX8_log_26 : decode cX8_log 26 = .ok (.aload_n 0, 1) := by decide +kernel
theorem dX8_log_27 : decode cX8_log 27 = .ok (.iload_n 2, 1) := by decide +kernel
theorem dX8_log_28 : decode cX8_log 28 = .ok (.iload_n 3, 1) := by decide +kernel
theorem dX8_log_29 : decode cX8_log 29 = .ok (.iload 4, 2) := by decide +kernel
theorem dX8_log_31 : decode cX8_log 31 = .ok (.aload_n 0, 1) := by decide +kernel
theorem dX8_log_32 : decode cX8_log 32 = .ok (.getfield 23, 3) := by decide +kernel
theorem dX8_log_35 : decode cX8_log 35 = .ok (.iconst 2, 1) := by decide +kernel
theorem dX8_log_36 : decode cX8_log 36 = .ok (.iaload, 1) := by decide +kernel
theorem dX8_log_37 : decode cX8_log 37 = .ok (.invokevirtual 221, 3) := by decide +kernel
theorem dX8_log_40 : decode cX8_log 40 = .ok (.istore 5, 2) := by decide +kernel
theorem dX8_log_42 : decode cX8_log 42 = .ok (.iload 5, 2) := by decide +kernel
theorem dX8_log_44 : decode cX8_log 44 = .ok (.ifCond .eq 6, 3) := by decide +kernel
theorem dX8_log_47 : decode cX8_log 47 = .ok (.iload 5, 2) := by decide +kernel
theorem dX8_log_49 : decode cX8_log 49 = .ok (.ireturn, 1) := by decide +kernel
theorem dX8_log_50 : decode cX8_log 50 = .ok (.iconst 0, 1) := by decide +kernel
theorem dX8_log_51 : decode cX8_log 51 = .ok (.istore 6, 2) := by decide +kernel
theorem dX8_log_53 : decode cX8_log 53 = .ok (.iload 6, 2) := by decide +kernel
theorem dX8_log_55 : decode cX8_log 55 = .ok (.aload_n 0, 1) := by decide +kernel
theorem dX8_log_56 : decode cX8_log 56 = .ok (.getfield 23, 3) := by decide +kernel
theorem dX8_log_59 : decode cX8_log 59 = .ok (.iconst 2, 1) := by decide +kernel
theorem dX8_log_60 : decode cX8_log 60 = .ok (.iaload, 1) := by decide +kernel
theorem dX8_log_61 : decode cX8_log 61 = .ok (.if_icmp .ge 39, 3) := by decide +kernel
theorem dX8_log_64 : decode cX8_log 64 = .ok (.aload_n 0, 1) := by decide +kernel
theorem dX8_log_65 : decode cX8_log 65 = .ok (.getfield 16, 3) := by decide +kernel
theorem dX8_log_68 : decode cX8_log 68 = .ok (.bipush 24, 2) := by decide +kernel
theorem dX8_log_70 : decode cX8_log 70 = .ok (.iload_n 2, 1) := by decide +kernel
theorem dX8_log_71 : decode cX8_log 71 = .ok (.imul, 1) := by decide +kernel
theorem dX8_log_72 : decode cX8_log 72 = .ok (.iload 4, 2) := by decide +kernel
theorem dX8_log_74 : decode cX8_log 74 = .ok (.iadd, 1) := by decide +kernel
theorem dX8_log_75 : decode cX8_log 75 = .ok (.iload 6, 2) := by decide +kernel
theorem dX8_log_77 : decode cX8_log 77 = .ok (.iadd, 1) := by decide +kernel
theorem dX8_log_78 : decode cX8_log 78 = .ok (.iload_n 3, 1) := by decide +kernel
theorem dX8_log_79 : decode cX8_log 79 = .ok (.aload_n 0, 1) := by decide +kernel
theorem dX8_log_80 : decode cX8_log 80 = .ok (.getfield 23, 3) := by decide +kernel
theorem dX8_log_83 : decode cX8_log 83 = .ok (.iload 6, 2) := by decide +kernel
theorem dX8_log_85 : decode cX8_log 85 = .ok (.iload_n 1, 1) := by decide +kernel
theorem dX8_log_86 : decode cX8_log 86 = .ok (.invokestatic 127, 3) := by decide +kernel
theorem dX8_log_89 : decode cX8_log 89 = .ok (.i2l, 1) := by decide +kernel
theorem dX8_log_90 : decode cX8_log 90 = .ok (.invokestatic 224, 3) := by decide +kernel
theorem dX8_log_93 : decode cX8_log 93 = .ok (.lastore, 1) := by decide +kernel
theorem dX8_log_94 : decode cX8_log 94 = .ok (.iinc 6 1, 3) := by decide +kernel
theorem dX8_log_97 : decode cX8_log 97 = .ok (.goto (-44), 3) := by decide +kernel
theorem dX8_log_100 : decode cX8_log 100 = .ok (.aload_n 0, 1) := by decide +kernel
theorem dX8_log_101 : decode cX8_log 101 = .ok (.getfield 23, 3) := by decide +kernel
theorem dX8_log_104 : decode cX8_log 104 = .ok (.iconst 2, 1) := by decide +kernel
theorem dX8_log_105 : decode cX8_log 105 = .ok (.iaload, 1) := by decide +kernel
theorem dX8_log_106 : decode cX8_log 106 = .ok (.ireturn, 1) := by decide +kernel
theorem dX8_saidAs_0 : decode cX8_saidAs 0 = .ok (.iload_n 2, 1) := by decide +kernel
theorem dX8_saidAs_1 : decode cX8_saidAs 1 = .ok (.ifCond .eq 30, 3) := by decide +kernel
theorem dX8_saidAs_4 : decode cX8_saidAs 4 = .ok (.iload_n 3, 1) := by decide +kernel
theorem dX8_saidAs_5 : decode cX8_saidAs 5 = .ok (.aload_n 0, 1) := by decide +kernel
theorem dX8_saidAs_6 : decode cX8_saidAs 6 = .ok (.getfield 23, 3) := by decide +kernel
theorem dX8_saidAs_9 : decode cX8_saidAs 9 = .ok (.bipush 9, 2) := by decide +kernel
theorem dX8_saidAs_11 : decode cX8_saidAs 11 = .ok (.iload_n 1, 1) := by decide +kernel
theorem dX8_saidAs_12 : decode cX8_saidAs 12 = .ok (.iadd, 1) := by decide +kernel
theorem dX8_saidAs_13 : decode cX8_saidAs 13 = .ok (.iaload, 1) := by decide +kernel
theorem dX8_saidAs_14 : decode cX8_saidAs 14 = .ok (.aload_n 0, 1) := by decide +kernel
theorem dX8_saidAs_15 : decode cX8_saidAs 15 = .ok (.getfield 23, 3) := by decide +kernel
theorem dX8_saidAs_18 : decode cX8_saidAs 18 = .ok (.bipush 39, 2) := by decide +kernel
theorem dX8_saidAs_20 : decode cX8_saidAs 20 = .ok (.iload_n 1, 1) := by decide +kernel
theorem dX8_saidAs_21 : decode cX8_saidAs 21 = .ok (.iadd, 1) := by decide +kernel
theorem dX8_saidAs_22 : decode cX8_saidAs 22 = .ok (.iaload, 1) := by decide +kernel
theorem dX8_saidAs_23 : decode cX8_saidAs 23 = .ok (.iload 4, 2) := by decide +kernel
theorem dX8_saidAs_25 : decode cX8_saidAs 25 = .ok (.invokestatic 123, 3) := by decide +kernel
theorem dX8_saidAs_28 : decode cX8_saidAs 28 = .ok (.goto 26, 3) := by decide +kernel
theorem dX8_saidAs_31 : decode cX8_saidAs 31 = .ok (.aload_n 0, 1) := by decide +kernel
theorem dX8_saidAs_32 : decode cX8_saidAs 32 = .ok (.getfield 23, 3) := by decide +kernel
theorem dX8_saidAs_35 : decode cX8_saidAs 35 = .ok (.iconst 3, 1) := by decide +kernel
theorem dX8_saidAs_36 : decode cX8_saidAs 36 = .ok (.iload_n 1, 1) := by decide +kernel
theorem dX8_saidAs_37 : decode cX8_saidAs 37 = .ok (.iadd, 1) := by decide +kernel
theorem dX8_saidAs_38 : decode cX8_saidAs 38 = .ok (.iaload, 1) := by decide +kernel
theorem dX8_saidAs_39 : decode cX8_saidAs 39 = .ok (.iload_n 3, 1) := by decide +kernel
theorem dX8_saidAs_40 : decode cX8_saidAs 40 = .ok (.aload_n 0, 1) := by decide +kernel
theorem dX8_saidAs_41 : decode cX8_saidAs 41 = .ok (.getfield 23, 3) := by decide +kernel
theorem dX8_saidAs_44 : decode cX8_saidAs 44 = .ok (.bipush 39, 2) := by decide +kernel
theorem dX8_saidAs_46 : decode cX8_saidAs 46 = .ok (.iload_n 1, 1) := by decide +kernel
theorem dX8_saidAs_47 : decode cX8_saidAs 47 = .ok (.iadd, 1) := by decide +kernel
theorem dX8_saidAs_48 : decode cX8_saidAs 48 = .ok (.iaload, 1) := by decide +kernel
theorem dX8_saidAs_49 : decode cX8_saidAs 49 = .ok (.iload 4, 2) := by decide +kernel
theorem dX8_saidAs_51 : decode cX8_saidAs 51 = .ok (.invokestatic 123, 3) := by decide +kernel
theorem dX8_saidAs_54 : decode cX8_saidAs 54 = .ok (.ireturn, 1) := by decide +kernel
theorem dX8_fitBy_0 : decode cX8_fitBy 0 = .ok (.iconst 0, 1) := by decide +kernel
theorem dX8_fitBy_1 : decode cX8_fitBy 1 = .ok (.istore 5, 2) := by decide +kernel
theorem dX8_fitBy_3 : decode cX8_fitBy 3 = .ok (.iload_n 2, 1) := by decide +kernel
theorem dX8_fitBy_4 : decode cX8_fitBy 4 = .ok (.ifCond .eq 7, 3) := by decide +kernel
theorem dX8_fitBy_7 : decode cX8_fitBy 7 = .ok (.iconst 1, 1) := by decide +kernel
theorem dX8_fitBy_8 : decode cX8_fitBy 8 = .ok (.goto 4, 3) := by decide +kernel
theorem dX8_fitBy_11 : decode cX8_fitBy 11 = .ok (.iconst 0, 1) := by decide +kernel
theorem dX8_fitBy_12 : decode cX8_fitBy 12 = .ok (.istore 6, 2) := by decide +kernel
theorem dX8_fitBy_14 : decode cX8_fitBy 14 = .ok (.iload 6, 2) := by decide +kernel
theorem dX8_fitBy_16 : decode cX8_fitBy 16 = .ok (.iload_n 2, 1) := by decide +kernel
theorem dX8_fitBy_17 : decode cX8_fitBy 17 = .ok (.ifCond .eq 7, 3) := by decide +kernel
theorem dX8_fitBy_20 : decode cX8_fitBy 20 = .ok (.iconst 5, 1) := by decide +kernel
theorem dX8_fitBy_21 : decode cX8_fitBy 21 = .ok (.goto 5, 3) := by decide +kernel
theorem dX8_fitBy_24 : decode cX8_fitBy 24 = .ok (.bipush 9, 2) := by decide +kernel
theorem dX8_fitBy_26 : decode cX8_fitBy 26 = .ok (.if_icmp .gt 96, 3) := by decide +kernel
theorem dX8_fitBy_29 : decode cX8_fitBy 29 = .ok (.iconst 1, 1) := by decide +kernel
theorem dX8_fitBy_30 : decode cX8_fitBy 30 = .ok (.istore 7, 2) := by decide +kernel
theorem dX8_fitBy_32 : decode cX8_fitBy 32 = .ok (.iconst 0, 1) := by decide +kernel
theorem dX8_fitBy_33 : decode cX8_fitBy 33 = .ok (.istore 8, 2) := by decide +kernel
theorem dX8_fitBy_35 : decode cX8_fitBy 35 = .ok (.iload 8, 2) := by decide +kernel
theorem dX8_fitBy_37 : decode cX8_fitBy 37 = .ok (.iload 4, 2) := by decide +kernel
theorem dX8_fitBy_39 : decode cX8_fitBy 39 = .ok (.if_icmp .ge 59, 3) := by decide +kernel
theorem dX8_fitBy_42 : decode cX8_fitBy 42 = .ok (.iload 7, 2) := by decide +kernel
theorem dX8_fitBy_44 : decode cX8_fitBy 44 = .ok (.ifCond .eq 45, 3) := by decide +kernel
theorem dX8_fitBy_47 : decode cX8_fitBy 47 = .ok (.aload_n 0, 1) := by decide +kernel
theorem dX8_fitBy_48 : decode cX8_fitBy 48 = .ok (.iload_n 1, 1) := by decide +kernel
theorem dX8_fitBy_49 : decode cX8_fitBy 49 = .ok (.iload_n 2, 1) := by decide +kernel
theorem dX8_fitBy_50 : decode cX8_fitBy 50 = .ok (.iload 6, 2) := by decide +kernel
theorem dX8_fitBy_52 : decode cX8_fitBy 52 = .ok (.aload_n 0, 1) := by decide +kernel
theorem dX8_fitBy_53 : decode cX8_fitBy 53 = .ok (.getfield 16, 3) := by decide +kernel
theorem dX8_fitBy_56 : decode cX8_fitBy 56 = .ok (.iload_n 3, 1) := by decide +kernel
theorem dX8_fitBy_57 : decode cX8_fitBy 57 = .ok (.iconst 2, 1) := by decide +kernel
theorem dX8_fitBy_58 : decode cX8_fitBy 58 = .ok (.iload 8, 2) := by decide +kernel
theorem dX8_fitBy_60 : decode cX8_fitBy 60 = .ok (.imul, 1) := by decide +kernel
theorem dX8_fitBy_61 : decode cX8_fitBy 61 = .ok (.iadd, 1) := by decide +kernel
theorem dX8_fitBy_62 : decode cX8_fitBy 62 = .ok (.laload, 1) := by decide +kernel
theorem dX8_fitBy_63 : decode cX8_fitBy 63 = .ok (.l2i, 1) := by decide +kernel
theorem dX8_fitBy_64 : decode cX8_fitBy 64 = .ok (.invokevirtual 228, 3) := by decide +kernel
theorem dX8_fitBy_67 : decode cX8_fitBy 67 = .ok (.i2l, 1) := by decide +kernel
theorem dX8_fitBy_68 : decode cX8_fitBy 68 = .ok (.aload_n 0, 1) := by decide +kernel
theorem dX8_fitBy_69 : decode cX8_fitBy 69 = .ok (.getfield 16, 3) := by decide +kernel
theorem dX8_fitBy_72 : decode cX8_fitBy 72 = .ok (.iload_n 3, 1) := by decide +kernel
theorem dX8_fitBy_73 : decode cX8_fitBy 73 = .ok (.iconst 2, 1) := by decide +kernel
theorem dX8_fitBy_74 : decode cX8_fitBy 74 = .ok (.iload 8, 2) := by decide +kernel
theorem dX8_fitBy_76 : decode cX8_fitBy 76 = .ok (.imul, 1) := by decide +kernel
theorem dX8_fitBy_77 : decode cX8_fitBy 77 = .ok (.iadd, 1) := by decide +kernel
theorem dX8_fitBy_78 : decode cX8_fitBy 78 = .ok (.iconst 1, 1) := by decide +kernel
theorem dX8_fitBy_79 : decode cX8_fitBy 79 = .ok (.iadd, 1) := by decide +kernel
theorem dX8_fitBy_80 : decode cX8_fitBy 80 = .ok (.laload, 1) := by decide +kernel
theorem dX8_fitBy_81 : decode cX8_fitBy 81 = .ok (.lcmp, 1) := by decide +kernel
theorem dX8_fitBy_82 : decode cX8_fitBy 82 = .ok (.ifCond .ne 7, 3) := by decide +kernel
theorem dX8_fitBy_85 : decode cX8_fitBy 85 = .ok (.iconst 1, 1) := by decide +kernel
theorem dX8_fitBy_86 : decode cX8_fitBy 86 = .ok (.goto 4, 3) := by decide +kernel
theorem dX8_fitBy_89 : decode cX8_fitBy 89 = .ok (.iconst 0, 1) := by decide +kernel
theorem dX8_fitBy_90 : decode cX8_fitBy 90 = .ok (.istore 7, 2) := by decide +kernel
theorem dX8_fitBy_92 : decode cX8_fitBy 92 = .ok (.iinc 8 1, 3) := by decide +kernel
theorem dX8_fitBy_95 : decode cX8_fitBy 95 = .ok (.goto (-60), 3) := by decide +kernel
theorem dX8_fitBy_98 : decode cX8_fitBy 98 = .ok (.iload 5, 2) := by decide +kernel
theorem dX8_fitBy_100 : decode cX8_fitBy 100 = .ok (.iload 7, 2) := by decide +kernel
theorem dX8_fitBy_102 : decode cX8_fitBy 102 = .ok (.ifCond .eq 10, 3) := by decide +kernel
theorem dX8_fitBy_105 : decode cX8_fitBy 105 = .ok (.iconst 1, 1) := by decide +kernel
theorem dX8_fitBy_106 : decode cX8_fitBy 106 = .ok (.iload 6, 2) := by decide +kernel
theorem dX8_fitBy_108 : decode cX8_fitBy 108 = .ok (.ishl, 1) := by decide +kernel
theorem dX8_fitBy_109 : decode cX8_fitBy 109 = .ok (.goto 4, 3) := by decide +kernel
theorem dX8_fitBy_112 : decode cX8_fitBy 112 = .ok (.iconst 0, 1) := by decide +kernel
theorem dX8_fitBy_113 : decode cX8_fitBy 113 = .ok (.ior, 1) := by decide +kernel
theorem dX8_fitBy_114 : decode cX8_fitBy 114 = .ok (.istore 5, 2) := by decide +kernel
theorem dX8_fitBy_116 : decode cX8_fitBy 116 = .ok (.iinc 6 1, 3) := by decide +kernel
theorem dX8_fitBy_119 : decode cX8_fitBy 119 = .ok (.goto (-105), 3) := by decide +kernel
theorem dX8_fitBy_122 : decode cX8_fitBy 122 = .ok (.iload 5, 2) := by decide +kernel
theorem dX8_fitBy_124 : decode cX8_fitBy 124 = .ok (.ireturn, 1) := by decide +kernel
theorem dX8_bestMiles_0 : decode cX8_bestMiles 0 = .ok (.bipush (-4), 2) := by decide +kernel
theorem dX8_bestMiles_2 : decode cX8_bestMiles 2 = .ok (.istore 4, 2) := by decide +kernel
theorem dX8_bestMiles_4 : decode cX8_bestMiles 4 = .ok (.bipush 99, 2) := by decide +kernel
theorem dX8_bestMiles_6 : decode cX8_bestMiles 6 = .ok (.istore 5, 2) := by decide +kernel
theorem dX8_bestMiles_8 : decode cX8_bestMiles 8 = .ok (.iconst 0, 1) := by decide +kernel
theorem dX8_bestMiles_9 : decode cX8_bestMiles 9 = .ok (.istore 6, 2) := by decide +kernel
theorem dX8_bestMiles_11 : decode cX8_bestMiles 11 = .ok (.iload 6, 2) := by decide +kernel
theorem dX8_bestMiles_13 : decode cX8_bestMiles 13 = .ok (.bipush 9, 2) := by decide +kernel
theorem dX8_bestMiles_15 : decode cX8_bestMiles 15 = .ok (.if_icmp .gt 159, 3) := by decide +kernel
theorem dX8_bestMiles_18 : decode cX8_bestMiles 18 = .ok (.iload_n 3, 1) := by decide +kernel
theorem dX8_bestMiles_19 : decode cX8_bestMiles 19 = .ok (.ifCond .eq 155, 3) := by decide +kernel
theorem dX8_bestMiles_22 : decode cX8_bestMiles 22 = .ok (.iconst 0, 1) := by decide +kernel
theorem dX8_bestMiles_23 : decode cX8_bestMiles 23 = .ok (.istore 7, 2) := by decide +kernel
theorem dX8_bestMiles_25 : decode cX8_bestMiles 25 = .ok (.iconst 0, 1) := by decide +kernel
theorem dX8_bestMiles_26 : decode cX8_bestMiles 26 = .ok (.istore 8, 2) := by decide +kernel
theorem dX8_bestMiles_28 : decode cX8_bestMiles 28 = .ok (.iload 8, 2) := by decide +kernel
theorem dX8_bestMiles_30 : decode cX8_bestMiles 30 = .ok (.bipush 9, 2) := by decide +kernel
theorem dX8_bestMiles_32 : decode cX8_bestMiles 32 = .ok (.if_icmp .gt 104, 3) := by decide +kernel
theorem dX8_bestMiles_35 : decode cX8_bestMiles 35 = .ok (.aload_n 0, 1) := by decide +kernel
theorem dX8_bestMiles_36 : decode cX8_bestMiles 36 = .ok (.getfield 54, 3) := by decide +kernel
theorem dX8_bestMiles_39 : decode cX8_bestMiles 39 = .ok (.iload 8, 2) := by decide +kernel
theorem dX8_bestMiles_41 : decode cX8_bestMiles 41 = .ok (.iload_n 3, 1) := by decide +kernel
theorem dX8_bestMiles_42 : decode cX8_bestMiles 42 = .ok (.iload 8, 2) := by decide +kernel
theorem dX8_bestMiles_44 : decode cX8_bestMiles 44 = .ok (.invokestatic 156, 3) := by decide +kernel
theorem dX8_bestMiles_47 : decode cX8_bestMiles 47 = .ok (.ifCond .eq 16, 3) := by decide +kernel
theorem dX8_bestMiles_50 : decode cX8_bestMiles 50 = .ok (.aload_n 0, 1) := by decide +kernel
theorem dX8_bestMiles_51 : decode cX8_bestMiles 51 = .ok (.iload_n 1, 1) := by decide +kernel
theorem dX8_bestMiles_52 : decode cX8_bestMiles 52 = .ok (.iload_n 2, 1) := by decide +kernel
theorem dX8_bestMiles_53 : decode cX8_bestMiles 53 = .ok (.iload 8, 2) := by decide +kernel
theorem dX8_bestMiles_55 : decode cX8_bestMiles 55 = .ok (.iload 6, 2) := by decide +kernel
theorem dX8_bestMiles_57 : decode cX8_bestMiles 57 = .ok (.invokevirtual 228, 3) := by decide +kernel
theorem dX8_bestMiles_60 : decode cX8_bestMiles 60 = .ok (.goto 7, 3) := by decide +kernel
theorem dX8_bestMiles_63 : decode cX8_bestMiles 63 = .ok (.iconst (-1), 1) := by decide +kernel
theorem dX8_bestMiles_64 : decode cX8_bestMiles 64 = .ok (.iload 8, 2) := by decide +kernel
theorem dX8_bestMiles_66 : decode cX8_bestMiles 66 = .ok (.isub, 1) := by decide +kernel
theorem dX8_bestMiles_67 : decode cX8_bestMiles 67 = .ok (.iastore, 1) := by decide +kernel
theorem dX8_bestMiles_68 : decode cX8_bestMiles 68 = .ok (.iconst 0, 1) := by decide +kernel
theorem dX8_bestMiles_69 : decode cX8_bestMiles 69 = .ok (.istore 9, 2) := by decide +kernel
theorem dX8_bestMiles_71 : decode cX8_bestMiles 71 = .ok (.iconst 0, 1) := by decide +kernel
theorem dX8_bestMiles_72 : decode cX8_bestMiles 72 = .ok (.istore 10, 2) := by decide +kernel
theorem dX8_bestMiles_74 : decode cX8_bestMiles 74 = .ok (.iload 10, 2) := by decide +kernel
theorem dX8_bestMiles_76 : decode cX8_bestMiles 76 = .ok (.iload 8, 2) := by decide +kernel
theorem dX8_bestMiles_78 : decode cX8_bestMiles 78 = .ok (.if_icmp .gt 36, 3) := by decide +kernel
theorem dX8_bestMiles_81 : decode cX8_bestMiles 81 = .ok (.iload 9, 2) := by decide +kernel
theorem dX8_bestMiles_83 : decode cX8_bestMiles 83 = .ok (.aload_n 0, 1) := by decide +kernel
theorem dX8_bestMiles_84 : decode cX8_bestMiles 84 = .ok (.getfield 54, 3) := by decide +kernel
theorem dX8_bestMiles_87 : decode cX8_bestMiles 87 = .ok (.iload 10, 2) := by decide +kernel
theorem dX8_bestMiles_89 : decode cX8_bestMiles 89 = .ok (.iaload, 1) := by decide +kernel
theorem dX8_bestMiles_90 : decode cX8_bestMiles 90 = .ok (.aload_n 0, 1) := by decide +kernel
theorem dX8_bestMiles_91 : decode cX8_bestMiles 91 = .ok (.getfield 54, 3) := by decide +kernel
theorem dX8_bestMiles_94 : decode cX8_bestMiles 94 = .ok (.iload 8, 2) := by decide +kernel
theorem dX8_bestMiles_96 : decode cX8_bestMiles 96 = .ok (.iaload, 1) := by decide +kernel
theorem dX8_bestMiles_97 : decode cX8_bestMiles 97 = .ok (.if_icmp .ne 7, 3) := by decide +kernel
theorem dX8_bestMiles_100 : decode cX8_bestMiles 100 = .ok (.iconst 1, 1) := by decide +kernel
theorem dX8_bestMiles_101 : decode cX8_bestMiles 101 = .ok (.goto 4, 3) := by decide +kernel
theorem dX8_bestMiles_104 : decode cX8_bestMiles 104 = .ok (.iconst 0, 1) := by decide +kernel
theorem dX8_bestMiles_105 : decode cX8_bestMiles 105 = .ok (.iadd, 1) := by decide +kernel
theorem dX8_bestMiles_106 : decode cX8_bestMiles 106 = .ok (.istore 9, 2) := by decide +kernel
theorem dX8_bestMiles_108 : decode cX8_bestMiles 108 = .ok (.iinc 10 1, 3) := by decide +kernel
theorem dX8_bestMiles_111 : decode cX8_bestMiles 111 = .ok (.goto (-37), 3) := by decide +kernel
theorem dX8_bestMiles_114 : decode cX8_bestMiles 114 = .ok (.iload 9, 2) := by decide +kernel
theorem dX8_bestMiles_116 : decode cX8_bestMiles 116 = .ok (.iload 7, 2) := by decide +kernel
theorem dX8_bestMiles_118 : decode cX8_bestMiles 118 = .ok (.if_icmp .le 8, 3) := by decide +kernel
theorem dX8_bestMiles_121 : decode cX8_bestMiles 121 = .ok (.iload 9, 2) := by decide +kernel
theorem dX8_bestMiles_123 : decode cX8_bestMiles 123 = .ok (.goto 5, 3) := by decide +kernel
theorem dX8_bestMiles_126 : decode cX8_bestMiles 126 = .ok (.iload 7, 2) := by decide +kernel
theorem dX8_bestMiles_128 : decode cX8_bestMiles 128 = .ok (.istore 7, 2) := by decide +kernel
theorem dX8_bestMiles_130 : decode cX8_bestMiles 130 = .ok (.iinc 8 1, 3) := by decide +kernel
theorem dX8_bestMiles_133 : decode cX8_bestMiles 133 = .ok (.goto (-105), 3) := by decide +kernel
theorem dX8_bestMiles_136 : decode cX8_bestMiles 136 = .ok (.iload 7, 2) := by decide +kernel
theorem dX8_bestMiles_138 : decode cX8_bestMiles 138 = .ok (.iload 5, 2) := by decide +kernel
theorem dX8_bestMiles_140 : decode cX8_bestMiles 140 = .ok (.if_icmp .ge 8, 3) := by decide +kernel
theorem dX8_bestMiles_143 : decode cX8_bestMiles 143 = .ok (.iload 6, 2) := by decide +kernel
theorem dX8_bestMiles_145 : decode cX8_bestMiles 145 = .ok (.goto 5, 3) := by decide +kernel
theorem dX8_bestMiles_148 : decode cX8_bestMiles 148 = .ok (.iload 4, 2) := by decide +kernel
theorem dX8_bestMiles_150 : decode cX8_bestMiles 150 = .ok (.istore 4, 2) := by decide +kernel
theorem dX8_bestMiles_152 : decode cX8_bestMiles 152 = .ok (.iload 7, 2) := by decide +kernel
theorem dX8_bestMiles_154 : decode cX8_bestMiles 154 = .ok (.iload 5, 2) := by decide +kernel
theorem dX8_bestMiles_156 : decode cX8_bestMiles 156 = .ok (.if_icmp .ge 8, 3) := by decide +kernel
theorem dX8_bestMiles_159 : decode cX8_bestMiles 159 = .ok (.iload 7, 2) := by decide +kernel
theorem dX8_bestMiles_161 : decode cX8_bestMiles 161 = .ok (.goto 5, 3) := by decide +kernel
theorem dX8_bestMiles_164 : decode cX8_bestMiles 164 = .ok (.iload 5, 2) := by decide +kernel
theorem dX8_bestMiles_166 : decode cX8_bestMiles 166 = .ok (.istore 5, 2) := by decide +kernel
theorem dX8_bestMiles_168 : decode cX8_bestMiles 168 = .ok (.iinc 6 1, 3) := by decide +kernel
theorem dX8_bestMiles_171 : decode cX8_bestMiles 171 = .ok (.goto (-160), 3) := by decide +kernel
theorem dX8_bestMiles_174 : decode cX8_bestMiles 174 = .ok (.iload 4, 2) := by decide +kernel
theorem dX8_bestMiles_176 : decode cX8_bestMiles 176 = .ok (.ireturn, 1) := by decide +kernel
theorem dX8_foundBy_0 : decode cX8_foundBy 0 = .ok (.iconst 0, 1) := by decide +kernel
theorem dX8_foundBy_1 : decode cX8_foundBy 1 = .ok (.istore 6, 2) := by decide +kernel
theorem dX8_foundBy_3 : decode cX8_foundBy 3 = .ok (.iload 6, 2) := by decide +kernel
theorem dX8_foundBy_5 : decode cX8_foundBy 5 = .ok (.iload 4, 2) := by decide +kernel
theorem dX8_foundBy_7 : decode cX8_foundBy 7 = .ok (.if_icmp .ge 46, 3) := by decide +kernel
theorem dX8_foundBy_10 : decode cX8_foundBy 10 = .ok (.aload_n 0, 1) := by decide +kernel
theorem dX8_foundBy_11 : decode cX8_foundBy 11 = .ok (.getfield 16, 3) := by decide +kernel
theorem dX8_foundBy_14 : decode cX8_foundBy 14 = .ok (.iload_n 3, 1) := by decide +kernel
theorem dX8_foundBy_15 : decode cX8_foundBy 15 = .ok (.iconst 2, 1) := by decide +kernel
theorem dX8_foundBy_16 : decode cX8_foundBy 16 = .ok (.iload 6, 2) := by decide +kernel
theorem dX8_foundBy_18 : decode cX8_foundBy 18 = .ok (.imul, 1) := by decide +kernel
theorem dX8_foundBy_19 : decode cX8_foundBy 19 = .ok (.iadd, 1) := by decide +kernel
theorem dX8_foundBy_20 : decode cX8_foundBy 20 = .ok (.laload, 1) := by decide +kernel
theorem dX8_foundBy_21 : decode cX8_foundBy 21 = .ok (.lconst 0, 1) := by decide +kernel
theorem dX8_foundBy_22 : decode cX8_foundBy 22 = .ok (.lcmp, 1) := by decide +kernel
theorem dX8_foundBy_23 : decode cX8_foundBy 23 = .ok (.ifCond .lt 21, 3) := by decide +kernel
theorem dX8_foundBy_26 : decode cX8_foundBy 26 = .ok (.aload_n 0, 1) := by decide +kernel
theorem dX8_foundBy_27 : decode cX8_foundBy 27 = .ok (.getfield 16, 3) := by decide +kernel
theorem dX8_foundBy_30 : decode cX8_foundBy 30 = .ok (.iload_n 3, 1) := by decide +kernel
theorem dX8_foundBy_31 : decode cX8_foundBy 31 = .ok (.iconst 2, 1) := by decide +kernel
theorem dX8_foundBy_32 : decode cX8_foundBy 32 = .ok (.iload 6, 2) := by decide +kernel
theorem dX8_foundBy_34 : decode cX8_foundBy 34 = .ok (.imul, 1) := by decide +kernel
theorem dX8_foundBy_35 : decode cX8_foundBy 35 = .ok (.iadd, 1) := by decide +kernel
theorem dX8_foundBy_36 : decode cX8_foundBy 36 = .ok (.laload, 1) := by decide +kernel
theorem dX8_foundBy_37 : decode cX8_foundBy 37 = .ok (.ldc2_w 232, 3) := by decide +kernel
theorem dX8_foundBy_40 : decode cX8_foundBy 40 = .ok (.lcmp, 1) := by decide +kernel
theorem dX8_foundBy_41 : decode cX8_foundBy 41 = .ok (.ifCond .le 6, 3) := by decide +kernel
theorem dX8_foundBy_44 : decode cX8_foundBy 44 = .ok (.bipush (-2), 2) := by decide +kernel
theorem dX8_foundBy_46 : decode cX8_foundBy 46 = .ok (.ireturn, 1) := by decide +kernel
theorem dX8_foundBy_47 : decode cX8_foundBy 47 = .ok (.iinc 6 1, 3) := by decide +kernel
theorem dX8_foundBy_50 : decode cX8_foundBy 50 = .ok (.goto (-47), 3) := by decide +kernel
theorem dX8_foundBy_53 : decode cX8_foundBy 53 = .ok (.aload_n 0, 1) := by decide +kernel
theorem dX8_foundBy_54 : decode cX8_foundBy 54 = .ok (.iload_n 1, 1) := by decide +kernel
theorem dX8_foundBy_55 : decode cX8_foundBy 55 = .ok (.iload_n 2, 1) := by decide +kernel
theorem dX8_foundBy_56 : decode cX8_foundBy 56 = .ok (.iload_n 3, 1) := by decide +kernel
theorem dX8_foundBy_57 : decode cX8_foundBy 57 = .ok (.iload 4, 2) := by decide +kernel
theorem dX8_foundBy_59 : decode cX8_foundBy 59 = .ok (.invokevirtual 234, 3) := by decide +kernel
theorem dX8_foundBy_62 : decode cX8_foundBy 62 = .ok (.istore 6, 2) := by decide +kernel
theorem dX8_foundBy_64 : decode cX8_foundBy 64 = .ok (.iload 5, 2) := by decide +kernel
theorem dX8_foundBy_66 : decode cX8_foundBy 66 = .ok (.ifCond .ne 8, 3) := by decide +kernel
theorem dX8_foundBy_69 : decode cX8_foundBy 69 = .ok (.iload 6, 2) := by decide +kernel
theorem dX8_foundBy_71 : decode cX8_foundBy 71 = .ok (.goto 11, 3) := by decide +kernel
theorem dX8_foundBy_74 : decode cX8_foundBy 74 = .ok (.aload_n 0, 1) := by decide +kernel
theorem dX8_foundBy_75 : decode cX8_foundBy 75 = .ok (.iload_n 1, 1) := by decide +kernel
theorem dX8_foundBy_76 : decode cX8_foundBy 76 = .ok (.iload_n 2, 1) := by decide +kernel
theorem dX8_foundBy_77 : decode cX8_foundBy 77 = .ok (.iload 6, 2) := by decide +kernel
theorem dX8_foundBy_79 : decode cX8_foundBy 79 = .ok (.invokevirtual 237, 3) := by decide +kernel
theorem dX8_foundBy_82 : decode cX8_foundBy 82 = .ok (.ireturn, 1) := by decide +kernel
theorem dX8_partsBy_0 : decode cX8_partsBy 0 = .ok (.aload_n 0, 1) := by decide +kernel
theorem dX8_partsBy_1 : decode cX8_partsBy 1 = .ok (.iload_n 1, 1) := by decide +kernel
theorem dX8_partsBy_2 : decode cX8_partsBy 2 = .ok (.invokevirtual 105, 3) := by decide +kernel
theorem dX8_partsBy_5 : decode cX8_partsBy 5 = .ok (.ifCond .eq 41, 3) := by decide +kernel
theorem dX8_partsBy_8 : decode cX8_partsBy 8 = .ok (.iload_n 3, 1) := by decide +kernel
theorem dX8_partsBy_9 : decode cX8_partsBy 9 = .ok (.invokestatic 216, 3) := by decide +kernel
theorem dX8_partsBy_12 : decode cX8_partsBy 12 = .ok (.ifCond .eq 34, 3) := by decide +kernel
theorem dX8_partsBy_15 : decode cX8_partsBy 15 = .ok (.iload 4, 2) := by decide +kernel
theorem dX8_partsBy_17 : decode cX8_partsBy 17 = .ok (.iconst 0, 1) := by decide +kernel
theorem dX8_partsBy_18 : decode cX8_partsBy 18 = .ok (.iconst 3, 1) := by decide +kernel
theorem dX8_partsBy_19 : decode cX8_partsBy 19 = .ok (.invokestatic 57, 3) := by decide +kernel
theorem dX8_partsBy_22 : decode cX8_partsBy 22 = .ok (.ifCond .eq 24, 3) := by decide +kernel
theorem dX8_partsBy_25 : decode cX8_partsBy 25 = .ok (.iload 6, 2) := by decide +kernel
theorem dX8_partsBy_27 : decode cX8_partsBy 27 = .ok (.iconst 1, 1) := by decide +kernel
theorem dX8_partsBy_28 : decode cX8_partsBy 28 = .ok (.bipush 10, 2) := by decide +kernel
theorem dX8_partsBy_30 : decode cX8_partsBy 30 = .ok (.invokestatic 57, 3) := by decide +kernel
theorem dX8_partsBy_33 : decode cX8_partsBy 33 = .ok (.ifCond .eq 13, 3) := by decide +kernel
theorem dX8_partsBy_36 : decode cX8_partsBy 36 = .ok (.iload 7, 2) := by decide +kernel
theorem dX8_partsBy_38 : decode cX8_partsBy 38 = .ok (.iconst 0, 1) := by decide +kernel
theorem dX8_partsBy_39 : decode cX8_partsBy 39 = .ok (.iconst 1, 1) := by decide +kernel
theorem dX8_partsBy_40 : decode cX8_partsBy 40 = .ok (.invokestatic 57, 3) := by decide +kernel
theorem dX8_partsBy_43 : decode cX8_partsBy 43 = .ok (.ifCond .ne 5, 3) := by decide +kernel
theorem dX8_partsBy_46 : decode cX8_partsBy 46 = .ok (.iconst (-1), 1) := by decide +kernel
theorem dX8_partsBy_47 : decode cX8_partsBy 47 = .ok (.ireturn, 1) := by decide +kernel
theorem dX8_partsBy_48 : decode cX8_partsBy 48 = .ok (.aload_n 0, 1) := by decide +kernel
theorem dX8_partsBy_49 : decode cX8_partsBy 49 = .ok (.iload_n 3, 1) := by decide +kernel
theorem dX8_partsBy_50 : decode cX8_partsBy 50 = .ok (.iload 4, 2) := by decide +kernel
theorem dX8_partsBy_52 : decode cX8_partsBy 52 = .ok (.iload 5, 2) := by decide +kernel
theorem dX8_partsBy_54 : decode cX8_partsBy 54 = .ok (.iconst 2, 1) := by decide +kernel
theorem dX8_partsBy_55 : decode cX8_partsBy 55 = .ok (.iload 6, 2) := by decide +kernel
theorem dX8_partsBy_57 : decode cX8_partsBy 57 = .ok (.imul, 1) := by decide +kernel
theorem dX8_partsBy_58 : decode cX8_partsBy 58 = .ok (.invokevirtual 221, 3) := by decide +kernel
theorem dX8_partsBy_61 : decode cX8_partsBy 61 = .ok (.istore 8, 2) := by decide +kernel
theorem dX8_partsBy_63 : decode cX8_partsBy 63 = .ok (.iload 8, 2) := by decide +kernel
theorem dX8_partsBy_65 : decode cX8_partsBy 65 = .ok (.ifCond .eq 8, 3) := by decide +kernel
theorem dX8_partsBy_68 : decode cX8_partsBy 68 = .ok (.iload 8, 2) := by decide +kernel
theorem dX8_partsBy_70 : decode cX8_partsBy 70 = .ok (.goto 20, 3) := by decide +kernel
theorem dX8_partsBy_73 : decode cX8_partsBy 73 = .ok (.aload_n 0, 1) := by decide +kernel
theorem dX8_partsBy_74 : decode cX8_partsBy 74 = .ok (.iload_n 1, 1) := by decide +kernel
theorem dX8_partsBy_75 : decode cX8_partsBy 75 = .ok (.iload_n 2, 1) := by decide +kernel
theorem dX8_partsBy_76 : decode cX8_partsBy 76 = .ok (.bipush 24, 2) := by decide +kernel
theorem dX8_partsBy_78 : decode cX8_partsBy 78 = .ok (.iload_n 3, 1) := by decide +kernel
theorem dX8_partsBy_79 : decode cX8_partsBy 79 = .ok (.imul, 1) := by decide +kernel
theorem dX8_partsBy_80 : decode cX8_partsBy 80 = .ok (.iload 5, 2) := by decide +kernel
theorem dX8_partsBy_82 : decode cX8_partsBy 82 = .ok (.iadd, 1) := by decide +kernel
theorem dX8_partsBy_83 : decode cX8_partsBy 83 = .ok (.iload 6, 2) := by decide +kernel
theorem dX8_partsBy_85 : decode cX8_partsBy 85 = .ok (.iload 7, 2) := by decide +kernel
theorem dX8_partsBy_87 : decode cX8_partsBy 87 = .ok (.invokevirtual 241, 3) := by decide +kernel
theorem dX8_partsBy_90 : decode cX8_partsBy 90 = .ok (.ireturn, 1) := by decide +kernel
theorem dX8_skills_0 : decode cX8_skills 0 = .ok (.aload_n 0, 1) := by decide +kernel
theorem dX8_skills_1 : decode cX8_skills 1 = .ok (.iload_n 1, 1) := by decide +kernel
theorem dX8_skills_2 : decode cX8_skills 2 = .ok (.iconst 0, 1) := by decide +kernel
theorem dX8_skills_3 : decode cX8_skills 3 = .ok (.iload_n 2, 1) := by decide +kernel
theorem dX8_skills_4 : decode cX8_skills 4 = .ok (.iload_n 3, 1) := by decide +kernel
theorem dX8_skills_5 : decode cX8_skills 5 = .ok (.iload 4, 2) := by decide +kernel
theorem dX8_skills_7 : decode cX8_skills 7 = .ok (.iload 5, 2) := by decide +kernel
theorem dX8_skills_9 : decode cX8_skills 9 = .ok (.iload 6, 2) := by decide +kernel
theorem dX8_skills_11 : decode cX8_skills 11 = .ok (.invokevirtual 245, 3) := by decide +kernel
theorem dX8_skills_14 : decode cX8_skills 14 = .ok (.ireturn, 1) := by decide +kernel
theorem dX8_kinds_0 : decode cX8_kinds 0 = .ok (.aload_n 0, 1) := by decide +kernel
theorem dX8_kinds_1 : decode cX8_kinds 1 = .ok (.iload_n 1, 1) := by decide +kernel
theorem dX8_kinds_2 : decode cX8_kinds 2 = .ok (.iconst 1, 1) := by decide +kernel
theorem dX8_kinds_3 : decode cX8_kinds 3 = .ok (.iload_n 2, 1) := by decide +kernel
theorem dX8_kinds_4 : decode cX8_kinds 4 = .ok (.iload_n 3, 1) := by decide +kernel
theorem dX8_kinds_5 : decode cX8_kinds 5 = .ok (.iload 4, 2) := by decide +kernel
theorem dX8_kinds_7 : decode cX8_kinds 7 = .ok (.iload 5, 2) := by decide +kernel
theorem dX8_kinds_9 : decode cX8_kinds 9 = .ok (.iload 6, 2) := by decide +kernel
theorem dX8_kinds_11 : decode cX8_kinds 11 = .ok (.invokevirtual 245, 3) := by decide +kernel
theorem dX8_kinds_14 : decode cX8_kinds 14 = .ok (.ireturn, 1) := by decide +kernel
theorem dX8_count_0 : decode cX8_count 0 = .ok (.iconst 0, 1) := by decide +kernel
theorem dX8_count_1 : decode cX8_count 1 = .ok (.istore_n 2, 1) := by decide +kernel
theorem dX8_count_2 : decode cX8_count 2 = .ok (.iload_n 1, 1) := by decide +kernel
theorem dX8_count_3 : decode cX8_count 3 = .ok (.tableswitch 214 0 8 #[49, 56, 63, 107, 114, 146, 154, 204, 209], 49) := by decide +kernel
theorem dX8_count_52 : decode cX8_count 52 = .ok (.aload_n 0, 1) := by decide +kernel
theorem dX8_count_53 : decode cX8_count 53 = .ok (.getfield 23, 3) := by decide +kernel
theorem dX8_count_56 : decode cX8_count 56 = .ok (.iconst 1, 1) := by decide +kernel
theorem dX8_count_57 : decode cX8_count 57 = .ok (.iaload, 1) := by decide +kernel
theorem dX8_count_58 : decode cX8_count 58 = .ok (.ireturn, 1) := by decide +kernel
theorem dX8_count_59 : decode cX8_count 59 = .ok (.aload_n 0, 1) := by decide +kernel
theorem dX8_count_60 : decode cX8_count 60 = .ok (.getfield 23, 3) := by decide +kernel
theorem dX8_count_63 : decode cX8_count 63 = .ok (.iconst 2, 1) := by decide +kernel
theorem dX8_count_64 : decode cX8_count 64 = .ok (.iaload, 1) := by decide +kernel
theorem dX8_count_65 : decode cX8_count 65 = .ok (.ireturn, 1) := by decide +kernel
theorem dX8_count_66 : decode cX8_count 66 = .ok (.iconst 0, 1) := by decide +kernel
theorem dX8_count_67 : decode cX8_count 67 = .ok (.istore_n 3, 1) := by decide +kernel
theorem dX8_count_68 : decode cX8_count 68 = .ok (.iload_n 3, 1) := by decide +kernel
theorem dX8_count_69 : decode cX8_count 69 = .ok (.aload_n 0, 1) := by decide +kernel
theorem dX8_count_70 : decode cX8_count 70 = .ok (.getfield 23, 3) := by decide +kernel
theorem dX8_count_73 : decode cX8_count 73 = .ok (.iconst 2, 1) := by decide +kernel
theorem dX8_count_74 : decode cX8_count 74 = .ok (.iaload, 1) := by decide +kernel
theorem dX8_count_75 : decode cX8_count 75 = .ok (.if_icmp .ge 33, 3) := by decide +kernel
theorem dX8_count_78 : decode cX8_count 78 = .ok (.iload_n 2, 1) := by decide +kernel
theorem dX8_count_79 : decode cX8_count 79 = .ok (.aload_n 0, 1) := by decide +kernel
theorem dX8_count_80 : decode cX8_count 80 = .ok (.getfield 23, 3) := by decide +kernel
theorem dX8_count_83 : decode cX8_count 83 = .ok (.bipush 75, 2) := by decide +kernel
theorem dX8_count_85 : decode cX8_count 85 = .ok (.iload_n 3, 1) := by decide +kernel
theorem dX8_count_86 : decode cX8_count 86 = .ok (.iadd, 1) := by decide +kernel
theorem dX8_count_87 : decode cX8_count 87 = .ok (.iaload, 1) := by decide +kernel
theorem dX8_count_88 : decode cX8_count 88 = .ok (.bipush (-4), 2) := by decide +kernel
theorem dX8_count_90 : decode cX8_count 90 = .ok (.if_icmp .ne 9, 3) := by decide +kernel
theorem dX8_count_93 : decode cX8_count 93 = .ok (.iconst 1, 1) := by decide +kernel
theorem dX8_count_94 : decode cX8_count 94 = .ok (.iload_n 3, 1) := by decide +kernel
theorem dX8_count_95 : decode cX8_count 95 = .ok (.ishl, 1) := by decide +kernel
theorem dX8_count_96 : decode cX8_count 96 = .ok (.goto 4, 3) := by decide +kernel
theorem dX8_count_99 : decode cX8_count 99 = .ok (.iconst 0, 1) := by decide +kernel
theorem dX8_count_100 : decode cX8_count 100 = .ok (.ior, 1) := by decide +kernel
theorem dX8_count_101 : decode cX8_count 101 = .ok (.istore_n 2, 1) := by decide +kernel
theorem dX8_count_102 : decode cX8_count 102 = .ok (.iinc 3 1, 3) := by decide +kernel
theorem dX8_count_105 : decode cX8_count 105 = .ok (.goto (-37), 3) := by decide +kernel
theorem dX8_count_108 : decode cX8_count 108 = .ok (.iload_n 2, 1) := by decide +kernel
theorem dX8_count_109 : decode cX8_count 109 = .ok (.ireturn, 1) := by decide +kernel
theorem dX8_count_110 : decode cX8_count 110 = .ok (.aload_n 0, 1) := by decide +kernel
theorem dX8_count_111 : decode cX8_count 111 = .ok (.getfield 23, 3) := by decide +kernel
theorem dX8_count_114 : decode cX8_count 114 = .ok (.iconst 0, 1) := by decide +kernel
theorem dX8_count_115 : decode cX8_count 115 = .ok (.iaload, 1) := by decide +kernel
theorem dX8_count_116 : decode cX8_count 116 = .ok (.ireturn, 1) := by decide +kernel
theorem dX8_count_117 : decode cX8_count 117 = .ok (.iconst 0, 1) := by decide +kernel
theorem dX8_count_118 : decode cX8_count 118 = .ok (.istore_n 3, 1) := by decide +kernel
theorem dX8_count_119 : decode cX8_count 119 = .ok (.iload_n 3, 1) := by decide +kernel
theorem dX8_count_120 : decode cX8_count 120 = .ok (.aload_n 0, 1) := by decide +kernel
theorem dX8_count_121 : decode cX8_count 121 = .ok (.getfield 23, 3) := by decide +kernel
theorem dX8_count_124 : decode cX8_count 124 = .ok (.iconst 1, 1) := by decide +kernel
theorem dX8_count_125 : decode cX8_count 125 = .ok (.iaload, 1) := by decide +kernel
theorem dX8_count_126 : decode cX8_count 126 = .ok (.if_icmp .ge 21, 3) := by decide +kernel
theorem dX8_count_129 : decode cX8_count 129 = .ok (.iload_n 2, 1) := by decide +kernel
theorem dX8_count_130 : decode cX8_count 130 = .ok (.aload_n 0, 1) := by decide +kernel
theorem dX8_count_131 : decode cX8_count 131 = .ok (.getfield 23, 3) := by decide +kernel
theorem dX8_count_134 : decode cX8_count 134 = .ok (.bipush 39, 2) := by decide +kernel
theorem dX8_count_136 : decode cX8_count 136 = .ok (.iload_n 3, 1) := by decide +kernel
theorem dX8_count_137 : decode cX8_count 137 = .ok (.iadd, 1) := by decide +kernel
theorem dX8_count_138 : decode cX8_count 138 = .ok (.iaload, 1) := by decide +kernel
theorem dX8_count_139 : decode cX8_count 139 = .ok (.iadd, 1) := by decide +kernel
theorem dX8_count_140 : decode cX8_count 140 = .ok (.istore_n 2, 1) := by decide +kernel
theorem dX8_count_141 : decode cX8_count 141 = .ok (.iinc 3 1, 3) := by decide +kernel
theorem dX8_count_144 : decode cX8_count 144 = .ok (.goto (-25), 3) := by decide +kernel
theorem dX8_count_147 : decode cX8_count 147 = .ok (.iload_n 2, 1) := by decide +kernel
theorem dX8_count_148 : decode cX8_count 148 = .ok (.ireturn, 1) := by decide +kernel
theorem dX8_count_149 : decode cX8_count 149 = .ok (.aload_n 0, 1) := by decide +kernel
theorem dX8_count_150 : decode cX8_count 150 = .ok (.getfield 23, 3) := by decide +kernel
theorem dX8_count_153 : decode cX8_count 153 = .ok (.invokestatic 210, 3) := by decide +kernel
theorem dX8_count_156 : decode cX8_count 156 = .ok (.ireturn, 1) := by decide +kernel
theorem dX8_count_157 : decode cX8_count 157 = .ok (.iconst 0, 1) := by decide +kernel
theorem dX8_count_158 : decode cX8_count 158 = .ok (.istore_n 3, 1) := by decide +kernel
theorem dX8_count_159 : decode cX8_count 159 = .ok (.iload_n 3, 1) := by decide +kernel
theorem dX8_count_160 : decode cX8_count 160 = .ok (.aload_n 0, 1) := by decide +kernel
theorem dX8_count_161 : decode cX8_count 161 = .ok (.getfield 23, 3) := by decide +kernel
theorem dX8_count_164 : decode cX8_count 164 = .ok (.iconst 2, 1) := by decide +kernel
theorem dX8_count_165 : decode cX8_count 165 = .ok (.iaload, 1) := by decide +kernel
theorem dX8_count_166 : decode cX8_count 166 = .ok (.if_icmp .ge 39, 3) := by decide +kernel
theorem dX8_count_169 : decode cX8_count 169 = .ok (.iload_n 2, 1) := by decide +kernel
theorem dX8_count_170 : decode cX8_count 170 = .ok (.aload_n 0, 1) := by decide +kernel
theorem dX8_count_171 : decode cX8_count 171 = .ok (.getfield 23, 3) := by decide +kernel
theorem dX8_count_174 : decode cX8_count 174 = .ok (.bipush 75, 2) := by decide +kernel
theorem dX8_count_176 : decode cX8_count 176 = .ok (.iload_n 3, 1) := by decide +kernel
theorem dX8_count_177 : decode cX8_count 177 = .ok (.iadd, 1) := by decide +kernel
theorem dX8_count_178 : decode cX8_count 178 = .ok (.iaload, 1) := by decide +kernel
theorem dX8_count_179 : decode cX8_count 179 = .ok (.bipush (-4), 2) := by decide +kernel
theorem dX8_count_181 : decode cX8_count 181 = .ok (.if_icmp .ne 15, 3) := by decide +kernel
theorem dX8_count_184 : decode cX8_count 184 = .ok (.aload_n 0, 1) := by decide +kernel
theorem dX8_count_185 : decode cX8_count 185 = .ok (.getfield 23, 3) := by decide +kernel
theorem dX8_count_188 : decode cX8_count 188 = .ok (.bipush 67, 2) := by decide +kernel
theorem dX8_count_190 : decode cX8_count 190 = .ok (.iload_n 3, 1) := by decide +kernel
theorem dX8_count_191 : decode cX8_count 191 = .ok (.iadd, 1) := by decide +kernel
theorem dX8_count_192 : decode cX8_count 192 = .ok (.iaload, 1) := by decide +kernel
theorem dX8_count_193 : decode cX8_count 193 = .ok (.goto 4, 3) := by decide +kernel
theorem dX8_count_196 : decode cX8_count 196 = .ok (.iconst 0, 1) := by decide +kernel
theorem dX8_count_197 : decode cX8_count 197 = .ok (.iadd, 1) := by decide +kernel
theorem dX8_count_198 : decode cX8_count 198 = .ok (.istore_n 2, 1) := by decide +kernel
theorem dX8_count_199 : decode cX8_count 199 = .ok (.iinc 3 1, 3) := by decide +kernel
theorem dX8_count_202 : decode cX8_count 202 = .ok (.goto (-43), 3) := by decide +kernel
theorem dX8_count_205 : decode cX8_count 205 = .ok (.iload_n 2, 1) := by decide +kernel
theorem dX8_count_206 : decode cX8_count 206 = .ok (.ireturn, 1) := by decide +kernel
theorem dX8_count_207 : decode cX8_count 207 = .ok (.aload_n 0, 1) := by decide +kernel
theorem dX8_count_208 : decode cX8_count 208 = .ok (.getfield 102, 3) := by decide +kernel
theorem dX8_count_211 : decode cX8_count 211 = .ok (.ireturn, 1) := by decide +kernel
theorem dX8_count_212 : decode cX8_count 212 = .ok (.aload_n 0, 1) := by decide +kernel
theorem dX8_count_213 : decode cX8_count 213 = .ok (.getfield 61, 3) := by decide +kernel
theorem dX8_count_216 : decode cX8_count 216 = .ok (.ireturn, 1) := by decide +kernel
theorem dX8_count_217 : decode cX8_count 217 = .ok (.iconst (-1), 1) := by decide +kernel
theorem dX8_count_218 : decode cX8_count 218 = .ok (.ireturn, 1) := by decide +kernel

theorem dX7_init_0 : decode cX7_init 0 = .ok (.aload_n 0, 1) := by decide +kernel
theorem dX7_init_1 : decode cX7_init 1 = .ok (.invokespecial 1, 3) := by decide +kernel
theorem dX7_init_4 : decode cX7_init 4 = .ok (.aload_n 0, 1) := by decide +kernel
theorem dX7_init_5 : decode cX7_init 5 = .ok (.new 7, 3) := by decide +kernel
theorem dX7_init_8 : decode cX7_init 8 = .ok (.dup, 1) := by decide +kernel
theorem dX7_init_9 : decode cX7_init 9 = .ok (.invokespecial 9, 3) := by decide +kernel
theorem dX7_init_12 : decode cX7_init 12 = .ok (.putfield 10, 3) := by decide +kernel
theorem dX7_init_15 : decode cX7_init 15 = .ok (.aload_n 0, 1) := by decide +kernel
theorem dX7_init_16 : decode cX7_init 16 = .ok (.new 16, 3) := by decide +kernel
theorem dX7_init_19 : decode cX7_init 19 = .ok (.dup, 1) := by decide +kernel
theorem dX7_init_20 : decode cX7_init 20 = .ok (.invokespecial 18, 3) := by decide +kernel
theorem dX7_init_23 : decode cX7_init 23 = .ok (.putfield 19, 3) := by decide +kernel
theorem dX7_init_26 : decode cX7_init 26 = .ok (.aload_n 0, 1) := by decide +kernel
theorem dX7_init_27 : decode cX7_init 27 = .ok (.new 16, 3) := by decide +kernel
theorem dX7_init_30 : decode cX7_init 30 = .ok (.dup, 1) := by decide +kernel
theorem dX7_init_31 : decode cX7_init 31 = .ok (.invokespecial 18, 3) := by decide +kernel
theorem dX7_init_34 : decode cX7_init 34 = .ok (.putfield 23, 3) := by decide +kernel
theorem dX7_init_37 : decode cX7_init 37 = .ok (.aload_n 0, 1) := by decide +kernel
theorem dX7_init_38 : decode cX7_init 38 = .ok (.new 26, 3) := by decide +kernel
theorem dX7_init_41 : decode cX7_init 41 = .ok (.dup, 1) := by decide +kernel
theorem dX7_init_42 : decode cX7_init 42 = .ok (.invokespecial 28, 3) := by decide +kernel
theorem dX7_init_45 : decode cX7_init 45 = .ok (.putfield 29, 3) := by decide +kernel
theorem dX7_init_48 : decode cX7_init 48 = .ok (.aload_n 0, 1) := by decide +kernel
theorem dX7_init_49 : decode cX7_init 49 = .ok (.iconst 2, 1) := by decide +kernel
theorem dX7_init_50 : decode cX7_init 50 = .ok (.anewarray 16, 3) := by decide +kernel
theorem dX7_init_53 : decode cX7_init 53 = .ok (.dup, 1) := by decide +kernel
theorem dX7_init_54 : decode cX7_init 54 = .ok (.iconst 0, 1) := by decide +kernel
theorem dX7_init_55 : decode cX7_init 55 = .ok (.new 16, 3) := by decide +kernel
theorem dX7_init_58 : decode cX7_init 58 = .ok (.dup, 1) := by decide +kernel
theorem dX7_init_59 : decode cX7_init 59 = .ok (.invokespecial 18, 3) := by decide +kernel
theorem dX7_init_62 : decode cX7_init 62 = .ok (.aastore, 1) := by decide +kernel
theorem dX7_init_63 : decode cX7_init 63 = .ok (.dup, 1) := by decide +kernel
theorem dX7_init_64 : decode cX7_init 64 = .ok (.iconst 1, 1) := by decide +kernel
theorem dX7_init_65 : decode cX7_init 65 = .ok (.new 16, 3) := by decide +kernel
theorem dX7_init_68 : decode cX7_init 68 = .ok (.dup, 1) := by decide +kernel
theorem dX7_init_69 : decode cX7_init 69 = .ok (.invokespecial 18, 3) := by decide +kernel
theorem dX7_init_72 : decode cX7_init 72 = .ok (.aastore, 1) := by decide +kernel
theorem dX7_init_73 : decode cX7_init 73 = .ok (.putfield 33, 3) := by decide +kernel
theorem dX7_init_76 : decode cX7_init 76 = .ok (.aload_n 0, 1) := by decide +kernel
theorem dX7_init_77 : decode cX7_init 77 = .ok (.iconst 4, 1) := by decide +kernel
theorem dX7_init_78 : decode cX7_init 78 = .ok (.anewarray 37, 3) := by decide +kernel
theorem dX7_init_81 : decode cX7_init 81 = .ok (.dup, 1) := by decide +kernel
theorem dX7_init_82 : decode cX7_init 82 = .ok (.iconst 0, 1) := by decide +kernel
theorem dX7_init_83 : decode cX7_init 83 = .ok (.new 37, 3) := by decide +kernel
theorem dX7_init_86 : decode cX7_init 86 = .ok (.dup, 1) := by decide +kernel
theorem dX7_init_87 : decode cX7_init 87 = .ok (.invokespecial 39, 3) := by decide +kernel
theorem dX7_init_90 : decode cX7_init 90 = .ok (.aastore, 1) := by decide +kernel
theorem dX7_init_91 : decode cX7_init 91 = .ok (.dup, 1) := by decide +kernel
theorem dX7_init_92 : decode cX7_init 92 = .ok (.iconst 1, 1) := by decide +kernel
theorem dX7_init_93 : decode cX7_init 93 = .ok (.new 37, 3) := by decide +kernel
theorem dX7_init_96 : decode cX7_init 96 = .ok (.dup, 1) := by decide +kernel
theorem dX7_init_97 : decode cX7_init 97 = .ok (.invokespecial 39, 3) := by decide +kernel
theorem dX7_init_100 : decode cX7_init 100 = .ok (.aastore, 1) := by decide +kernel
theorem dX7_init_101 : decode cX7_init 101 = .ok (.dup, 1) := by decide +kernel
theorem dX7_init_102 : decode cX7_init 102 = .ok (.iconst 2, 1) := by decide +kernel
theorem dX7_init_103 : decode cX7_init 103 = .ok (.new 37, 3) := by decide +kernel
theorem dX7_init_106 : decode cX7_init 106 = .ok (.dup, 1) := by decide +kernel
theorem dX7_init_107 : decode cX7_init 107 = .ok (.invokespecial 39, 3) := by decide +kernel
theorem dX7_init_110 : decode cX7_init 110 = .ok (.aastore, 1) := by decide +kernel
theorem dX7_init_111 : decode cX7_init 111 = .ok (.dup, 1) := by decide +kernel
theorem dX7_init_112 : decode cX7_init 112 = .ok (.iconst 3, 1) := by decide +kernel
theorem dX7_init_113 : decode cX7_init 113 = .ok (.new 37, 3) := by decide +kernel
theorem dX7_init_116 : decode cX7_init 116 = .ok (.dup, 1) := by decide +kernel
theorem dX7_init_117 : decode cX7_init 117 = .ok (.invokespecial 39, 3) := by decide +kernel
theorem dX7_init_120 : decode cX7_init 120 = .ok (.aastore, 1) := by decide +kernel
theorem dX7_init_121 : decode cX7_init 121 = .ok (.putfield 40, 3) := by decide +kernel
theorem dX7_init_124 : decode cX7_init 124 = .ok (.aload_n 0, 1) := by decide +kernel
theorem dX7_init_125 : decode cX7_init 125 = .ok (.new 44, 3) := by decide +kernel
theorem dX7_init_128 : decode cX7_init 128 = .ok (.dup, 1) := by decide +kernel
theorem dX7_init_129 : decode cX7_init 129 = .ok (.invokespecial 46, 3) := by decide +kernel
theorem dX7_init_132 : decode cX7_init 132 = .ok (.putfield 47, 3) := by decide +kernel
theorem dX7_init_135 : decode cX7_init 135 = .ok (.aload_n 0, 1) := by decide +kernel
theorem dX7_init_136 : decode cX7_init 136 = .ok (.new 51, 3) := by decide +kernel
theorem dX7_init_139 : decode cX7_init 139 = .ok (.dup, 1) := by decide +kernel
theorem dX7_init_140 : decode cX7_init 140 = .ok (.invokespecial 53, 3) := by decide +kernel
theorem dX7_init_143 : decode cX7_init 143 = .ok (.putfield 54, 3) := by decide +kernel
theorem dX7_init_146 : decode cX7_init 146 = .ok (.aload_n 0, 1) := by decide +kernel
theorem dX7_init_147 : decode cX7_init 147 = .ok (.new 58, 3) := by decide +kernel
theorem dX7_init_150 : decode cX7_init 150 = .ok (.dup, 1) := by decide +kernel
theorem dX7_init_151 : decode cX7_init 151 = .ok (.invokespecial 60, 3) := by decide +kernel
theorem dX7_init_154 : decode cX7_init 154 = .ok (.putfield 61, 3) := by decide +kernel
theorem dX7_init_157 : decode cX7_init 157 = .ok (.return_, 1) := by decide +kernel
theorem dX7_feed_0 : decode cX7_feed 0 = .ok (.iload_n 1, 1) := by decide +kernel
theorem dX7_feed_1 : decode cX7_feed 1 = .ok (.ifCond .lt 10, 3) := by decide +kernel
theorem dX7_feed_4 : decode cX7_feed 4 = .ok (.iload_n 1, 1) := by decide +kernel
theorem dX7_feed_5 : decode cX7_feed 5 = .ok (.sipush 255, 3) := by decide +kernel
theorem dX7_feed_8 : decode cX7_feed 8 = .ok (.if_icmp .le 5, 3) := by decide +kernel
theorem dX7_feed_11 : decode cX7_feed 11 = .ok (.iconst (-1), 1) := by decide +kernel
theorem dX7_feed_12 : decode cX7_feed 12 = .ok (.ireturn, 1) := by decide +kernel
theorem dX7_feed_13 : decode cX7_feed 13 = .ok (.aload_n 0, 1) := by decide +kernel
theorem dX7_feed_14 : decode cX7_feed 14 = .ok (.getfield 10, 3) := by decide +kernel
theorem dX7_feed_17 : decode cX7_feed 17 = .ok (.iload_n 1, 1) := by decide +kernel
theorem dX7_feed_18 : decode cX7_feed 18 = .ok (.invokevirtual 65, 3) := by decide +kernel
theorem dX7_feed_21 : decode cX7_feed 21 = .ok (.ifCond .eq 13, 3) := by decide +kernel
theorem dX7_feed_24 : decode cX7_feed 24 = .ok (.aload_n 0, 1) := by decide +kernel
theorem dX7_feed_25 : decode cX7_feed 25 = .ok (.getfield 10, 3) := by decide +kernel
theorem dX7_feed_28 : decode cX7_feed 28 = .ok (.invokevirtual 69, 3) := by decide +kernel
theorem dX7_feed_31 : decode cX7_feed 31 = .ok (.goto 5, 3) := by decide +kernel
theorem dX7_feed_34 : decode cX7_feed 34 = .ok (.bipush (-3), 2) := by decide +kernel
theorem dX7_feed_36 : decode cX7_feed 36 = .ok (.ireturn, 1) := by decide +kernel
theorem dX7_coast_0 : decode cX7_coast 0 = .ok (.aload_n 0, 1) := by decide +kernel
theorem dX7_coast_1 : decode cX7_coast 1 = .ok (.getfield 10, 3) := by decide +kernel
theorem dX7_coast_4 : decode cX7_coast 4 = .ok (.aload_n 0, 1) := by decide +kernel
theorem dX7_coast_5 : decode cX7_coast 5 = .ok (.getfield 23, 3) := by decide +kernel
theorem dX7_coast_8 : decode cX7_coast 8 = .ok (.invokevirtual 73, 3) := by decide +kernel
theorem dX7_coast_11 : decode cX7_coast 11 = .ok (.istore_n 1, 1) := by decide +kernel
theorem dX7_coast_12 : decode cX7_coast 12 = .ok (.aload_n 0, 1) := by decide +kernel
theorem dX7_coast_13 : decode cX7_coast 13 = .ok (.getfield 10, 3) := by decide +kernel
theorem dX7_coast_16 : decode cX7_coast 16 = .ok (.invokevirtual 77, 3) := by decide +kernel
theorem dX7_coast_19 : decode cX7_coast 19 = .ok (.iload_n 1, 1) := by decide +kernel
theorem dX7_coast_20 : decode cX7_coast 20 = .ok (.iconst (-1), 1) := by decide +kernel
theorem dX7_coast_21 : decode cX7_coast 21 = .ok (.if_icmp .eq 8, 3) := by decide +kernel
theorem dX7_coast_24 : decode cX7_coast 24 = .ok (.bipush (-100), 2) := by decide +kernel
theorem dX7_coast_26 : decode cX7_coast 26 = .ok (.iload_n 1, 1) := by decide +kernel
theorem dX7_coast_27 : decode cX7_coast 27 = .ok (.isub, 1) := by decide +kernel
theorem dX7_coast_28 : decode cX7_coast 28 = .ok (.ireturn, 1) := by decide +kernel
theorem dX7_coast_29 : decode cX7_coast 29 = .ok (.aload_n 0, 1) := by decide +kernel
theorem dX7_coast_30 : decode cX7_coast 30 = .ok (.getfield 19, 3) := by decide +kernel
theorem dX7_coast_33 : decode cX7_coast 33 = .ok (.aload_n 0, 1) := by decide +kernel
theorem dX7_coast_34 : decode cX7_coast 34 = .ok (.getfield 23, 3) := by decide +kernel
theorem dX7_coast_37 : decode cX7_coast 37 = .ok (.invokevirtual 80, 3) := by decide +kernel
theorem dX7_coast_40 : decode cX7_coast 40 = .ok (.aload_n 0, 1) := by decide +kernel
theorem dX7_coast_41 : decode cX7_coast 41 = .ok (.getfield 29, 3) := by decide +kernel
theorem dX7_coast_44 : decode cX7_coast 44 = .ok (.invokevirtual 84, 3) := by decide +kernel
theorem dX7_coast_47 : decode cX7_coast 47 = .ok (.aload_n 0, 1) := by decide +kernel
theorem dX7_coast_48 : decode cX7_coast 48 = .ok (.getfield 19, 3) := by decide +kernel
theorem dX7_coast_51 : decode cX7_coast 51 = .ok (.invokevirtual 87, 3) := by decide +kernel
theorem dX7_coast_54 : decode cX7_coast 54 = .ok (.ireturn, 1) := by decide +kernel
theorem dX7_person_0 : decode cX7_person 0 = .ok (.aload_n 0, 1) := by decide +kernel
theorem dX7_person_1 : decode cX7_person 1 = .ok (.getfield 19, 3) := by decide +kernel
theorem dX7_person_4 : decode cX7_person 4 = .ok (.iload_n 1, 1) := by decide +kernel
theorem dX7_person_5 : decode cX7_person 5 = .ok (.invokevirtual 90, 3) := by decide +kernel
theorem dX7_person_8 : decode cX7_person 8 = .ok (.ifCond .eq 13, 3) := by decide +kernel
theorem dX7_person_11 : decode cX7_person 11 = .ok (.iload_n 2, 1) := by decide +kernel
theorem dX7_person_12 : decode cX7_person 12 = .ok (.ifCond .lt 9, 3) := by decide +kernel
theorem dX7_person_15 : decode cX7_person 15 = .ok (.iload_n 2, 1) := by decide +kernel
theorem dX7_person_16 : decode cX7_person 16 = .ok (.bipush 8, 2) := by decide +kernel
theorem dX7_person_18 : decode cX7_person 18 = .ok (.if_icmp .lt 5, 3) := by decide +kernel
theorem dX7_person_21 : decode cX7_person 21 = .ok (.iconst (-1), 1) := by decide +kernel
theorem dX7_person_22 : decode cX7_person 22 = .ok (.ireturn, 1) := by decide +kernel
theorem dX7_person_23 : decode cX7_person 23 = .ok (.aload_n 0, 1) := by decide +kernel
theorem dX7_person_24 : decode cX7_person 24 = .ok (.getfield 19, 3) := by decide +kernel
theorem dX7_person_27 : decode cX7_person 27 = .ok (.iload_n 1, 1) := by decide +kernel
theorem dX7_person_28 : decode cX7_person 28 = .ok (.iload_n 2, 1) := by decide +kernel
theorem dX7_person_29 : decode cX7_person 29 = .ok (.invokevirtual 93, 3) := by decide +kernel
theorem dX7_person_32 : decode cX7_person 32 = .ok (.ireturn, 1) := by decide +kernel
theorem dX7_as_0 : decode cX7_as 0 = .ok (.aload_n 0, 1) := by decide +kernel
theorem dX7_as_1 : decode cX7_as 1 = .ok (.getfield 19, 3) := by decide +kernel
theorem dX7_as_4 : decode cX7_as 4 = .ok (.iload_n 1, 1) := by decide +kernel
theorem dX7_as_5 : decode cX7_as 5 = .ok (.invokevirtual 90, 3) := by decide +kernel
theorem dX7_as_8 : decode cX7_as 8 = .ok (.ifCond .eq 15, 3) := by decide +kernel
theorem dX7_as_11 : decode cX7_as 11 = .ok (.iload_n 2, 1) := by decide +kernel
theorem dX7_as_12 : decode cX7_as 12 = .ok (.ifCond .lt 11, 3) := by decide +kernel
theorem dX7_as_15 : decode cX7_as 15 = .ok (.iload_n 2, 1) := by decide +kernel
theorem dX7_as_16 : decode cX7_as 16 = .ok (.getstatic 97, 3) := by decide +kernel
theorem dX7_as_19 : decode cX7_as 19 = .ok (.arraylength, 1) := by decide +kernel
theorem dX7_as_20 : decode cX7_as 20 = .ok (.if_icmp .lt 5, 3) := by decide +kernel
theorem dX7_as_23 : decode cX7_as 23 = .ok (.iconst (-1), 1) := by decide +kernel
theorem dX7_as_24 : decode cX7_as 24 = .ok (.ireturn, 1) := by decide +kernel
theorem dX7_as_25 : decode cX7_as 25 = .ok (.aload_n 0, 1) := by decide +kernel
theorem dX7_as_26 : decode cX7_as 26 = .ok (.getfield 19, 3) := by decide +kernel
theorem dX7_as_29 : decode cX7_as 29 = .ok (.iload_n 1, 1) := by decide +kernel
theorem dX7_as_30 : decode cX7_as 30 = .ok (.iconst 0, 1) := by decide +kernel
theorem dX7_as_31 : decode cX7_as 31 = .ok (.invokevirtual 93, 3) := by decide +kernel
theorem dX7_as_34 : decode cX7_as 34 = .ok (.iload_n 2, 1) := by decide +kernel
theorem dX7_as_35 : decode cX7_as 35 = .ok (.invokestatic 101, 3) := by decide +kernel
theorem dX7_as_38 : decode cX7_as 38 = .ok (.ifCond .eq 7, 3) := by decide +kernel
theorem dX7_as_41 : decode cX7_as 41 = .ok (.iload_n 1, 1) := by decide +kernel
theorem dX7_as_42 : decode cX7_as 42 = .ok (.goto 5, 3) := by decide +kernel
theorem dX7_as_45 : decode cX7_as 45 = .ok (.bipush (-12), 2) := by decide +kernel
theorem dX7_as_47 : decode cX7_as 47 = .ok (.ireturn, 1) := by decide +kernel
theorem dX7_wrong_0 : decode cX7_wrong 0 = .ok (.aload_n 0, 1) := by decide +kernel
theorem dX7_wrong_1 : decode cX7_wrong 1 = .ok (.getfield 19, 3) := by decide +kernel
theorem dX7_wrong_4 : decode cX7_wrong 4 = .ok (.iload_n 1, 1) := by decide +kernel
theorem dX7_wrong_5 : decode cX7_wrong 5 = .ok (.invokevirtual 105, 3) := by decide +kernel
theorem dX7_wrong_8 : decode cX7_wrong 8 = .ok (.ifCond .eq 12, 3) := by decide +kernel
theorem dX7_wrong_11 : decode cX7_wrong 11 = .ok (.iload_n 2, 1) := by decide +kernel
theorem dX7_wrong_12 : decode cX7_wrong 12 = .ok (.ifCond .lt 8, 3) := by decide +kernel
theorem dX7_wrong_15 : decode cX7_wrong 15 = .ok (.iload_n 2, 1) := by decide +kernel
theorem dX7_wrong_16 : decode cX7_wrong 16 = .ok (.iconst 4, 1) := by decide +kernel
theorem dX7_wrong_17 : decode cX7_wrong 17 = .ok (.if_icmp .le 5, 3) := by decide +kernel
theorem dX7_wrong_20 : decode cX7_wrong 20 = .ok (.iconst (-1), 1) := by decide +kernel
theorem dX7_wrong_21 : decode cX7_wrong 21 = .ok (.ireturn, 1) := by decide +kernel
theorem dX7_wrong_22 : decode cX7_wrong 22 = .ok (.iload_n 2, 1) := by decide +kernel
theorem dX7_wrong_23 : decode cX7_wrong 23 = .ok (.iconst 4, 1) := by decide +kernel
theorem dX7_wrong_24 : decode cX7_wrong 24 = .ok (.if_icmp .ne 14, 3) := by decide +kernel
theorem dX7_wrong_27 : decode cX7_wrong 27 = .ok (.aload_n 0, 1) := by decide +kernel
theorem dX7_wrong_28 : decode cX7_wrong 28 = .ok (.getfield 19, 3) := by decide +kernel
theorem dX7_wrong_31 : decode cX7_wrong 31 = .ok (.iload_n 1, 1) := by decide +kernel
theorem dX7_wrong_32 : decode cX7_wrong 32 = .ok (.invokevirtual 108, 3) := by decide +kernel
theorem dX7_wrong_35 : decode cX7_wrong 35 = .ok (.goto 12, 3) := by decide +kernel
theorem dX7_wrong_38 : decode cX7_wrong 38 = .ok (.aload_n 0, 1) := by decide +kernel
theorem dX7_wrong_39 : decode cX7_wrong 39 = .ok (.getfield 19, 3) := by decide +kernel
theorem dX7_wrong_42 : decode cX7_wrong 42 = .ok (.iload_n 1, 1) := by decide +kernel
theorem dX7_wrong_43 : decode cX7_wrong 43 = .ok (.iload_n 2, 1) := by decide +kernel
theorem dX7_wrong_44 : decode cX7_wrong 44 = .ok (.invokevirtual 112, 3) := by decide +kernel
theorem dX7_wrong_47 : decode cX7_wrong 47 = .ok (.ireturn, 1) := by decide +kernel
theorem dX7_carry_0 : decode cX7_carry 0 = .ok (.aload_n 0, 1) := by decide +kernel
theorem dX7_carry_1 : decode cX7_carry 1 = .ok (.iload_n 1, 1) := by decide +kernel
theorem dX7_carry_2 : decode cX7_carry 2 = .ok (.iload_n 2, 1) := by decide +kernel
theorem dX7_carry_3 : decode cX7_carry 3 = .ok (.invokevirtual 115, 3) := by decide +kernel
theorem dX7_carry_6 : decode cX7_carry 6 = .ok (.istore_n 3, 1) := by decide +kernel
theorem dX7_carry_7 : decode cX7_carry 7 = .ok (.iload_n 3, 1) := by decide +kernel
theorem dX7_carry_8 : decode cX7_carry 8 = .ok (.ifCond .eq 5, 3) := by decide +kernel
theorem dX7_carry_11 : decode cX7_carry 11 = .ok (.iload_n 3, 1) := by decide +kernel
theorem dX7_carry_12 : decode cX7_carry 12 = .ok (.ireturn, 1) := by decide +kernel
theorem dX7_carry_13 : decode cX7_carry 13 = .ok (.aload_n 0, 1) := by decide +kernel
theorem dX7_carry_14 : decode cX7_carry 14 = .ok (.getfield 19, 3) := by decide +kernel
theorem dX7_carry_17 : decode cX7_carry 17 = .ok (.invokevirtual 118, 3) := by decide +kernel
theorem dX7_carry_20 : decode cX7_carry 20 = .ok (.sipush 9999, 3) := by decide +kernel
theorem dX7_carry_23 : decode cX7_carry 23 = .ok (.if_icmp .lt 6, 3) := by decide +kernel
theorem dX7_carry_26 : decode cX7_carry 26 = .ok (.bipush (-3), 2) := by decide +kernel
theorem dX7_carry_28 : decode cX7_carry 28 = .ok (.ireturn, 1) := by decide +kernel
theorem dX7_carry_29 : decode cX7_carry 29 = .ok (.aload_n 0, 1) := by decide +kernel
theorem dX7_carry_30 : decode cX7_carry 30 = .ok (.getfield 29, 3) := by decide +kernel
theorem dX7_carry_33 : decode cX7_carry 33 = .ok (.aload_n 0, 1) := by decide +kernel
theorem dX7_carry_34 : decode cX7_carry 34 = .ok (.getfield 19, 3) := by decide +kernel
theorem dX7_carry_37 : decode cX7_carry 37 = .ok (.invokevirtual 121, 3) := by decide +kernel
theorem dX7_carry_40 : decode cX7_carry 40 = .ok (.aload_n 0, 1) := by decide +kernel
theorem dX7_carry_41 : decode cX7_carry 41 = .ok (.getfield 19, 3) := by decide +kernel
theorem dX7_carry_44 : decode cX7_carry 44 = .ok (.iload_n 1, 1) := by decide +kernel
theorem dX7_carry_45 : decode cX7_carry 45 = .ok (.iload_n 2, 1) := by decide +kernel
theorem dX7_carry_46 : decode cX7_carry 46 = .ok (.invokevirtual 124, 3) := by decide +kernel
theorem dX7_carry_49 : decode cX7_carry 49 = .ok (.ireturn, 1) := by decide +kernel
theorem dX7_lend_0 : decode cX7_lend 0 = .ok (.aload_n 0, 1) := by decide +kernel
theorem dX7_lend_1 : decode cX7_lend 1 = .ok (.getfield 19, 3) := by decide +kernel
theorem dX7_lend_4 : decode cX7_lend 4 = .ok (.iload_n 1, 1) := by decide +kernel
theorem dX7_lend_5 : decode cX7_lend 5 = .ok (.invokevirtual 90, 3) := by decide +kernel
theorem dX7_lend_8 : decode cX7_lend 8 = .ok (.ifCond .eq 19, 3) := by decide +kernel
theorem dX7_lend_11 : decode cX7_lend 11 = .ok (.aload_n 0, 1) := by decide +kernel
theorem dX7_lend_12 : decode cX7_lend 12 = .ok (.getfield 19, 3) := by decide +kernel
theorem dX7_lend_15 : decode cX7_lend 15 = .ok (.iload_n 2, 1) := by decide +kernel
theorem dX7_lend_16 : decode cX7_lend 16 = .ok (.invokevirtual 90, 3) := by decide +kernel
theorem dX7_lend_19 : decode cX7_lend 19 = .ok (.ifCond .eq 8, 3) := by decide +kernel
theorem dX7_lend_22 : decode cX7_lend 22 = .ok (.iload_n 1, 1) := by decide +kernel
theorem dX7_lend_23 : decode cX7_lend 23 = .ok (.iload_n 2, 1) := by decide +kernel
theorem dX7_lend_24 : decode cX7_lend 24 = .ok (.if_icmp .ne 5, 3) := by decide +kernel
theorem dX7_lend_27 : decode cX7_lend 27 = .ok (.iconst (-1), 1) := by decide +kernel
theorem dX7_lend_28 : decode cX7_lend 28 = .ok (.ireturn, 1) := by decide +kernel
theorem dX7_lend_29 : decode cX7_lend 29 = .ok (.aload_n 0, 1) := by decide +kernel
theorem dX7_lend_30 : decode cX7_lend 30 = .ok (.iload_n 1, 1) := by decide +kernel
theorem dX7_lend_31 : decode cX7_lend 31 = .ok (.iconst 5, 1) := by decide +kernel
theorem dX7_lend_32 : decode cX7_lend 32 = .ok (.iload_n 2, 1) := by decide +kernel
theorem dX7_lend_33 : decode cX7_lend 33 = .ok (.invokevirtual 127, 3) := by decide +kernel
theorem dX7_lend_36 : decode cX7_lend 36 = .ok (.ireturn, 1) := by decide +kernel
theorem dX7_sin_0 : decode cX7_sin 0 = .ok (.aload_n 0, 1) := by decide +kernel
theorem dX7_sin_1 : decode cX7_sin 1 = .ok (.getfield 19, 3) := by decide +kernel
theorem dX7_sin_4 : decode cX7_sin 4 = .ok (.iload_n 1, 1) := by decide +kernel
theorem dX7_sin_5 : decode cX7_sin 5 = .ok (.invokevirtual 90, 3) := by decide +kernel
theorem dX7_sin_8 : decode cX7_sin 8 = .ok (.ifCond .eq 30, 3) := by decide +kernel
theorem dX7_sin_11 : decode cX7_sin 11 = .ok (.aload_n 0, 1) := by decide +kernel
theorem dX7_sin_12 : decode cX7_sin 12 = .ok (.getfield 19, 3) := by decide +kernel
theorem dX7_sin_15 : decode cX7_sin 15 = .ok (.iload_n 2, 1) := by decide +kernel
theorem dX7_sin_16 : decode cX7_sin 16 = .ok (.invokevirtual 90, 3) := by decide +kernel
theorem dX7_sin_19 : decode cX7_sin 19 = .ok (.ifCond .eq 19, 3) := by decide +kernel
theorem dX7_sin_22 : decode cX7_sin 22 = .ok (.iload_n 1, 1) := by decide +kernel
theorem dX7_sin_23 : decode cX7_sin 23 = .ok (.iload_n 2, 1) := by decide +kernel
theorem dX7_sin_24 : decode cX7_sin 24 = .ok (.if_icmp .eq 14, 3) := by decide +kernel
theorem dX7_sin_27 : decode cX7_sin 27 = .ok (.iload_n 3, 1) := by decide +kernel
theorem dX7_sin_28 : decode cX7_sin 28 = .ok (.iconst 1, 1) := by decide +kernel
theorem dX7_sin_29 : decode cX7_sin 29 = .ok (.if_icmp .lt 9, 3) := by decide +kernel
theorem dX7_sin_32 : decode cX7_sin 32 = .ok (.iload_n 3, 1) := by decide +kernel
theorem dX7_sin_33 : decode cX7_sin 33 = .ok (.bipush 9, 2) := by decide +kernel
theorem dX7_sin_35 : decode cX7_sin 35 = .ok (.if_icmp .le 5, 3) := by decide +kernel
theorem dX7_sin_38 : decode cX7_sin 38 = .ok (.iconst (-1), 1) := by decide +kernel
theorem dX7_sin_39 : decode cX7_sin 39 = .ok (.ireturn, 1) := by decide +kernel
theorem dX7_sin_40 : decode cX7_sin 40 = .ok (.aload_n 0, 1) := by decide +kernel
theorem dX7_sin_41 : decode cX7_sin 41 = .ok (.getfield 19, 3) := by decide +kernel
theorem dX7_sin_44 : decode cX7_sin 44 = .ok (.invokevirtual 87, 3) := by decide +kernel
theorem dX7_sin_47 : decode cX7_sin 47 = .ok (.bipush 8, 2) := by decide +kernel
theorem dX7_sin_49 : decode cX7_sin 49 = .ok (.if_icmp .lt 6, 3) := by decide +kernel
theorem dX7_sin_52 : decode cX7_sin 52 = .ok (.bipush (-3), 2) := by decide +kernel
theorem dX7_sin_54 : decode cX7_sin 54 = .ok (.ireturn, 1) := by decide +kernel
theorem dX7_sin_55 : decode cX7_sin 55 = .ok (.aload_n 0, 1) := by decide +kernel
theorem dX7_sin_56 : decode cX7_sin 56 = .ok (.getfield 29, 3) := by decide +kernel
theorem dX7_sin_59 : decode cX7_sin 59 = .ok (.aload_n 0, 1) := by decide +kernel
theorem dX7_sin_60 : decode cX7_sin 60 = .ok (.getfield 19, 3) := by decide +kernel
theorem dX7_sin_63 : decode cX7_sin 63 = .ok (.invokevirtual 121, 3) := by decide +kernel
theorem dX7_sin_66 : decode cX7_sin 66 = .ok (.aload_n 0, 1) := by decide +kernel
theorem dX7_sin_67 : decode cX7_sin 67 = .ok (.getfield 19, 3) := by decide +kernel
theorem dX7_sin_70 : decode cX7_sin 70 = .ok (.iload_n 1, 1) := by decide +kernel
theorem dX7_sin_71 : decode cX7_sin 71 = .ok (.iload_n 2, 1) := by decide +kernel
theorem dX7_sin_72 : decode cX7_sin 72 = .ok (.iload_n 3, 1) := by decide +kernel
theorem dX7_sin_73 : decode cX7_sin 73 = .ok (.invokevirtual 131, 3) := by decide +kernel
theorem dX7_sin_76 : decode cX7_sin 76 = .ok (.aload_n 0, 1) := by decide +kernel
theorem dX7_sin_77 : decode cX7_sin 77 = .ok (.getfield 19, 3) := by decide +kernel
theorem dX7_sin_80 : decode cX7_sin 80 = .ok (.invokevirtual 87, 3) := by decide +kernel
theorem dX7_sin_83 : decode cX7_sin 83 = .ok (.iconst 1, 1) := by decide +kernel
theorem dX7_sin_84 : decode cX7_sin 84 = .ok (.isub, 1) := by decide +kernel
theorem dX7_sin_85 : decode cX7_sin 85 = .ok (.ireturn, 1) := by decide +kernel
theorem dX7_harden_0 : decode cX7_harden 0 = .ok (.aload_n 0, 1) := by decide +kernel
theorem dX7_harden_1 : decode cX7_harden 1 = .ok (.getfield 19, 3) := by decide +kernel
theorem dX7_harden_4 : decode cX7_harden 4 = .ok (.iload_n 1, 1) := by decide +kernel
theorem dX7_harden_5 : decode cX7_harden 5 = .ok (.invokevirtual 90, 3) := by decide +kernel
theorem dX7_harden_8 : decode cX7_harden 8 = .ok (.ifCond .eq 13, 3) := by decide +kernel
theorem dX7_harden_11 : decode cX7_harden 11 = .ok (.iload_n 2, 1) := by decide +kernel
theorem dX7_harden_12 : decode cX7_harden 12 = .ok (.ifCond .lt 9, 3) := by decide +kernel
theorem dX7_harden_15 : decode cX7_harden 15 = .ok (.iload_n 2, 1) := by decide +kernel
theorem dX7_harden_16 : decode cX7_harden 16 = .ok (.bipush 9, 2) := by decide +kernel
theorem dX7_harden_18 : decode cX7_harden 18 = .ok (.if_icmp .le 5, 3) := by decide +kernel
theorem dX7_harden_21 : decode cX7_harden 21 = .ok (.iconst (-1), 1) := by decide +kernel
theorem dX7_harden_22 : decode cX7_harden 22 = .ok (.ireturn, 1) := by decide +kernel
theorem dX7_harden_23 : decode cX7_harden 23 = .ok (.aload_n 0, 1) := by decide +kernel
theorem dX7_harden_24 : decode cX7_harden 24 = .ok (.iload_n 1, 1) := by decide +kernel
theorem dX7_harden_25 : decode cX7_harden 25 = .ok (.iconst 2, 1) := by decide +kernel
theorem dX7_harden_26 : decode cX7_harden 26 = .ok (.iload_n 2, 1) := by decide +kernel
theorem dX7_harden_27 : decode cX7_harden 27 = .ok (.invokevirtual 127, 3) := by decide +kernel
theorem dX7_harden_30 : decode cX7_harden 30 = .ok (.ireturn, 1) := by decide +kernel
theorem dX7_pass_0 : decode cX7_pass 0 = .ok (.aload_n 0, 1) := by decide +kernel
theorem dX7_pass_1 : decode cX7_pass 1 = .ok (.getfield 19, 3) := by decide +kernel
theorem dX7_pass_4 : decode cX7_pass 4 = .ok (.invokevirtual 135, 3) := by decide +kernel
theorem dX7_pass_7 : decode cX7_pass 7 = .ok (.ifCond .ne 6, 3) := by decide +kernel
theorem dX7_pass_10 : decode cX7_pass 10 = .ok (.bipush (-2), 2) := by decide +kernel
theorem dX7_pass_12 : decode cX7_pass 12 = .ok (.ireturn, 1) := by decide +kernel
theorem dX7_pass_13 : decode cX7_pass 13 = .ok (.aload_n 0, 1) := by decide +kernel
theorem dX7_pass_14 : decode cX7_pass 14 = .ok (.getfield 19, 3) := by decide +kernel
theorem dX7_pass_17 : decode cX7_pass 17 = .ok (.invokevirtual 118, 3) := by decide +kernel
theorem dX7_pass_20 : decode cX7_pass 20 = .ok (.sipush 9999, 3) := by decide +kernel
theorem dX7_pass_23 : decode cX7_pass 23 = .ok (.if_icmp .lt 6, 3) := by decide +kernel
theorem dX7_pass_26 : decode cX7_pass 26 = .ok (.bipush (-3), 2) := by decide +kernel
theorem dX7_pass_28 : decode cX7_pass 28 = .ok (.ireturn, 1) := by decide +kernel
theorem dX7_pass_29 : decode cX7_pass 29 = .ok (.aload_n 0, 1) := by decide +kernel
theorem dX7_pass_30 : decode cX7_pass 30 = .ok (.getfield 29, 3) := by decide +kernel
theorem dX7_pass_33 : decode cX7_pass 33 = .ok (.aload_n 0, 1) := by decide +kernel
theorem dX7_pass_34 : decode cX7_pass 34 = .ok (.getfield 19, 3) := by decide +kernel
theorem dX7_pass_37 : decode cX7_pass 37 = .ok (.invokevirtual 121, 3) := by decide +kernel
theorem dX7_pass_40 : decode cX7_pass 40 = .ok (.aload_n 0, 1) := by decide +kernel
theorem dX7_pass_41 : decode cX7_pass 41 = .ok (.getfield 19, 3) := by decide +kernel
theorem dX7_pass_44 : decode cX7_pass 44 = .ok (.invokevirtual 139, 3) := by decide +kernel
theorem dX7_pass_47 : decode cX7_pass 47 = .ok (.aload_n 0, 1) := by decide +kernel
theorem dX7_pass_48 : decode cX7_pass 48 = .ok (.getfield 19, 3) := by decide +kernel
theorem dX7_pass_51 : decode cX7_pass 51 = .ok (.invokevirtual 118, 3) := by decide +kernel
theorem dX7_pass_54 : decode cX7_pass 54 = .ok (.ireturn, 1) := by decide +kernel
theorem dX7_undo_0 : decode cX7_undo 0 = .ok (.aload_n 0, 1) := by decide +kernel
theorem dX7_undo_1 : decode cX7_undo 1 = .ok (.getfield 29, 3) := by decide +kernel
theorem dX7_undo_4 : decode cX7_undo 4 = .ok (.aload_n 0, 1) := by decide +kernel
theorem dX7_undo_5 : decode cX7_undo 5 = .ok (.getfield 19, 3) := by decide +kernel
theorem dX7_undo_8 : decode cX7_undo 8 = .ok (.invokevirtual 142, 3) := by decide +kernel
theorem dX7_undo_11 : decode cX7_undo 11 = .ok (.ifCond .eq 13, 3) := by decide +kernel
theorem dX7_undo_14 : decode cX7_undo 14 = .ok (.aload_n 0, 1) := by decide +kernel
theorem dX7_undo_15 : decode cX7_undo 15 = .ok (.getfield 29, 3) := by decide +kernel
theorem dX7_undo_18 : decode cX7_undo 18 = .ok (.invokevirtual 146, 3) := by decide +kernel
theorem dX7_undo_21 : decode cX7_undo 21 = .ok (.goto 5, 3) := by decide +kernel
theorem dX7_undo_24 : decode cX7_undo 24 = .ok (.bipush (-4), 2) := by decide +kernel
theorem dX7_undo_26 : decode cX7_undo 26 = .ok (.ireturn, 1) := by decide +kernel
theorem dX7_image_0 : decode cX7_image 0 = .ok (.aload_n 0, 1) := by decide +kernel
theorem dX7_image_1 : decode cX7_image 1 = .ok (.iload_n 1, 1) := by decide +kernel
theorem dX7_image_2 : decode cX7_image 2 = .ok (.invokevirtual 149, 3) := by decide +kernel
theorem dX7_image_5 : decode cX7_image 5 = .ok (.astore_n 2, 1) := by decide +kernel
theorem dX7_image_6 : decode cX7_image 6 = .ok (.aload_n 2, 1) := by decide +kernel
theorem dX7_image_7 : decode cX7_image 7 = .ok (.ifnonnull 5, 3) := by decide +kernel
theorem dX7_image_10 : decode cX7_image 10 = .ok (.iconst (-1), 1) := by decide +kernel
theorem dX7_image_11 : decode cX7_image 11 = .ok (.ireturn, 1) := by decide +kernel
theorem dX7_image_12 : decode cX7_image 12 = .ok (.aload_n 0, 1) := by decide +kernel
theorem dX7_image_13 : decode cX7_image 13 = .ok (.getfield 19, 3) := by decide +kernel
theorem dX7_image_16 : decode cX7_image 16 = .ok (.invokevirtual 135, 3) := by decide +kernel
theorem dX7_image_19 : decode cX7_image 19 = .ok (.ifCond .ne 6, 3) := by decide +kernel
theorem dX7_image_22 : decode cX7_image 22 = .ok (.bipush (-2), 2) := by decide +kernel
theorem dX7_image_24 : decode cX7_image 24 = .ok (.ireturn, 1) := by decide +kernel
theorem dX7_image_25 : decode cX7_image 25 = .ok (.aload_n 2, 1) := by decide +kernel
theorem dX7_image_26 : decode cX7_image 26 = .ok (.aload_n 0, 1) := by decide +kernel
theorem dX7_image_27 : decode cX7_image 27 = .ok (.getfield 19, 3) := by decide +kernel
theorem dX7_image_30 : decode cX7_image 30 = .ok (.invokevirtual 80, 3) := by decide +kernel
theorem dX7_image_33 : decode cX7_image 33 = .ok (.aload_n 0, 1) := by decide +kernel
theorem dX7_image_34 : decode cX7_image 34 = .ok (.getfield 19, 3) := by decide +kernel
theorem dX7_image_37 : decode cX7_image 37 = .ok (.invokevirtual 118, 3) := by decide +kernel
theorem dX7_image_40 : decode cX7_image 40 = .ok (.ireturn, 1) := by decide +kernel
theorem dX7_restore_0 : decode cX7_restore 0 = .ok (.aload_n 0, 1) := by decide +kernel
theorem dX7_restore_1 : decode cX7_restore 1 = .ok (.iload_n 1, 1) := by decide +kernel
theorem dX7_restore_2 : decode cX7_restore 2 = .ok (.invokevirtual 149, 3) := by decide +kernel
theorem dX7_restore_5 : decode cX7_restore 5 = .ok (.astore_n 2, 1) := by decide +kernel
theorem dX7_restore_6 : decode cX7_restore 6 = .ok (.aload_n 2, 1) := by decide +kernel
theorem dX7_restore_7 : decode cX7_restore 7 = .ok (.ifnonnull 5, 3) := by decide +kernel
theorem dX7_restore_10 : decode cX7_restore 10 = .ok (.iconst (-1), 1) := by decide +kernel
theorem dX7_restore_11 : decode cX7_restore 11 = .ok (.ireturn, 1) := by decide +kernel
theorem dX7_restore_12 : decode cX7_restore 12 = .ok (.aload_n 2, 1) := by decide +kernel
theorem dX7_restore_13 : decode cX7_restore 13 = .ok (.invokevirtual 135, 3) := by decide +kernel
theorem dX7_restore_16 : decode cX7_restore 16 = .ok (.ifCond .ne 6, 3) := by decide +kernel
theorem dX7_restore_19 : decode cX7_restore 19 = .ok (.bipush (-2), 2) := by decide +kernel
theorem dX7_restore_21 : decode cX7_restore 21 = .ok (.ireturn, 1) := by decide +kernel
theorem dX7_restore_22 : decode cX7_restore 22 = .ok (.aload_n 0, 1) := by decide +kernel
theorem dX7_restore_23 : decode cX7_restore 23 = .ok (.getfield 19, 3) := by decide +kernel
theorem dX7_restore_26 : decode cX7_restore 26 = .ok (.aload_n 2, 1) := by decide +kernel
theorem dX7_restore_27 : decode cX7_restore 27 = .ok (.invokevirtual 80, 3) := by decide +kernel
theorem dX7_restore_30 : decode cX7_restore 30 = .ok (.aload_n 0, 1) := by decide +kernel
theorem dX7_restore_31 : decode cX7_restore 31 = .ok (.getfield 29, 3) := by decide +kernel
theorem dX7_restore_34 : decode cX7_restore 34 = .ok (.invokevirtual 84, 3) := by decide +kernel
theorem dX7_restore_37 : decode cX7_restore 37 = .ok (.aload_n 0, 1) := by decide +kernel
theorem dX7_restore_38 : decode cX7_restore 38 = .ok (.getfield 19, 3) := by decide +kernel
theorem dX7_restore_41 : decode cX7_restore 41 = .ok (.invokevirtual 118, 3) := by decide +kernel
theorem dX7_restore_44 : decode cX7_restore 44 = .ok (.ireturn, 1) := by decide +kernel
theorem dX7_said_0 : decode cX7_said 0 = .ok (.aload_n 0, 1) := by decide +kernel
theorem dX7_said_1 : decode cX7_said 1 = .ok (.getfield 19, 3) := by decide +kernel
theorem dX7_said_4 : decode cX7_said 4 = .ok (.iload_n 1, 1) := by decide +kernel
theorem dX7_said_5 : decode cX7_said 5 = .ok (.invokevirtual 105, 3) := by decide +kernel
theorem dX7_said_8 : decode cX7_said 8 = .ok (.ifCond .eq 14, 3) := by decide +kernel
theorem dX7_said_11 : decode cX7_said 11 = .ok (.aload_n 0, 1) := by decide +kernel
theorem dX7_said_12 : decode cX7_said 12 = .ok (.getfield 19, 3) := by decide +kernel
theorem dX7_said_15 : decode cX7_said 15 = .ok (.iload_n 2, 1) := by decide +kernel
theorem dX7_said_16 : decode cX7_said 16 = .ok (.invokevirtual 90, 3) := by decide +kernel
theorem dX7_said_19 : decode cX7_said 19 = .ok (.ifCond .ne 5, 3) := by decide +kernel
theorem dX7_said_22 : decode cX7_said 22 = .ok (.iconst (-1), 1) := by decide +kernel
theorem dX7_said_23 : decode cX7_said 23 = .ok (.ireturn, 1) := by decide +kernel
theorem dX7_said_24 : decode cX7_said 24 = .ok (.aload_n 0, 1) := by decide +kernel
theorem dX7_said_25 : decode cX7_said 25 = .ok (.getfield 19, 3) := by decide +kernel
theorem dX7_said_28 : decode cX7_said 28 = .ok (.iload_n 1, 1) := by decide +kernel
theorem dX7_said_29 : decode cX7_said 29 = .ok (.iload_n 2, 1) := by decide +kernel
theorem dX7_said_30 : decode cX7_said 30 = .ok (.invokevirtual 153, 3) := by decide +kernel
theorem dX7_said_33 : decode cX7_said 33 = .ok (.ireturn, 1) := by decide +kernel
theorem dX7_comes_0 : decode cX7_comes 0 = .ok (.aload_n 0, 1) := by decide +kernel
theorem dX7_comes_1 : decode cX7_comes 1 = .ok (.iload_n 1, 1) := by decide +kernel
theorem dX7_comes_2 : decode cX7_comes 2 = .ok (.iload_n 2, 1) := by decide +kernel
theorem dX7_comes_3 : decode cX7_comes 3 = .ok (.invokevirtual 115, 3) := by decide +kernel
theorem dX7_comes_6 : decode cX7_comes 6 = .ok (.istore_n 3, 1) := by decide +kernel
theorem dX7_comes_7 : decode cX7_comes 7 = .ok (.iload_n 3, 1) := by decide +kernel
theorem dX7_comes_8 : decode cX7_comes 8 = .ok (.ifCond .eq 7, 3) := by decide +kernel
theorem dX7_comes_11 : decode cX7_comes 11 = .ok (.iload_n 3, 1) := by decide +kernel
theorem dX7_comes_12 : decode cX7_comes 12 = .ok (.goto 12, 3) := by decide +kernel
theorem dX7_comes_15 : decode cX7_comes 15 = .ok (.aload_n 0, 1) := by decide +kernel
theorem dX7_comes_16 : decode cX7_comes 16 = .ok (.getfield 19, 3) := by decide +kernel
theorem dX7_comes_19 : decode cX7_comes 19 = .ok (.iload_n 1, 1) := by decide +kernel
theorem dX7_comes_20 : decode cX7_comes 20 = .ok (.iload_n 2, 1) := by decide +kernel
theorem dX7_comes_21 : decode cX7_comes 21 = .ok (.invokevirtual 156, 3) := by decide +kernel
theorem dX7_comes_24 : decode cX7_comes 24 = .ok (.ireturn, 1) := by decide +kernel
theorem dX7_least_0 : decode cX7_least 0 = .ok (.aload_n 0, 1) := by decide +kernel
theorem dX7_least_1 : decode cX7_least 1 = .ok (.iload_n 1, 1) := by decide +kernel
theorem dX7_least_2 : decode cX7_least 2 = .ok (.iload_n 2, 1) := by decide +kernel
theorem dX7_least_3 : decode cX7_least 3 = .ok (.invokevirtual 115, 3) := by decide +kernel
theorem dX7_least_6 : decode cX7_least 6 = .ok (.istore_n 3, 1) := by decide +kernel
theorem dX7_least_7 : decode cX7_least 7 = .ok (.iload_n 3, 1) := by decide +kernel
theorem dX7_least_8 : decode cX7_least 8 = .ok (.ifCond .eq 7, 3) := by decide +kernel
theorem dX7_least_11 : decode cX7_least 11 = .ok (.iload_n 3, 1) := by decide +kernel
theorem dX7_least_12 : decode cX7_least 12 = .ok (.goto 12, 3) := by decide +kernel
theorem dX7_least_15 : decode cX7_least 15 = .ok (.aload_n 0, 1) := by decide +kernel
theorem dX7_least_16 : decode cX7_least 16 = .ok (.getfield 19, 3) := by decide +kernel
theorem dX7_least_19 : decode cX7_least 19 = .ok (.iload_n 1, 1) := by decide +kernel
theorem dX7_least_20 : decode cX7_least 20 = .ok (.iload_n 2, 1) := by decide +kernel
theorem dX7_least_21 : decode cX7_least 21 = .ok (.invokevirtual 159, 3) := by decide +kernel
theorem dX7_least_24 : decode cX7_least 24 = .ok (.ireturn, 1) := by decide +kernel
theorem dX7_match_0 : decode cX7_match 0 = .ok (.iload_n 1, 1) := by decide +kernel
theorem dX7_match_1 : decode cX7_match 1 = .ok (.iconst (-1), 1) := by decide +kernel
theorem dX7_match_2 : decode cX7_match 2 = .ok (.if_icmp .eq 16, 3) := by decide +kernel
theorem dX7_match_5 : decode cX7_match 5 = .ok (.aload_n 0, 1) := by decide +kernel
theorem dX7_match_6 : decode cX7_match 6 = .ok (.getfield 19, 3) := by decide +kernel
theorem dX7_match_9 : decode cX7_match 9 = .ok (.iload_n 1, 1) := by decide +kernel
theorem dX7_match_10 : decode cX7_match 10 = .ok (.invokevirtual 105, 3) := by decide +kernel
theorem dX7_match_13 : decode cX7_match 13 = .ok (.ifCond .ne 5, 3) := by decide +kernel
theorem dX7_match_16 : decode cX7_match 16 = .ok (.iconst (-1), 1) := by decide +kernel
theorem dX7_match_17 : decode cX7_match 17 = .ok (.ireturn, 1) := by decide +kernel
theorem dX7_match_18 : decode cX7_match 18 = .ok (.aload_n 0, 1) := by decide +kernel
theorem dX7_match_19 : decode cX7_match 19 = .ok (.getfield 19, 3) := by decide +kernel
theorem dX7_match_22 : decode cX7_match 22 = .ok (.invokevirtual 135, 3) := by decide +kernel
theorem dX7_match_25 : decode cX7_match 25 = .ok (.ifCond .ne 6, 3) := by decide +kernel
theorem dX7_match_28 : decode cX7_match 28 = .ok (.bipush (-2), 2) := by decide +kernel
theorem dX7_match_30 : decode cX7_match 30 = .ok (.ireturn, 1) := by decide +kernel
theorem dX7_match_31 : decode cX7_match 31 = .ok (.aload_n 0, 1) := by decide +kernel
theorem dX7_match_32 : decode cX7_match 32 = .ok (.getfield 47, 3) := by decide +kernel
theorem dX7_match_35 : decode cX7_match 35 = .ok (.aload_n 0, 1) := by decide +kernel
theorem dX7_match_36 : decode cX7_match 36 = .ok (.getfield 19, 3) := by decide +kernel
theorem dX7_match_39 : decode cX7_match 39 = .ok (.invokevirtual 162, 3) := by decide +kernel
theorem dX7_match_42 : decode cX7_match 42 = .ok (.iload_n 1, 1) := by decide +kernel
theorem dX7_match_43 : decode cX7_match 43 = .ok (.iconst (-1), 1) := by decide +kernel
theorem dX7_match_44 : decode cX7_match 44 = .ok (.if_icmp .ne 13, 3) := by decide +kernel
theorem dX7_match_47 : decode cX7_match 47 = .ok (.aload_n 0, 1) := by decide +kernel
theorem dX7_match_48 : decode cX7_match 48 = .ok (.getfield 47, 3) := by decide +kernel
theorem dX7_match_51 : decode cX7_match 51 = .ok (.invokevirtual 165, 3) := by decide +kernel
theorem dX7_match_54 : decode cX7_match 54 = .ok (.goto 11, 3) := by decide +kernel
theorem dX7_match_57 : decode cX7_match 57 = .ok (.aload_n 0, 1) := by decide +kernel
theorem dX7_match_58 : decode cX7_match 58 = .ok (.getfield 47, 3) := by decide +kernel
theorem dX7_match_61 : decode cX7_match 61 = .ok (.iload_n 1, 1) := by decide +kernel
theorem dX7_match_62 : decode cX7_match 62 = .ok (.invokevirtual 168, 3) := by decide +kernel
theorem dX7_match_65 : decode cX7_match 65 = .ok (.ireturn, 1) := by decide +kernel
theorem dX7_chain_0 : decode cX7_chain 0 = .ok (.aload_n 0, 1) := by decide +kernel
theorem dX7_chain_1 : decode cX7_chain 1 = .ok (.getfield 19, 3) := by decide +kernel
theorem dX7_chain_4 : decode cX7_chain 4 = .ok (.iload_n 1, 1) := by decide +kernel
theorem dX7_chain_5 : decode cX7_chain 5 = .ok (.invokevirtual 90, 3) := by decide +kernel
theorem dX7_chain_8 : decode cX7_chain 8 = .ok (.ifCond .eq 12, 3) := by decide +kernel
theorem dX7_chain_11 : decode cX7_chain 11 = .ok (.iload_n 2, 1) := by decide +kernel
theorem dX7_chain_12 : decode cX7_chain 12 = .ok (.ifCond .lt 8, 3) := by decide +kernel
theorem dX7_chain_15 : decode cX7_chain 15 = .ok (.iload_n 2, 1) := by decide +kernel
theorem dX7_chain_16 : decode cX7_chain 16 = .ok (.iconst 1, 1) := by decide +kernel
theorem dX7_chain_17 : decode cX7_chain 17 = .ok (.if_icmp .le 5, 3) := by decide +kernel
theorem dX7_chain_20 : decode cX7_chain 20 = .ok (.iconst (-1), 1) := by decide +kernel
theorem dX7_chain_21 : decode cX7_chain 21 = .ok (.ireturn, 1) := by decide +kernel
theorem dX7_chain_22 : decode cX7_chain 22 = .ok (.iload_n 2, 1) := by decide +kernel
theorem dX7_chain_23 : decode cX7_chain 23 = .ok (.ifCond .ne 14, 3) := by decide +kernel
theorem dX7_chain_26 : decode cX7_chain 26 = .ok (.aload_n 0, 1) := by decide +kernel
theorem dX7_chain_27 : decode cX7_chain 27 = .ok (.getfield 19, 3) := by decide +kernel
theorem dX7_chain_30 : decode cX7_chain 30 = .ok (.iload_n 1, 1) := by decide +kernel
theorem dX7_chain_31 : decode cX7_chain 31 = .ok (.invokevirtual 171, 3) := by decide +kernel
theorem dX7_chain_34 : decode cX7_chain 34 = .ok (.goto 11, 3) := by decide +kernel
theorem dX7_chain_37 : decode cX7_chain 37 = .ok (.aload_n 0, 1) := by decide +kernel
theorem dX7_chain_38 : decode cX7_chain 38 = .ok (.getfield 19, 3) := by decide +kernel
theorem dX7_chain_41 : decode cX7_chain 41 = .ok (.iload_n 1, 1) := by decide +kernel
theorem dX7_chain_42 : decode cX7_chain 42 = .ok (.invokevirtual 174, 3) := by decide +kernel
theorem dX7_chain_45 : decode cX7_chain 45 = .ok (.ireturn, 1) := by decide +kernel
theorem dX7_reach_0 : decode cX7_reach 0 = .ok (.aload_n 0, 1) := by decide +kernel
theorem dX7_reach_1 : decode cX7_reach 1 = .ok (.getfield 19, 3) := by decide +kernel
theorem dX7_reach_4 : decode cX7_reach 4 = .ok (.iload_n 1, 1) := by decide +kernel
theorem dX7_reach_5 : decode cX7_reach 5 = .ok (.invokevirtual 90, 3) := by decide +kernel
theorem dX7_reach_8 : decode cX7_reach 8 = .ok (.ifCond .eq 13, 3) := by decide +kernel
theorem dX7_reach_11 : decode cX7_reach 11 = .ok (.iload_n 2, 1) := by decide +kernel
theorem dX7_reach_12 : decode cX7_reach 12 = .ok (.ifCond .lt 9, 3) := by decide +kernel
theorem dX7_reach_15 : decode cX7_reach 15 = .ok (.iload_n 2, 1) := by decide +kernel
theorem dX7_reach_16 : decode cX7_reach 16 = .ok (.bipush 9, 2) := by decide +kernel
theorem dX7_reach_18 : decode cX7_reach 18 = .ok (.if_icmp .le 5, 3) := by decide +kernel
theorem dX7_reach_21 : decode cX7_reach 21 = .ok (.iconst (-1), 1) := by decide +kernel
theorem dX7_reach_22 : decode cX7_reach 22 = .ok (.ireturn, 1) := by decide +kernel
theorem dX7_reach_23 : decode cX7_reach 23 = .ok (.aload_n 0, 1) := by decide +kernel
theorem dX7_reach_24 : decode cX7_reach 24 = .ok (.getfield 19, 3) := by decide +kernel
theorem dX7_reach_27 : decode cX7_reach 27 = .ok (.iload_n 1, 1) := by decide +kernel
theorem dX7_reach_28 : decode cX7_reach 28 = .ok (.iconst 4, 1) := by decide +kernel
theorem dX7_reach_29 : decode cX7_reach 29 = .ok (.invokevirtual 93, 3) := by decide +kernel
theorem dX7_reach_32 : decode cX7_reach 32 = .ok (.iload_n 2, 1) := by decide +kernel
theorem dX7_reach_33 : decode cX7_reach 33 = .ok (.aload_n 0, 1) := by decide +kernel
theorem dX7_reach_34 : decode cX7_reach 34 = .ok (.getfield 19, 3) := by decide +kernel
theorem dX7_reach_37 : decode cX7_reach 37 = .ok (.invokevirtual 118, 3) := by decide +kernel
theorem dX7_reach_40 : decode cX7_reach 40 = .ok (.invokestatic 177, 3) := by decide +kernel
theorem dX7_reach_43 : decode cX7_reach 43 = .ok (.ireturn, 1) := by decide +kernel
theorem dX7_plan_0 : decode cX7_plan 0 = .ok (.iload_n 1, 1) := by decide +kernel
theorem dX7_plan_1 : decode cX7_plan 1 = .ok (.ifCond .lt 13, 3) := by decide +kernel
theorem dX7_plan_4 : decode cX7_plan 4 = .ok (.iload_n 1, 1) := by decide +kernel
theorem dX7_plan_5 : decode cX7_plan 5 = .ok (.iconst 3, 1) := by decide +kernel
theorem dX7_plan_6 : decode cX7_plan 6 = .ok (.if_icmp .gt 8, 3) := by decide +kernel
theorem dX7_plan_9 : decode cX7_plan 9 = .ok (.iload_n 2, 1) := by decide +kernel
theorem dX7_plan_10 : decode cX7_plan 10 = .ok (.iconst (-1), 1) := by decide +kernel
theorem dX7_plan_11 : decode cX7_plan 11 = .ok (.if_icmp .ge 5, 3) := by decide +kernel
theorem dX7_plan_14 : decode cX7_plan 14 = .ok (.iconst (-1), 1) := by decide +kernel
theorem dX7_plan_15 : decode cX7_plan 15 = .ok (.ireturn, 1) := by decide +kernel
theorem dX7_plan_16 : decode cX7_plan 16 = .ok (.aload_n 0, 1) := by decide +kernel
theorem dX7_plan_17 : decode cX7_plan 17 = .ok (.getfield 19, 3) := by decide +kernel
theorem dX7_plan_20 : decode cX7_plan 20 = .ok (.invokevirtual 135, 3) := by decide +kernel
theorem dX7_plan_23 : decode cX7_plan 23 = .ok (.ifCond .ne 6, 3) := by decide +kernel
theorem dX7_plan_26 : decode cX7_plan 26 = .ok (.bipush (-2), 2) := by decide +kernel
theorem dX7_plan_28 : decode cX7_plan 28 = .ok (.ireturn, 1) := by decide +kernel
theorem dX7_plan_29 : decode cX7_plan 29 = .ok (.iload_n 2, 1) := by decide +kernel
theorem dX7_plan_30 : decode cX7_plan 30 = .ok (.iload_n 1, 1) := by decide +kernel
theorem dX7_plan_31 : decode cX7_plan 31 = .ok (.if_icmp .lt 6, 3) := by decide +kernel
theorem dX7_plan_34 : decode cX7_plan 34 = .ok (.bipush (-4), 2) := by decide +kernel
theorem dX7_plan_36 : decode cX7_plan 36 = .ok (.ireturn, 1) := by decide +kernel
theorem dX7_plan_37 : decode cX7_plan 37 = .ok (.aload_n 0, 1) := by decide +kernel
theorem dX7_plan_38 : decode cX7_plan 38 = .ok (.getfield 54, 3) := by decide +kernel
theorem dX7_plan_41 : decode cX7_plan 41 = .ok (.aload_n 0, 1) := by decide +kernel
theorem dX7_plan_42 : decode cX7_plan 42 = .ok (.getfield 19, 3) := by decide +kernel
theorem dX7_plan_45 : decode cX7_plan 45 = .ok (.iconst 0, 1) := by decide +kernel
theorem dX7_plan_46 : decode cX7_plan 46 = .ok (.iload_n 1, 1) := by decide +kernel
theorem dX7_plan_47 : decode cX7_plan 47 = .ok (.invokevirtual 180, 3) := by decide +kernel
theorem dX7_plan_50 : decode cX7_plan 50 = .ok (.istore_n 3, 1) := by decide +kernel
theorem dX7_plan_51 : decode cX7_plan 51 = .ok (.iload_n 2, 1) := by decide +kernel
theorem dX7_plan_52 : decode cX7_plan 52 = .ok (.iconst (-1), 1) := by decide +kernel
theorem dX7_plan_53 : decode cX7_plan 53 = .ok (.if_icmp .ne 7, 3) := by decide +kernel
theorem dX7_plan_56 : decode cX7_plan 56 = .ok (.iload_n 3, 1) := by decide +kernel
theorem dX7_plan_57 : decode cX7_plan 57 = .ok (.goto 11, 3) := by decide +kernel
theorem dX7_plan_60 : decode cX7_plan 60 = .ok (.aload_n 0, 1) := by decide +kernel
theorem dX7_plan_61 : decode cX7_plan 61 = .ok (.getfield 54, 3) := by decide +kernel
theorem dX7_plan_64 : decode cX7_plan 64 = .ok (.iload_n 2, 1) := by decide +kernel
theorem dX7_plan_65 : decode cX7_plan 65 = .ok (.invokevirtual 184, 3) := by decide +kernel
theorem dX7_plan_68 : decode cX7_plan 68 = .ok (.ireturn, 1) := by decide +kernel
theorem dX7_gusts_0 : decode cX7_gusts 0 = .ok (.iload_n 3, 1) := by decide +kernel
theorem dX7_gusts_1 : decode cX7_gusts 1 = .ok (.ifCond .lt 20, 3) := by decide +kernel
theorem dX7_gusts_4 : decode cX7_gusts 4 = .ok (.iload_n 3, 1) := by decide +kernel
theorem dX7_gusts_5 : decode cX7_gusts 5 = .ok (.bipush 10, 2) := by decide +kernel
theorem dX7_gusts_7 : decode cX7_gusts 7 = .ok (.if_icmp .gt 14, 3) := by decide +kernel
theorem dX7_gusts_10 : decode cX7_gusts 10 = .ok (.iload 4, 2) := by decide +kernel
theorem dX7_gusts_12 : decode cX7_gusts 12 = .ok (.ifCond .lt 9, 3) := by decide +kernel
theorem dX7_gusts_15 : decode cX7_gusts 15 = .ok (.iload 4, 2) := by decide +kernel
theorem dX7_gusts_17 : decode cX7_gusts 17 = .ok (.iconst 1, 1) := by decide +kernel
theorem dX7_gusts_18 : decode cX7_gusts 18 = .ok (.if_icmp .le 5, 3) := by decide +kernel
theorem dX7_gusts_21 : decode cX7_gusts 21 = .ok (.iconst (-1), 1) := by decide +kernel
theorem dX7_gusts_22 : decode cX7_gusts 22 = .ok (.ireturn, 1) := by decide +kernel
theorem dX7_gusts_23 : decode cX7_gusts 23 = .ok (.aload_n 0, 1) := by decide +kernel
theorem dX7_gusts_24 : decode cX7_gusts 24 = .ok (.iload_n 1, 1) := by decide +kernel
theorem dX7_gusts_25 : decode cX7_gusts 25 = .ok (.iload_n 2, 1) := by decide +kernel
theorem dX7_gusts_26 : decode cX7_gusts 26 = .ok (.invokevirtual 115, 3) := by decide +kernel
theorem dX7_gusts_29 : decode cX7_gusts 29 = .ok (.istore 5, 2) := by decide +kernel
theorem dX7_gusts_31 : decode cX7_gusts 31 = .ok (.iload 5, 2) := by decide +kernel
theorem dX7_gusts_33 : decode cX7_gusts 33 = .ok (.ifCond .eq 6, 3) := by decide +kernel
theorem dX7_gusts_36 : decode cX7_gusts 36 = .ok (.iload 5, 2) := by decide +kernel
theorem dX7_gusts_38 : decode cX7_gusts 38 = .ok (.ireturn, 1) := by decide +kernel
theorem dX7_gusts_39 : decode cX7_gusts 39 = .ok (.aload_n 0, 1) := by decide +kernel
theorem dX7_gusts_40 : decode cX7_gusts 40 = .ok (.getfield 19, 3) := by decide +kernel
theorem dX7_gusts_43 : decode cX7_gusts 43 = .ok (.iload_n 1, 1) := by decide +kernel
theorem dX7_gusts_44 : decode cX7_gusts 44 = .ok (.iload_n 2, 1) := by decide +kernel
theorem dX7_gusts_45 : decode cX7_gusts 45 = .ok (.invokevirtual 153, 3) := by decide +kernel
theorem dX7_gusts_48 : decode cX7_gusts 48 = .ok (.aload_n 0, 1) := by decide +kernel
theorem dX7_gusts_49 : decode cX7_gusts 49 = .ok (.getfield 19, 3) := by decide +kernel
theorem dX7_gusts_52 : decode cX7_gusts 52 = .ok (.iload_n 1, 1) := by decide +kernel
theorem dX7_gusts_53 : decode cX7_gusts 53 = .ok (.invokevirtual 108, 3) := by decide +kernel
theorem dX7_gusts_56 : decode cX7_gusts 56 = .ok (.isub, 1) := by decide +kernel
theorem dX7_gusts_57 : decode cX7_gusts 57 = .ok (.istore 6, 2) := by decide +kernel
theorem dX7_gusts_59 : decode cX7_gusts 59 = .ok (.iload_n 3, 1) := by decide +kernel
theorem dX7_gusts_60 : decode cX7_gusts 60 = .ok (.iload 6, 2) := by decide +kernel
theorem dX7_gusts_62 : decode cX7_gusts 62 = .ok (.invokestatic 187, 3) := by decide +kernel
theorem dX7_gusts_65 : decode cX7_gusts 65 = .ok (.istore 7, 2) := by decide +kernel
theorem dX7_gusts_67 : decode cX7_gusts 67 = .ok (.sipush 1000, 3) := by decide +kernel
theorem dX7_gusts_70 : decode cX7_gusts 70 = .ok (.iload 7, 2) := by decide +kernel
theorem dX7_gusts_72 : decode cX7_gusts 72 = .ok (.invokestatic 190, 3) := by decide +kernel
theorem dX7_gusts_75 : decode cX7_gusts 75 = .ok (.istore 8, 2) := by decide +kernel
theorem dX7_gusts_77 : decode cX7_gusts 77 = .ok (.iload 4, 2) := by decide +kernel
theorem dX7_gusts_79 : decode cX7_gusts 79 = .ok (.ifCond .ne 8, 3) := by decide +kernel
theorem dX7_gusts_82 : decode cX7_gusts 82 = .ok (.iload 7, 2) := by decide +kernel
theorem dX7_gusts_84 : decode cX7_gusts 84 = .ok (.goto 6, 3) := by decide +kernel
theorem dX7_gusts_87 : decode cX7_gusts 87 = .ok (.sipush 1000, 3) := by decide +kernel
theorem dX7_gusts_90 : decode cX7_gusts 90 = .ok (.iload 8, 2) := by decide +kernel
theorem dX7_gusts_92 : decode cX7_gusts 92 = .ok (.idiv, 1) := by decide +kernel
theorem dX7_gusts_93 : decode cX7_gusts 93 = .ok (.ireturn, 1) := by decide +kernel
theorem dX7_decades_0 : decode cX7_decades 0 = .ok (.iload_n 1, 1) := by decide +kernel
theorem dX7_decades_1 : decode cX7_decades 1 = .ok (.ifCond .lt 29, 3) := by decide +kernel
theorem dX7_decades_4 : decode cX7_decades 4 = .ok (.iload_n 1, 1) := by decide +kernel
theorem dX7_decades_5 : decode cX7_decades 5 = .ok (.bipush 60, 2) := by decide +kernel
theorem dX7_decades_7 : decode cX7_decades 7 = .ok (.if_icmp .gt 23, 3) := by decide +kernel
theorem dX7_decades_10 : decode cX7_decades 10 = .ok (.iload_n 2, 1) := by decide +kernel
theorem dX7_decades_11 : decode cX7_decades 11 = .ok (.iconst 1, 1) := by decide +kernel
theorem dX7_decades_12 : decode cX7_decades 12 = .ok (.if_icmp .lt 18, 3) := by decide +kernel
theorem dX7_decades_15 : decode cX7_decades 15 = .ok (.iload_n 2, 1) := by decide +kernel
theorem dX7_decades_16 : decode cX7_decades 16 = .ok (.ldc 193, 2) := by decide +kernel
theorem dX7_decades_18 : decode cX7_decades 18 = .ok (.if_icmp .gt 12, 3) := by decide +kernel
theorem dX7_decades_21 : decode cX7_decades 21 = .ok (.iload_n 3, 1) := by decide +kernel
theorem dX7_decades_22 : decode cX7_decades 22 = .ok (.ifCond .lt 8, 3) := by decide +kernel
theorem dX7_decades_25 : decode cX7_decades 25 = .ok (.iload_n 3, 1) := by decide +kernel
theorem dX7_decades_26 : decode cX7_decades 26 = .ok (.iconst 1, 1) := by decide +kernel
theorem dX7_decades_27 : decode cX7_decades 27 = .ok (.if_icmp .le 5, 3) := by decide +kernel
theorem dX7_decades_30 : decode cX7_decades 30 = .ok (.iconst (-1), 1) := by decide +kernel
theorem dX7_decades_31 : decode cX7_decades 31 = .ok (.ireturn, 1) := by decide +kernel
theorem dX7_decades_32 : decode cX7_decades 32 = .ok (.aload_n 0, 1) := by decide +kernel
theorem dX7_decades_33 : decode cX7_decades 33 = .ok (.getfield 19, 3) := by decide +kernel
theorem dX7_decades_36 : decode cX7_decades 36 = .ok (.invokevirtual 135, 3) := by decide +kernel
theorem dX7_decades_39 : decode cX7_decades 39 = .ok (.ifCond .ne 6, 3) := by decide +kernel
theorem dX7_decades_42 : decode cX7_decades 42 = .ok (.bipush (-2), 2) := by decide +kernel
theorem dX7_decades_44 : decode cX7_decades 44 = .ok (.ireturn, 1) := by decide +kernel
theorem dX7_decades_45 : decode cX7_decades 45 = .ok (.aload_n 0, 1) := by decide +kernel
theorem dX7_decades_46 : decode cX7_decades 46 = .ok (.getfield 23, 3) := by decide +kernel
theorem dX7_decades_49 : decode cX7_decades 49 = .ok (.aload_n 0, 1) := by decide +kernel
theorem dX7_decades_50 : decode cX7_decades 50 = .ok (.getfield 19, 3) := by decide +kernel
theorem dX7_decades_53 : decode cX7_decades 53 = .ok (.invokevirtual 80, 3) := by decide +kernel
theorem dX7_decades_56 : decode cX7_decades 56 = .ok (.aload_n 0, 1) := by decide +kernel
theorem dX7_decades_57 : decode cX7_decades 57 = .ok (.getfield 23, 3) := by decide +kernel
theorem dX7_decades_60 : decode cX7_decades 60 = .ok (.iload_n 1, 1) := by decide +kernel
theorem dX7_decades_61 : decode cX7_decades 61 = .ok (.iload_n 2, 1) := by decide +kernel
theorem dX7_decades_62 : decode cX7_decades 62 = .ok (.invokestatic 194, 3) := by decide +kernel
theorem dX7_decades_65 : decode cX7_decades 65 = .ok (.iload_n 3, 1) := by decide +kernel
theorem dX7_decades_66 : decode cX7_decades 66 = .ok (.ifCond .ne 13, 3) := by decide +kernel
theorem dX7_decades_69 : decode cX7_decades 69 = .ok (.aload_n 0, 1) := by decide +kernel
theorem dX7_decades_70 : decode cX7_decades 70 = .ok (.getfield 23, 3) := by decide +kernel
theorem dX7_decades_73 : decode cX7_decades 73 = .ok (.invokevirtual 198, 3) := by decide +kernel
theorem dX7_decades_76 : decode cX7_decades 76 = .ok (.goto 10, 3) := by decide +kernel
theorem dX7_decades_79 : decode cX7_decades 79 = .ok (.aload_n 0, 1) := by decide +kernel
theorem dX7_decades_80 : decode cX7_decades 80 = .ok (.getfield 23, 3) := by decide +kernel
theorem dX7_decades_83 : decode cX7_decades 83 = .ok (.invokevirtual 199, 3) := by decide +kernel
theorem dX7_decades_86 : decode cX7_decades 86 = .ok (.ireturn, 1) := by decide +kernel
theorem dX7_sheet_0 : decode cX7_sheet 0 = .ok (.aload_n 0, 1) := by decide +kernel
theorem dX7_sheet_1 : decode cX7_sheet 1 = .ok (.iload_n 1, 1) := by decide +kernel
theorem dX7_sheet_2 : decode cX7_sheet 2 = .ok (.invokevirtual 202, 3) := by decide +kernel
theorem dX7_sheet_5 : decode cX7_sheet 5 = .ok (.astore 4, 2) := by decide +kernel
theorem dX7_sheet_7 : decode cX7_sheet 7 = .ok (.aload 4, 2) := by decide +kernel
theorem dX7_sheet_9 : decode cX7_sheet 9 = .ok (.ifnull 16, 3) := by decide +kernel
theorem dX7_sheet_12 : decode cX7_sheet 12 = .ok (.iload_n 2, 1) := by decide +kernel
theorem dX7_sheet_13 : decode cX7_sheet 13 = .ok (.invokestatic 206, 3) := by decide +kernel
theorem dX7_sheet_16 : decode cX7_sheet 16 = .ok (.ifCond .eq 9, 3) := by decide +kernel
theorem dX7_sheet_19 : decode cX7_sheet 19 = .ok (.iload_n 3, 1) := by decide +kernel
theorem dX7_sheet_20 : decode cX7_sheet 20 = .ok (.bipush 24, 2) := by decide +kernel
theorem dX7_sheet_22 : decode cX7_sheet 22 = .ok (.if_icmp .le 5, 3) := by decide +kernel
theorem dX7_sheet_25 : decode cX7_sheet 25 = .ok (.iconst (-1), 1) := by decide +kernel
theorem dX7_sheet_26 : decode cX7_sheet 26 = .ok (.ireturn, 1) := by decide +kernel
theorem dX7_sheet_27 : decode cX7_sheet 27 = .ok (.iload_n 3, 1) := by decide +kernel
theorem dX7_sheet_28 : decode cX7_sheet 28 = .ok (.ifCond .ge 6, 3) := by decide +kernel
theorem dX7_sheet_31 : decode cX7_sheet 31 = .ok (.bipush (-14), 2) := by decide +kernel
theorem dX7_sheet_33 : decode cX7_sheet 33 = .ok (.ireturn, 1) := by decide +kernel
theorem dX7_sheet_34 : decode cX7_sheet 34 = .ok (.aload 4, 2) := by decide +kernel
theorem dX7_sheet_36 : decode cX7_sheet 36 = .ok (.iload_n 2, 1) := by decide +kernel
theorem dX7_sheet_37 : decode cX7_sheet 37 = .ok (.iload_n 3, 1) := by decide +kernel
theorem dX7_sheet_38 : decode cX7_sheet 38 = .ok (.invokevirtual 209, 3) := by decide +kernel
theorem dX7_sheet_41 : decode cX7_sheet 41 = .ok (.iload_n 3, 1) := by decide +kernel
theorem dX7_sheet_42 : decode cX7_sheet 42 = .ok (.ireturn, 1) := by decide +kernel
theorem dX7_drop_0 : decode cX7_drop 0 = .ok (.aload_n 0, 1) := by decide +kernel
theorem dX7_drop_1 : decode cX7_drop 1 = .ok (.iload_n 1, 1) := by decide +kernel
theorem dX7_drop_2 : decode cX7_drop 2 = .ok (.invokevirtual 202, 3) := by decide +kernel
theorem dX7_drop_5 : decode cX7_drop 5 = .ok (.astore_n 2, 1) := by decide +kernel
theorem dX7_drop_6 : decode cX7_drop 6 = .ok (.aload_n 2, 1) := by decide +kernel
theorem dX7_drop_7 : decode cX7_drop 7 = .ok (.ifnonnull 5, 3) := by decide +kernel
theorem dX7_drop_10 : decode cX7_drop 10 = .ok (.iconst (-1), 1) := by decide +kernel
theorem dX7_drop_11 : decode cX7_drop 11 = .ok (.ireturn, 1) := by decide +kernel
theorem dX7_drop_12 : decode cX7_drop 12 = .ok (.aload_n 2, 1) := by decide +kernel
theorem dX7_drop_13 : decode cX7_drop 13 = .ok (.invokevirtual 213, 3) := by decide +kernel
theorem dX7_drop_16 : decode cX7_drop 16 = .ok (.ifCond .eq 8, 3) := by decide +kernel
theorem dX7_drop_19 : decode cX7_drop 19 = .ok (.bipush (-11), 2) := by decide +kernel
theorem dX7_drop_21 : decode cX7_drop 21 = .ok (.goto 7, 3) := by decide +kernel
theorem dX7_drop_24 : decode cX7_drop 24 = .ok (.aload_n 2, 1) := by decide +kernel
theorem dX7_drop_25 : decode cX7_drop 25 = .ok (.invokevirtual 216, 3) := by decide +kernel
theorem dX7_drop_28 : decode cX7_drop 28 = .ok (.ireturn, 1) := by decide +kernel
theorem dX7_item_0 : decode cX7_item 0 = .ok (.aload_n 0, 1) := by decide +kernel
theorem dX7_item_1 : decode cX7_item 1 = .ok (.iload_n 1, 1) := by decide +kernel
theorem dX7_item_2 : decode cX7_item 2 = .ok (.invokevirtual 202, 3) := by decide +kernel
theorem dX7_item_5 : decode cX7_item 5 = .ok (.astore 6, 2) := by decide +kernel
theorem dX7_item_7 : decode cX7_item 7 = .ok (.aload 6, 2) := by decide +kernel
theorem dX7_item_9 : decode cX7_item 9 = .ok (.iload_n 2, 1) := by decide +kernel
theorem dX7_item_10 : decode cX7_item 10 = .ok (.invokestatic 218, 3) := by decide +kernel
theorem dX7_item_13 : decode cX7_item 13 = .ok (.istore 7, 2) := by decide +kernel
theorem dX7_item_15 : decode cX7_item 15 = .ok (.iload 7, 2) := by decide +kernel
theorem dX7_item_17 : decode cX7_item 17 = .ok (.ifCond .ne 8, 3) := by decide +kernel
theorem dX7_item_20 : decode cX7_item 20 = .ok (.aload 6, 2) := by decide +kernel
theorem dX7_item_22 : decode cX7_item 22 = .ok (.ifnonnull 7, 3) := by decide +kernel
theorem dX7_item_25 : decode cX7_item 25 = .ok (.iload 7, 2) := by decide +kernel
theorem dX7_item_27 : decode cX7_item 27 = .ok (.i2l, 1) := by decide +kernel
theorem dX7_item_28 : decode cX7_item 28 = .ok (.lreturn, 1) := by decide +kernel
theorem dX7_item_29 : decode cX7_item 29 = .ok (.aload 6, 2) := by decide +kernel
theorem dX7_item_31 : decode cX7_item 31 = .ok (.iload_n 3, 1) := by decide +kernel
theorem dX7_item_32 : decode cX7_item 32 = .ok (.iconst 1, 1) := by decide +kernel
theorem dX7_item_33 : decode cX7_item 33 = .ok (.invokevirtual 222, 3) := by decide +kernel
theorem dX7_item_36 : decode cX7_item 36 = .ok (.ifCond .ne 7, 3) := by decide +kernel
theorem dX7_item_39 : decode cX7_item 39 = .ok (.ldc2_w 225, 3) := by decide +kernel
theorem dX7_item_42 : decode cX7_item 42 = .ok (.lreturn, 1) := by decide +kernel
theorem dX7_item_43 : decode cX7_item 43 = .ok (.aload 6, 2) := by decide +kernel
theorem dX7_item_45 : decode cX7_item 45 = .ok (.iload_n 3, 1) := by decide +kernel
theorem dX7_item_46 : decode cX7_item 46 = .ok (.lload 4, 2) := by decide +kernel
theorem dX7_item_48 : decode cX7_item 48 = .ok (.invokevirtual 227, 3) := by decide +kernel
theorem dX7_item_51 : decode cX7_item 51 = .ok (.aload 6, 2) := by decide +kernel
theorem dX7_item_53 : decode cX7_item 53 = .ok (.iload_n 3, 1) := by decide +kernel
theorem dX7_item_54 : decode cX7_item 54 = .ok (.invokevirtual 231, 3) := by decide +kernel
theorem dX7_item_57 : decode cX7_item 57 = .ok (.lreturn, 1) := by decide +kernel
theorem dX7_copy_0 : decode cX7_copy 0 = .ok (.aload_n 0, 1) := by decide +kernel
theorem dX7_copy_1 : decode cX7_copy 1 = .ok (.iload_n 1, 1) := by decide +kernel
theorem dX7_copy_2 : decode cX7_copy 2 = .ok (.invokevirtual 202, 3) := by decide +kernel
theorem dX7_copy_5 : decode cX7_copy 5 = .ok (.astore 6, 2) := by decide +kernel
theorem dX7_copy_7 : decode cX7_copy 7 = .ok (.aload_n 0, 1) := by decide +kernel
theorem dX7_copy_8 : decode cX7_copy 8 = .ok (.iload_n 3, 1) := by decide +kernel
theorem dX7_copy_9 : decode cX7_copy 9 = .ok (.invokevirtual 202, 3) := by decide +kernel
theorem dX7_copy_12 : decode cX7_copy 12 = .ok (.astore 7, 2) := by decide +kernel
theorem dX7_copy_14 : decode cX7_copy 14 = .ok (.aload 6, 2) := by decide +kernel
theorem dX7_copy_16 : decode cX7_copy 16 = .ok (.ifnull 8, 3) := by decide +kernel
theorem dX7_copy_19 : decode cX7_copy 19 = .ok (.aload 7, 2) := by decide +kernel
theorem dX7_copy_21 : decode cX7_copy 21 = .ok (.ifnonnull 5, 3) := by decide +kernel
theorem dX7_copy_24 : decode cX7_copy 24 = .ok (.iconst (-1), 1) := by decide +kernel
theorem dX7_copy_25 : decode cX7_copy 25 = .ok (.ireturn, 1) := by decide +kernel
theorem dX7_copy_26 : decode cX7_copy 26 = .ok (.aload 6, 2) := by decide +kernel
theorem dX7_copy_28 : decode cX7_copy 28 = .ok (.invokevirtual 213, 3) := by decide +kernel
theorem dX7_copy_31 : decode cX7_copy 31 = .ok (.ifCond .ne 11, 3) := by decide +kernel
theorem dX7_copy_34 : decode cX7_copy 34 = .ok (.aload 7, 2) := by decide +kernel
theorem dX7_copy_36 : decode cX7_copy 36 = .ok (.invokevirtual 213, 3) := by decide +kernel
theorem dX7_copy_39 : decode cX7_copy 39 = .ok (.ifCond .eq 6, 3) := by decide +kernel
theorem dX7_copy_42 : decode cX7_copy 42 = .ok (.bipush (-11), 2) := by decide +kernel
theorem dX7_copy_44 : decode cX7_copy 44 = .ok (.ireturn, 1) := by decide +kernel
theorem dX7_copy_45 : decode cX7_copy 45 = .ok (.aload 6, 2) := by decide +kernel
theorem dX7_copy_47 : decode cX7_copy 47 = .ok (.invokevirtual 235, 3) := by decide +kernel
theorem dX7_copy_50 : decode cX7_copy 50 = .ok (.aload 7, 2) := by decide +kernel
theorem dX7_copy_52 : decode cX7_copy 52 = .ok (.invokevirtual 235, 3) := by decide +kernel
theorem dX7_copy_55 : decode cX7_copy 55 = .ok (.if_icmp .eq 6, 3) := by decide +kernel
theorem dX7_copy_58 : decode cX7_copy 58 = .ok (.bipush (-12), 2) := by decide +kernel
theorem dX7_copy_60 : decode cX7_copy 60 = .ok (.ireturn, 1) := by decide +kernel
theorem dX7_copy_61 : decode cX7_copy 61 = .ok (.aload 6, 2) := by decide +kernel
theorem dX7_copy_63 : decode cX7_copy 63 = .ok (.iload_n 2, 1) := by decide +kernel
theorem dX7_copy_64 : decode cX7_copy 64 = .ok (.iload 5, 2) := by decide +kernel
theorem dX7_copy_66 : decode cX7_copy 66 = .ok (.invokevirtual 222, 3) := by decide +kernel
theorem dX7_copy_69 : decode cX7_copy 69 = .ok (.ifCond .eq 15, 3) := by decide +kernel
theorem dX7_copy_72 : decode cX7_copy 72 = .ok (.aload 7, 2) := by decide +kernel
theorem dX7_copy_74 : decode cX7_copy 74 = .ok (.iload 4, 2) := by decide +kernel
theorem dX7_copy_76 : decode cX7_copy 76 = .ok (.iload 5, 2) := by decide +kernel
theorem dX7_copy_78 : decode cX7_copy 78 = .ok (.invokevirtual 222, 3) := by decide +kernel
theorem dX7_copy_81 : decode cX7_copy 81 = .ok (.ifCond .ne 6, 3) := by decide +kernel
theorem dX7_copy_84 : decode cX7_copy 84 = .ok (.bipush (-13), 2) := by decide +kernel
theorem dX7_copy_86 : decode cX7_copy 86 = .ok (.ireturn, 1) := by decide +kernel
theorem dX7_copy_87 : decode cX7_copy 87 = .ok (.aload 7, 2) := by decide +kernel
theorem dX7_copy_89 : decode cX7_copy 89 = .ok (.aload 6, 2) := by decide +kernel
theorem dX7_copy_91 : decode cX7_copy 91 = .ok (.iload_n 2, 1) := by decide +kernel
theorem dX7_copy_92 : decode cX7_copy 92 = .ok (.iload 4, 2) := by decide +kernel
theorem dX7_copy_94 : decode cX7_copy 94 = .ok (.iload 5, 2) := by decide +kernel
theorem dX7_copy_96 : decode cX7_copy 96 = .ok (.invokevirtual 238, 3) := by decide +kernel
theorem dX7_copy_99 : decode cX7_copy 99 = .ok (.iload 5, 2) := by decide +kernel
theorem dX7_copy_101 : decode cX7_copy 101 = .ok (.ireturn, 1) := by decide +kernel
theorem dX7_log_0 : decode cX7_log 0 = .ok (.aload_n 0, 1) := by decide +kernel
theorem dX7_log_1 : decode cX7_log 1 = .ok (.getfield 19, 3) := by decide +kernel
theorem dX7_log_4 : decode cX7_log 4 = .ok (.iload_n 1, 1) := by decide +kernel
theorem dX7_log_5 : decode cX7_log 5 = .ok (.invokevirtual 90, 3) := by decide +kernel
theorem dX7_log_8 : decode cX7_log 8 = .ok (.ifCond .ne 5, 3) := by decide +kernel
theorem dX7_log_11 : decode cX7_log 11 = .ok (.iconst (-1), 1) := by decide +kernel
theorem dX7_log_12 : decode cX7_log 12 = .ok (.ireturn, 1) := by decide +kernel
theorem dX7_log_13 : decode cX7_log 13 = .ok (.aload_n 0, 1) := by decide +kernel
theorem dX7_log_14 : decode cX7_log 14 = .ok (.iload_n 2, 1) := by decide +kernel
theorem dX7_log_15 : decode cX7_log 15 = .ok (.invokevirtual 202, 3) := by decide +kernel
theorem dX7_log_18 : decode cX7_log 18 = .ok (.astore 5, 2) := by decide +kernel
theorem dX7_log_20 : decode cX7_log 20 = .ok (.aload 5, 2) := by decide +kernel
theorem dX7_log_22 : decode cX7_log 22 = .ok (.iload_n 3, 1) := by decide +kernel
theorem dX7_log_23 : decode cX7_log 23 = .ok (.invokestatic 218, 3) := by decide +kernel
theorem dX7_log_26 : decode cX7_log 26 = .ok (.istore 6, 2) := by decide +kernel
theorem dX7_log_28 : decode cX7_log 28 = .ok (.iload 6, 2) := by decide +kernel
theorem dX7_log_30 : decode cX7_log 30 = .ok (.ifCond .ne 8, 3) := by decide +kernel
theorem dX7_log_33 : decode cX7_log 33 = .ok (.aload 5, 2) := by decide +kernel
theorem dX7_log_35 : decode cX7_log 35 = .ok (.ifnonnull 6, 3) := by decide +kernel
theorem dX7_log_38 : decode cX7_log 38 = .ok (.iload 6, 2) := by decide +kernel
theorem dX7_log_40 : decode cX7_log 40 = .ok (.ireturn, 1) := by decide +kernel
theorem dX7_log_41 : decode cX7_log 41 = .ok (.aload 5, 2) := by decide +kernel
theorem dX7_log_43 : decode cX7_log 43 = .ok (.iload 4, 2) := by decide +kernel
theorem dX7_log_45 : decode cX7_log 45 = .ok (.aload_n 0, 1) := by decide +kernel
theorem dX7_log_46 : decode cX7_log 46 = .ok (.getfield 19, 3) := by decide +kernel
theorem dX7_log_49 : decode cX7_log 49 = .ok (.invokevirtual 87, 3) := by decide +kernel
theorem dX7_log_52 : decode cX7_log 52 = .ok (.invokevirtual 222, 3) := by decide +kernel
theorem dX7_log_55 : decode cX7_log 55 = .ok (.ifCond .ne 6, 3) := by decide +kernel
theorem dX7_log_58 : decode cX7_log 58 = .ok (.bipush (-13), 2) := by decide +kernel
theorem dX7_log_60 : decode cX7_log 60 = .ok (.ireturn, 1) := by decide +kernel
theorem dX7_log_61 : decode cX7_log 61 = .ok (.iconst 0, 1) := by decide +kernel
theorem dX7_log_62 : decode cX7_log 62 = .ok (.istore 7, 2) := by decide +kernel
theorem dX7_log_64 : decode cX7_log 64 = .ok (.iload 7, 2) := by decide +kernel
theorem dX7_log_66 : decode cX7_log 66 = .ok (.aload_n 0, 1) := by decide +kernel
theorem dX7_log_67 : decode cX7_log 67 = .ok (.getfield 19, 3) := by decide +kernel
theorem dX7_log_70 : decode cX7_log 70 = .ok (.invokevirtual 87, 3) := by decide +kernel
theorem dX7_log_73 : decode cX7_log 73 = .ok (.if_icmp .ge 30, 3) := by decide +kernel
theorem dX7_log_76 : decode cX7_log 76 = .ok (.aload 5, 2) := by decide +kernel
theorem dX7_log_78 : decode cX7_log 78 = .ok (.iload 4, 2) := by decide +kernel
theorem dX7_log_80 : decode cX7_log 80 = .ok (.iload 7, 2) := by decide +kernel
theorem dX7_log_82 : decode cX7_log 82 = .ok (.iadd, 1) := by decide +kernel
theorem dX7_log_83 : decode cX7_log 83 = .ok (.aload_n 0, 1) := by decide +kernel
theorem dX7_log_84 : decode cX7_log 84 = .ok (.getfield 19, 3) := by decide +kernel
theorem dX7_log_87 : decode cX7_log 87 = .ok (.iload 7, 2) := by decide +kernel
theorem dX7_log_89 : decode cX7_log 89 = .ok (.iload_n 1, 1) := by decide +kernel
theorem dX7_log_90 : decode cX7_log 90 = .ok (.invokevirtual 153, 3) := by decide +kernel
theorem dX7_log_93 : decode cX7_log 93 = .ok (.i2l, 1) := by decide +kernel
theorem dX7_log_94 : decode cX7_log 94 = .ok (.invokevirtual 227, 3) := by decide +kernel
theorem dX7_log_97 : decode cX7_log 97 = .ok (.iinc 7 1, 3) := by decide +kernel
theorem dX7_log_100 : decode cX7_log 100 = .ok (.goto (-36), 3) := by decide +kernel
theorem dX7_log_103 : decode cX7_log 103 = .ok (.aload_n 0, 1) := by decide +kernel
theorem dX7_log_104 : decode cX7_log 104 = .ok (.getfield 19, 3) := by decide +kernel
theorem dX7_log_107 : decode cX7_log 107 = .ok (.invokevirtual 87, 3) := by decide +kernel
theorem dX7_log_110 : decode cX7_log 110 = .ok (.ireturn, 1) := by decide +kernel
theorem dX7_skills_0 : decode cX7_skills 0 = .ok (.aload_n 0, 1) := by decide +kernel
theorem dX7_skills_1 : decode cX7_skills 1 = .ok (.iload_n 1, 1) := by decide +kernel
theorem dX7_skills_2 : decode cX7_skills 2 = .ok (.iload_n 2, 1) := by decide +kernel
theorem dX7_skills_3 : decode cX7_skills 3 = .ok (.iload_n 3, 1) := by decide +kernel
theorem dX7_skills_4 : decode cX7_skills 4 = .ok (.iload 4, 2) := by decide +kernel
theorem dX7_skills_6 : decode cX7_skills 6 = .ok (.iload 5, 2) := by decide +kernel
theorem dX7_skills_8 : decode cX7_skills 8 = .ok (.iload 6, 2) := by decide +kernel
theorem dX7_skills_10 : decode cX7_skills 10 = .ok (.invokevirtual 242, 3) := by decide +kernel
theorem dX7_skills_13 : decode cX7_skills 13 = .ok (.istore 7, 2) := by decide +kernel
theorem dX7_skills_15 : decode cX7_skills 15 = .ok (.iload 7, 2) := by decide +kernel
theorem dX7_skills_17 : decode cX7_skills 17 = .ok (.ifCond .eq 6, 3) := by decide +kernel
theorem dX7_skills_20 : decode cX7_skills 20 = .ok (.iload 7, 2) := by decide +kernel
theorem dX7_skills_22 : decode cX7_skills 22 = .ok (.ireturn, 1) := by decide +kernel
theorem dX7_skills_23 : decode cX7_skills 23 = .ok (.aload_n 0, 1) := by decide +kernel
theorem dX7_skills_24 : decode cX7_skills 24 = .ok (.getfield 61, 3) := by decide +kernel
theorem dX7_skills_27 : decode cX7_skills 27 = .ok (.aload_n 0, 1) := by decide +kernel
theorem dX7_skills_28 : decode cX7_skills 28 = .ok (.getfield 19, 3) := by decide +kernel
theorem dX7_skills_31 : decode cX7_skills 31 = .ok (.iload_n 1, 1) := by decide +kernel
theorem dX7_skills_32 : decode cX7_skills 32 = .ok (.invokevirtual 246, 3) := by decide +kernel
theorem dX7_skills_35 : decode cX7_skills 35 = .ok (.aload_n 0, 1) := by decide +kernel
theorem dX7_skills_36 : decode cX7_skills 36 = .ok (.getfield 61, 3) := by decide +kernel
theorem dX7_skills_39 : decode cX7_skills 39 = .ok (.aload_n 0, 1) := by decide +kernel
theorem dX7_skills_40 : decode cX7_skills 40 = .ok (.iload_n 2, 1) := by decide +kernel
theorem dX7_skills_41 : decode cX7_skills 41 = .ok (.invokevirtual 202, 3) := by decide +kernel
theorem dX7_skills_44 : decode cX7_skills 44 = .ok (.iload 4, 2) := by decide +kernel
theorem dX7_skills_46 : decode cX7_skills 46 = .ok (.iload 5, 2) := by decide +kernel
theorem dX7_skills_48 : decode cX7_skills 48 = .ok (.iload 6, 2) := by decide +kernel
theorem dX7_skills_50 : decode cX7_skills 50 = .ok (.invokevirtual 250, 3) := by decide +kernel
theorem dX7_skills_53 : decode cX7_skills 53 = .ok (.ireturn, 1) := by decide +kernel
theorem dX7_kinds_0 : decode cX7_kinds 0 = .ok (.aload_n 0, 1) := by decide +kernel
theorem dX7_kinds_1 : decode cX7_kinds 1 = .ok (.iload_n 1, 1) := by decide +kernel
theorem dX7_kinds_2 : decode cX7_kinds 2 = .ok (.iload_n 2, 1) := by decide +kernel
theorem dX7_kinds_3 : decode cX7_kinds 3 = .ok (.iload_n 3, 1) := by decide +kernel
theorem dX7_kinds_4 : decode cX7_kinds 4 = .ok (.iload 4, 2) := by decide +kernel
theorem dX7_kinds_6 : decode cX7_kinds 6 = .ok (.iload 5, 2) := by decide +kernel
theorem dX7_kinds_8 : decode cX7_kinds 8 = .ok (.iload 6, 2) := by decide +kernel
theorem dX7_kinds_10 : decode cX7_kinds 10 = .ok (.invokevirtual 242, 3) := by decide +kernel
theorem dX7_kinds_13 : decode cX7_kinds 13 = .ok (.istore 7, 2) := by decide +kernel
theorem dX7_kinds_15 : decode cX7_kinds 15 = .ok (.iload 7, 2) := by decide +kernel
theorem dX7_kinds_17 : decode cX7_kinds 17 = .ok (.ifCond .eq 6, 3) := by decide +kernel
theorem dX7_kinds_20 : decode cX7_kinds 20 = .ok (.iload 7, 2) := by decide +kernel
theorem dX7_kinds_22 : decode cX7_kinds 22 = .ok (.ireturn, 1) := by decide +kernel
theorem dX7_kinds_23 : decode cX7_kinds 23 = .ok (.aload_n 0, 1) := by decide +kernel
theorem dX7_kinds_24 : decode cX7_kinds 24 = .ok (.getfield 61, 3) := by decide +kernel
theorem dX7_kinds_27 : decode cX7_kinds 27 = .ok (.aload_n 0, 1) := by decide +kernel
theorem dX7_kinds_28 : decode cX7_kinds 28 = .ok (.getfield 19, 3) := by decide +kernel
theorem dX7_kinds_31 : decode cX7_kinds 31 = .ok (.iload_n 1, 1) := by decide +kernel
theorem dX7_kinds_32 : decode cX7_kinds 32 = .ok (.invokevirtual 254, 3) := by decide +kernel
theorem dX7_kinds_35 : decode cX7_kinds 35 = .ok (.aload_n 0, 1) := by decide +kernel
theorem dX7_kinds_36 : decode cX7_kinds 36 = .ok (.getfield 61, 3) := by decide +kernel
theorem dX7_kinds_39 : decode cX7_kinds 39 = .ok (.aload_n 0, 1) := by decide +kernel
theorem dX7_kinds_40 : decode cX7_kinds 40 = .ok (.iload_n 2, 1) := by decide +kernel
theorem dX7_kinds_41 : decode cX7_kinds 41 = .ok (.invokevirtual 202, 3) := by decide +kernel
theorem dX7_kinds_44 : decode cX7_kinds 44 = .ok (.iload 4, 2) := by decide +kernel
theorem dX7_kinds_46 : decode cX7_kinds 46 = .ok (.iload 5, 2) := by decide +kernel
theorem dX7_kinds_48 : decode cX7_kinds 48 = .ok (.iload 6, 2) := by decide +kernel
theorem dX7_kinds_50 : decode cX7_kinds 50 = .ok (.invokevirtual 250, 3) := by decide +kernel
theorem dX7_kinds_53 : decode cX7_kinds 53 = .ok (.ireturn, 1) := by decide +kernel
theorem dX7_count_0 : decode cX7_count 0 = .ok (.iload_n 1, 1) := by decide +kernel
theorem dX7_count_1 : decode cX7_count 1 = .ok (.tableswitch 123 0 8 #[51, 59, 67, 75, 83, 91, 99, 107, 115], 51) := by decide +kernel
theorem dX7_count_52 : decode cX7_count 52 = .ok (.aload_n 0, 1) := by decide +kernel
theorem dX7_count_53 : decode cX7_count 53 = .ok (.getfield 19, 3) := by decide +kernel
theorem dX7_count_56 : decode cX7_count 56 = .ok (.invokevirtual 257, 3) := by decide +kernel
theorem dX7_count_59 : decode cX7_count 59 = .ok (.ireturn, 1) := by decide +kernel
theorem dX7_count_60 : decode cX7_count 60 = .ok (.aload_n 0, 1) := by decide +kernel
theorem dX7_count_61 : decode cX7_count 61 = .ok (.getfield 19, 3) := by decide +kernel
theorem dX7_count_64 : decode cX7_count 64 = .ok (.invokevirtual 87, 3) := by decide +kernel
theorem dX7_count_67 : decode cX7_count 67 = .ok (.ireturn, 1) := by decide +kernel
theorem dX7_count_68 : decode cX7_count 68 = .ok (.aload_n 0, 1) := by decide +kernel
theorem dX7_count_69 : decode cX7_count 69 = .ok (.getfield 19, 3) := by decide +kernel
theorem dX7_count_72 : decode cX7_count 72 = .ok (.invokevirtual 260, 3) := by decide +kernel
theorem dX7_count_75 : decode cX7_count 75 = .ok (.ireturn, 1) := by decide +kernel
theorem dX7_count_76 : decode cX7_count 76 = .ok (.aload_n 0, 1) := by decide +kernel
theorem dX7_count_77 : decode cX7_count 77 = .ok (.getfield 19, 3) := by decide +kernel
theorem dX7_count_80 : decode cX7_count 80 = .ok (.invokevirtual 118, 3) := by decide +kernel
theorem dX7_count_83 : decode cX7_count 83 = .ok (.ireturn, 1) := by decide +kernel
theorem dX7_count_84 : decode cX7_count 84 = .ok (.aload_n 0, 1) := by decide +kernel
theorem dX7_count_85 : decode cX7_count 85 = .ok (.getfield 19, 3) := by decide +kernel
theorem dX7_count_88 : decode cX7_count 88 = .ok (.invokevirtual 263, 3) := by decide +kernel
theorem dX7_count_91 : decode cX7_count 91 = .ok (.ireturn, 1) := by decide +kernel
theorem dX7_count_92 : decode cX7_count 92 = .ok (.aload_n 0, 1) := by decide +kernel
theorem dX7_count_93 : decode cX7_count 93 = .ok (.getfield 19, 3) := by decide +kernel
theorem dX7_count_96 : decode cX7_count 96 = .ok (.invokevirtual 199, 3) := by decide +kernel
theorem dX7_count_99 : decode cX7_count 99 = .ok (.ireturn, 1) := by decide +kernel
theorem dX7_count_100 : decode cX7_count 100 = .ok (.aload_n 0, 1) := by decide +kernel
theorem dX7_count_101 : decode cX7_count 101 = .ok (.getfield 19, 3) := by decide +kernel
theorem dX7_count_104 : decode cX7_count 104 = .ok (.invokevirtual 266, 3) := by decide +kernel
theorem dX7_count_107 : decode cX7_count 107 = .ok (.ireturn, 1) := by decide +kernel
theorem dX7_count_108 : decode cX7_count 108 = .ok (.aload_n 0, 1) := by decide +kernel
theorem dX7_count_109 : decode cX7_count 109 = .ok (.getfield 29, 3) := by decide +kernel
theorem dX7_count_112 : decode cX7_count 112 = .ok (.invokevirtual 146, 3) := by decide +kernel
theorem dX7_count_115 : decode cX7_count 115 = .ok (.ireturn, 1) := by decide +kernel
theorem dX7_count_116 : decode cX7_count 116 = .ok (.aload_n 0, 1) := by decide +kernel
theorem dX7_count_117 : decode cX7_count 117 = .ok (.getfield 10, 3) := by decide +kernel
theorem dX7_count_120 : decode cX7_count 120 = .ok (.invokevirtual 69, 3) := by decide +kernel
theorem dX7_count_123 : decode cX7_count 123 = .ok (.ireturn, 1) := by decide +kernel
theorem dX7_count_124 : decode cX7_count 124 = .ok (.iconst (-1), 1) := by decide +kernel
theorem dX7_count_125 : decode cX7_count 125 = .ok (.ireturn, 1) := by decide +kernel
theorem dX7_refuseCarrying_0 : decode cX7_refuseCarrying 0 = .ok (.aload_n 0, 1) := by decide +kernel
theorem dX7_refuseCarrying_1 : decode cX7_refuseCarrying 1 = .ok (.getfield 19, 3) := by decide +kernel
theorem dX7_refuseCarrying_4 : decode cX7_refuseCarrying 4 = .ok (.iload_n 1, 1) := by decide +kernel
theorem dX7_refuseCarrying_5 : decode cX7_refuseCarrying 5 = .ok (.invokevirtual 105, 3) := by decide +kernel
theorem dX7_refuseCarrying_8 : decode cX7_refuseCarrying 8 = .ok (.ifCond .eq 14, 3) := by decide +kernel
theorem dX7_refuseCarrying_11 : decode cX7_refuseCarrying 11 = .ok (.aload_n 0, 1) := by decide +kernel
theorem dX7_refuseCarrying_12 : decode cX7_refuseCarrying 12 = .ok (.getfield 19, 3) := by decide +kernel
theorem dX7_refuseCarrying_15 : decode cX7_refuseCarrying 15 = .ok (.iload_n 2, 1) := by decide +kernel
theorem dX7_refuseCarrying_16 : decode cX7_refuseCarrying 16 = .ok (.invokevirtual 90, 3) := by decide +kernel
theorem dX7_refuseCarrying_19 : decode cX7_refuseCarrying 19 = .ok (.ifCond .ne 5, 3) := by decide +kernel
theorem dX7_refuseCarrying_22 : decode cX7_refuseCarrying 22 = .ok (.iconst (-1), 1) := by decide +kernel
theorem dX7_refuseCarrying_23 : decode cX7_refuseCarrying 23 = .ok (.ireturn, 1) := by decide +kernel
theorem dX7_refuseCarrying_24 : decode cX7_refuseCarrying 24 = .ok (.aload_n 0, 1) := by decide +kernel
theorem dX7_refuseCarrying_25 : decode cX7_refuseCarrying 25 = .ok (.getfield 19, 3) := by decide +kernel
theorem dX7_refuseCarrying_28 : decode cX7_refuseCarrying 28 = .ok (.iload_n 1, 1) := by decide +kernel
theorem dX7_refuseCarrying_29 : decode cX7_refuseCarrying 29 = .ok (.iload_n 2, 1) := by decide +kernel
theorem dX7_refuseCarrying_30 : decode cX7_refuseCarrying 30 = .ok (.invokevirtual 269, 3) := by decide +kernel
theorem dX7_refuseCarrying_33 : decode cX7_refuseCarrying 33 = .ok (.ifCond .eq 7, 3) := by decide +kernel
theorem dX7_refuseCarrying_36 : decode cX7_refuseCarrying 36 = .ok (.iconst 0, 1) := by decide +kernel
theorem dX7_refuseCarrying_37 : decode cX7_refuseCarrying 37 = .ok (.goto 5, 3) := by decide +kernel
theorem dX7_refuseCarrying_40 : decode cX7_refuseCarrying 40 = .ok (.bipush (-2), 2) := by decide +kernel
theorem dX7_refuseCarrying_42 : decode cX7_refuseCarrying 42 = .ok (.ireturn, 1) := by decide +kernel
theorem dX7_change_0 : decode cX7_change 0 = .ok (.aload_n 0, 1) := by decide +kernel
theorem dX7_change_1 : decode cX7_change 1 = .ok (.getfield 19, 3) := by decide +kernel
theorem dX7_change_4 : decode cX7_change 4 = .ok (.iload_n 1, 1) := by decide +kernel
theorem dX7_change_5 : decode cX7_change 5 = .ok (.iload_n 2, 1) := by decide +kernel
theorem dX7_change_6 : decode cX7_change 6 = .ok (.invokevirtual 93, 3) := by decide +kernel
theorem dX7_change_9 : decode cX7_change 9 = .ok (.istore 4, 2) := by decide +kernel
theorem dX7_change_11 : decode cX7_change 11 = .ok (.iload 4, 2) := by decide +kernel
theorem dX7_change_13 : decode cX7_change 13 = .ok (.iload_n 3, 1) := by decide +kernel
theorem dX7_change_14 : decode cX7_change 14 = .ok (.if_icmp .ne 6, 3) := by decide +kernel
theorem dX7_change_17 : decode cX7_change 17 = .ok (.bipush (-2), 2) := by decide +kernel
theorem dX7_change_19 : decode cX7_change 19 = .ok (.ireturn, 1) := by decide +kernel
theorem dX7_change_20 : decode cX7_change 20 = .ok (.aload_n 0, 1) := by decide +kernel
theorem dX7_change_21 : decode cX7_change 21 = .ok (.getfield 29, 3) := by decide +kernel
theorem dX7_change_24 : decode cX7_change 24 = .ok (.aload_n 0, 1) := by decide +kernel
theorem dX7_change_25 : decode cX7_change 25 = .ok (.getfield 19, 3) := by decide +kernel
theorem dX7_change_28 : decode cX7_change 28 = .ok (.invokevirtual 121, 3) := by decide +kernel
theorem dX7_change_31 : decode cX7_change 31 = .ok (.aload_n 0, 1) := by decide +kernel
theorem dX7_change_32 : decode cX7_change 32 = .ok (.getfield 19, 3) := by decide +kernel
theorem dX7_change_35 : decode cX7_change 35 = .ok (.iload_n 1, 1) := by decide +kernel
theorem dX7_change_36 : decode cX7_change 36 = .ok (.iload_n 2, 1) := by decide +kernel
theorem dX7_change_37 : decode cX7_change 37 = .ok (.iload_n 3, 1) := by decide +kernel
theorem dX7_change_38 : decode cX7_change 38 = .ok (.invokevirtual 272, 3) := by decide +kernel
theorem dX7_change_41 : decode cX7_change 41 = .ok (.iload 4, 2) := by decide +kernel
theorem dX7_change_43 : decode cX7_change 43 = .ok (.ireturn, 1) := by decide +kernel
theorem dX7_imageAt_0 : decode cX7_imageAt 0 = .ok (.iload_n 1, 1) := by decide +kernel
theorem dX7_imageAt_1 : decode cX7_imageAt 1 = .ok (.ifCond .lt 12, 3) := by decide +kernel
theorem dX7_imageAt_4 : decode cX7_imageAt 4 = .ok (.iload_n 1, 1) := by decide +kernel
theorem dX7_imageAt_5 : decode cX7_imageAt 5 = .ok (.aload_n 0, 1) := by decide +kernel
theorem dX7_imageAt_6 : decode cX7_imageAt 6 = .ok (.getfield 33, 3) := by decide +kernel
theorem dX7_imageAt_9 : decode cX7_imageAt 9 = .ok (.arraylength, 1) := by decide +kernel
theorem dX7_imageAt_10 : decode cX7_imageAt 10 = .ok (.if_icmp .lt 7, 3) := by decide +kernel
theorem dX7_imageAt_13 : decode cX7_imageAt 13 = .ok (.aconst_null, 1) := by decide +kernel
theorem dX7_imageAt_14 : decode cX7_imageAt 14 = .ok (.goto 9, 3) := by decide +kernel
theorem dX7_imageAt_17 : decode cX7_imageAt 17 = .ok (.aload_n 0, 1) := by decide +kernel
theorem dX7_imageAt_18 : decode cX7_imageAt 18 = .ok (.getfield 33, 3) := by decide +kernel
theorem dX7_imageAt_21 : decode cX7_imageAt 21 = .ok (.iload_n 1, 1) := by decide +kernel
theorem dX7_imageAt_22 : decode cX7_imageAt 22 = .ok (.aaload, 1) := by decide +kernel
theorem dX7_imageAt_23 : decode cX7_imageAt 23 = .ok (.areturn, 1) := by decide +kernel
theorem dX7_sheetAt_0 : decode cX7_sheetAt 0 = .ok (.iload_n 1, 1) := by decide +kernel
theorem dX7_sheetAt_1 : decode cX7_sheetAt 1 = .ok (.ifCond .lt 12, 3) := by decide +kernel
theorem dX7_sheetAt_4 : decode cX7_sheetAt 4 = .ok (.iload_n 1, 1) := by decide +kernel
theorem dX7_sheetAt_5 : decode cX7_sheetAt 5 = .ok (.aload_n 0, 1) := by decide +kernel
theorem dX7_sheetAt_6 : decode cX7_sheetAt 6 = .ok (.getfield 40, 3) := by decide +kernel
theorem dX7_sheetAt_9 : decode cX7_sheetAt 9 = .ok (.arraylength, 1) := by decide +kernel
theorem dX7_sheetAt_10 : decode cX7_sheetAt 10 = .ok (.if_icmp .lt 7, 3) := by decide +kernel
theorem dX7_sheetAt_13 : decode cX7_sheetAt 13 = .ok (.aconst_null, 1) := by decide +kernel
theorem dX7_sheetAt_14 : decode cX7_sheetAt 14 = .ok (.goto 9, 3) := by decide +kernel
theorem dX7_sheetAt_17 : decode cX7_sheetAt 17 = .ok (.aload_n 0, 1) := by decide +kernel
theorem dX7_sheetAt_18 : decode cX7_sheetAt 18 = .ok (.getfield 40, 3) := by decide +kernel
theorem dX7_sheetAt_21 : decode cX7_sheetAt 21 = .ok (.iload_n 1, 1) := by decide +kernel
theorem dX7_sheetAt_22 : decode cX7_sheetAt 22 = .ok (.aaload, 1) := by decide +kernel
theorem dX7_sheetAt_23 : decode cX7_sheetAt 23 = .ok (.areturn, 1) := by decide +kernel
theorem dX7_isLane_0 : decode cX7_isLane 0 = .ok (.iload_n 0, 1) := by decide +kernel
theorem dX7_isLane_1 : decode cX7_isLane 1 = .ok (.ifCond .lt 12, 3) := by decide +kernel
theorem dX7_isLane_4 : decode cX7_isLane 4 = .ok (.iload_n 0, 1) := by decide +kernel
theorem dX7_isLane_5 : decode cX7_isLane 5 = .ok (.iconst 4, 1) := by decide +kernel
theorem dX7_isLane_6 : decode cX7_isLane 6 = .ok (.if_icmp .ge 7, 3) := by decide +kernel
theorem dX7_isLane_9 : decode cX7_isLane 9 = .ok (.iconst 1, 1) := by decide +kernel
theorem dX7_isLane_10 : decode cX7_isLane 10 = .ok (.goto 4, 3) := by decide +kernel
theorem dX7_isLane_13 : decode cX7_isLane 13 = .ok (.iconst 0, 1) := by decide +kernel
theorem dX7_isLane_14 : decode cX7_isLane 14 = .ok (.ireturn, 1) := by decide +kernel
theorem dX7_refuseRow_0 : decode cX7_refuseRow 0 = .ok (.aload_n 0, 1) := by decide +kernel
theorem dX7_refuseRow_1 : decode cX7_refuseRow 1 = .ok (.ifnull 10, 3) := by decide +kernel
theorem dX7_refuseRow_4 : decode cX7_refuseRow 4 = .ok (.iload_n 1, 1) := by decide +kernel
theorem dX7_refuseRow_5 : decode cX7_refuseRow 5 = .ok (.invokestatic 206, 3) := by decide +kernel
theorem dX7_refuseRow_8 : decode cX7_refuseRow 8 = .ok (.ifCond .ne 5, 3) := by decide +kernel
theorem dX7_refuseRow_11 : decode cX7_refuseRow 11 = .ok (.iconst (-1), 1) := by decide +kernel
theorem dX7_refuseRow_12 : decode cX7_refuseRow 12 = .ok (.ireturn, 1) := by decide +kernel
theorem dX7_refuseRow_13 : decode cX7_refuseRow 13 = .ok (.aload_n 0, 1) := by decide +kernel
theorem dX7_refuseRow_14 : decode cX7_refuseRow 14 = .ok (.invokevirtual 213, 3) := by decide +kernel
theorem dX7_refuseRow_17 : decode cX7_refuseRow 17 = .ok (.ifCond .eq 6, 3) := by decide +kernel
theorem dX7_refuseRow_20 : decode cX7_refuseRow 20 = .ok (.bipush (-11), 2) := by decide +kernel
theorem dX7_refuseRow_22 : decode cX7_refuseRow 22 = .ok (.ireturn, 1) := by decide +kernel
theorem dX7_refuseRow_23 : decode cX7_refuseRow 23 = .ok (.aload_n 0, 1) := by decide +kernel
theorem dX7_refuseRow_24 : decode cX7_refuseRow 24 = .ok (.invokevirtual 235, 3) := by decide +kernel
theorem dX7_refuseRow_27 : decode cX7_refuseRow 27 = .ok (.iload_n 1, 1) := by decide +kernel
theorem dX7_refuseRow_28 : decode cX7_refuseRow 28 = .ok (.if_icmp .ne 7, 3) := by decide +kernel
theorem dX7_refuseRow_31 : decode cX7_refuseRow 31 = .ok (.iconst 0, 1) := by decide +kernel
theorem dX7_refuseRow_32 : decode cX7_refuseRow 32 = .ok (.goto 5, 3) := by decide +kernel
theorem dX7_refuseRow_35 : decode cX7_refuseRow 35 = .ok (.bipush (-12), 2) := by decide +kernel
theorem dX7_refuseRow_37 : decode cX7_refuseRow 37 = .ok (.ireturn, 1) := by decide +kernel
theorem dX7_refusePairs_0 : decode cX7_refusePairs 0 = .ok (.aload_n 0, 1) := by decide +kernel
theorem dX7_refusePairs_1 : decode cX7_refusePairs 1 = .ok (.getfield 19, 3) := by decide +kernel
theorem dX7_refusePairs_4 : decode cX7_refusePairs 4 = .ok (.iload_n 1, 1) := by decide +kernel
theorem dX7_refusePairs_5 : decode cX7_refusePairs 5 = .ok (.invokevirtual 90, 3) := by decide +kernel
theorem dX7_refusePairs_8 : decode cX7_refusePairs 8 = .ok (.ifCond .eq 27, 3) := by decide +kernel
theorem dX7_refusePairs_11 : decode cX7_refusePairs 11 = .ok (.iload 5, 2) := by decide +kernel
theorem dX7_refusePairs_13 : decode cX7_refusePairs 13 = .ok (.iconst 1, 1) := by decide +kernel
theorem dX7_refusePairs_14 : decode cX7_refusePairs 14 = .ok (.if_icmp .lt 21, 3) := by decide +kernel
theorem dX7_refusePairs_17 : decode cX7_refusePairs 17 = .ok (.iload 5, 2) := by decide +kernel
theorem dX7_refusePairs_19 : decode cX7_refusePairs 19 = .ok (.bipush 10, 2) := by decide +kernel
theorem dX7_refusePairs_21 : decode cX7_refusePairs 21 = .ok (.if_icmp .gt 14, 3) := by decide +kernel
theorem dX7_refusePairs_24 : decode cX7_refusePairs 24 = .ok (.iload 6, 2) := by decide +kernel
theorem dX7_refusePairs_26 : decode cX7_refusePairs 26 = .ok (.ifCond .lt 9, 3) := by decide +kernel
theorem dX7_refusePairs_29 : decode cX7_refusePairs 29 = .ok (.iload 6, 2) := by decide +kernel
theorem dX7_refusePairs_31 : decode cX7_refusePairs 31 = .ok (.iconst 1, 1) := by decide +kernel
theorem dX7_refusePairs_32 : decode cX7_refusePairs 32 = .ok (.if_icmp .le 5, 3) := by decide +kernel
theorem dX7_refusePairs_35 : decode cX7_refusePairs 35 = .ok (.iconst (-1), 1) := by decide +kernel
theorem dX7_refusePairs_36 : decode cX7_refusePairs 36 = .ok (.ireturn, 1) := by decide +kernel
theorem dX7_refusePairs_37 : decode cX7_refusePairs 37 = .ok (.aload_n 0, 1) := by decide +kernel
theorem dX7_refusePairs_38 : decode cX7_refusePairs 38 = .ok (.iload_n 2, 1) := by decide +kernel
theorem dX7_refusePairs_39 : decode cX7_refusePairs 39 = .ok (.invokevirtual 202, 3) := by decide +kernel
theorem dX7_refusePairs_42 : decode cX7_refusePairs 42 = .ok (.astore 7, 2) := by decide +kernel
theorem dX7_refusePairs_44 : decode cX7_refusePairs 44 = .ok (.aload 7, 2) := by decide +kernel
theorem dX7_refusePairs_46 : decode cX7_refusePairs 46 = .ok (.iload_n 3, 1) := by decide +kernel
theorem dX7_refusePairs_47 : decode cX7_refusePairs 47 = .ok (.invokestatic 218, 3) := by decide +kernel
theorem dX7_refusePairs_50 : decode cX7_refusePairs 50 = .ok (.istore 8, 2) := by decide +kernel
theorem dX7_refusePairs_52 : decode cX7_refusePairs 52 = .ok (.iload 8, 2) := by decide +kernel
theorem dX7_refusePairs_54 : decode cX7_refusePairs 54 = .ok (.ifCond .ne 8, 3) := by decide +kernel
theorem dX7_refusePairs_57 : decode cX7_refusePairs 57 = .ok (.aload 7, 2) := by decide +kernel
theorem dX7_refusePairs_59 : decode cX7_refusePairs 59 = .ok (.ifnonnull 6, 3) := by decide +kernel
theorem dX7_refusePairs_62 : decode cX7_refusePairs 62 = .ok (.iload 8, 2) := by decide +kernel
theorem dX7_refusePairs_64 : decode cX7_refusePairs 64 = .ok (.ireturn, 1) := by decide +kernel
theorem dX7_refusePairs_65 : decode cX7_refusePairs 65 = .ok (.aload 7, 2) := by decide +kernel
theorem dX7_refusePairs_67 : decode cX7_refusePairs 67 = .ok (.iload 4, 2) := by decide +kernel
theorem dX7_refusePairs_69 : decode cX7_refusePairs 69 = .ok (.iconst 2, 1) := by decide +kernel
theorem dX7_refusePairs_70 : decode cX7_refusePairs 70 = .ok (.iload 5, 2) := by decide +kernel
theorem dX7_refusePairs_72 : decode cX7_refusePairs 72 = .ok (.imul, 1) := by decide +kernel
theorem dX7_refusePairs_73 : decode cX7_refusePairs 73 = .ok (.invokevirtual 222, 3) := by decide +kernel
theorem dX7_refusePairs_76 : decode cX7_refusePairs 76 = .ok (.ifCond .ne 6, 3) := by decide +kernel
theorem dX7_refusePairs_79 : decode cX7_refusePairs 79 = .ok (.bipush (-13), 2) := by decide +kernel
theorem dX7_refusePairs_81 : decode cX7_refusePairs 81 = .ok (.ireturn, 1) := by decide +kernel
theorem dX7_refusePairs_82 : decode cX7_refusePairs 82 = .ok (.iconst 0, 1) := by decide +kernel
theorem dX7_refusePairs_83 : decode cX7_refusePairs 83 = .ok (.istore 9, 2) := by decide +kernel
theorem dX7_refusePairs_85 : decode cX7_refusePairs 85 = .ok (.iload 9, 2) := by decide +kernel
theorem dX7_refusePairs_87 : decode cX7_refusePairs 87 = .ok (.iload 5, 2) := by decide +kernel
theorem dX7_refusePairs_89 : decode cX7_refusePairs 89 = .ok (.if_icmp .ge 42, 3) := by decide +kernel
theorem dX7_refusePairs_92 : decode cX7_refusePairs 92 = .ok (.aload 7, 2) := by decide +kernel
theorem dX7_refusePairs_94 : decode cX7_refusePairs 94 = .ok (.iload 4, 2) := by decide +kernel
theorem dX7_refusePairs_96 : decode cX7_refusePairs 96 = .ok (.iconst 2, 1) := by decide +kernel
theorem dX7_refusePairs_97 : decode cX7_refusePairs 97 = .ok (.iload 9, 2) := by decide +kernel
theorem dX7_refusePairs_99 : decode cX7_refusePairs 99 = .ok (.imul, 1) := by decide +kernel
theorem dX7_refusePairs_100 : decode cX7_refusePairs 100 = .ok (.iadd, 1) := by decide +kernel
theorem dX7_refusePairs_101 : decode cX7_refusePairs 101 = .ok (.invokevirtual 231, 3) := by decide +kernel
theorem dX7_refusePairs_104 : decode cX7_refusePairs 104 = .ok (.lstore 10, 2) := by decide +kernel
theorem dX7_refusePairs_106 : decode cX7_refusePairs 106 = .ok (.lload 10, 2) := by decide +kernel
theorem dX7_refusePairs_108 : decode cX7_refusePairs 108 = .ok (.lconst 0, 1) := by decide +kernel
theorem dX7_refusePairs_109 : decode cX7_refusePairs 109 = .ok (.lcmp, 1) := by decide +kernel
theorem dX7_refusePairs_110 : decode cX7_refusePairs 110 = .ok (.ifCond .lt 12, 3) := by decide +kernel
theorem dX7_refusePairs_113 : decode cX7_refusePairs 113 = .ok (.lload 10, 2) := by decide +kernel
theorem dX7_refusePairs_115 : decode cX7_refusePairs 115 = .ok (.ldc2_w 275, 3) := by decide +kernel
theorem dX7_refusePairs_118 : decode cX7_refusePairs 118 = .ok (.lcmp, 1) := by decide +kernel
theorem dX7_refusePairs_119 : decode cX7_refusePairs 119 = .ok (.ifCond .le 6, 3) := by decide +kernel
theorem dX7_refusePairs_122 : decode cX7_refusePairs 122 = .ok (.bipush (-2), 2) := by decide +kernel
theorem dX7_refusePairs_124 : decode cX7_refusePairs 124 = .ok (.ireturn, 1) := by decide +kernel
theorem dX7_refusePairs_125 : decode cX7_refusePairs 125 = .ok (.iinc 9 1, 3) := by decide +kernel
theorem dX7_refusePairs_128 : decode cX7_refusePairs 128 = .ok (.goto (-43), 3) := by decide +kernel
theorem dX7_refusePairs_131 : decode cX7_refusePairs 131 = .ok (.iconst 0, 1) := by decide +kernel
theorem dX7_refusePairs_132 : decode cX7_refusePairs 132 = .ok (.ireturn, 1) := by decide +kernel
theorem dX7_isUnder_0 : decode cX7_isUnder 0 = .ok (.iload_n 0, 1) := by decide +kernel
theorem dX7_isUnder_1 : decode cX7_isUnder 1 = .ok (.istore_n 2, 1) := by decide +kernel
theorem dX7_isUnder_2 : decode cX7_isUnder 2 = .ok (.iconst 0, 1) := by decide +kernel
theorem dX7_isUnder_3 : decode cX7_isUnder 3 = .ok (.istore_n 3, 1) := by decide +kernel
theorem dX7_isUnder_4 : decode cX7_isUnder 4 = .ok (.iload_n 3, 1) := by decide +kernel
theorem dX7_isUnder_5 : decode cX7_isUnder 5 = .ok (.getstatic 97, 3) := by decide +kernel
theorem dX7_isUnder_8 : decode cX7_isUnder 8 = .ok (.arraylength, 1) := by decide +kernel
theorem dX7_isUnder_9 : decode cX7_isUnder 9 = .ok (.if_icmp .ge 34, 3) := by decide +kernel
theorem dX7_isUnder_12 : decode cX7_isUnder 12 = .ok (.iload_n 2, 1) := by decide +kernel
theorem dX7_isUnder_13 : decode cX7_isUnder 13 = .ok (.ifCond .lt 30, 3) := by decide +kernel
theorem dX7_isUnder_16 : decode cX7_isUnder 16 = .ok (.iload_n 2, 1) := by decide +kernel
theorem dX7_isUnder_17 : decode cX7_isUnder 17 = .ok (.getstatic 97, 3) := by decide +kernel
theorem dX7_isUnder_20 : decode cX7_isUnder 20 = .ok (.arraylength, 1) := by decide +kernel
theorem dX7_isUnder_21 : decode cX7_isUnder 21 = .ok (.if_icmp .ge 22, 3) := by decide +kernel
theorem dX7_isUnder_24 : decode cX7_isUnder 24 = .ok (.iload_n 2, 1) := by decide +kernel
theorem dX7_isUnder_25 : decode cX7_isUnder 25 = .ok (.iload_n 1, 1) := by decide +kernel
theorem dX7_isUnder_26 : decode cX7_isUnder 26 = .ok (.if_icmp .ne 5, 3) := by decide +kernel
theorem dX7_isUnder_29 : decode cX7_isUnder 29 = .ok (.iconst 1, 1) := by decide +kernel
theorem dX7_isUnder_30 : decode cX7_isUnder 30 = .ok (.ireturn, 1) := by decide +kernel
theorem dX7_isUnder_31 : decode cX7_isUnder 31 = .ok (.getstatic 97, 3) := by decide +kernel
theorem dX7_isUnder_34 : decode cX7_isUnder 34 = .ok (.iload_n 2, 1) := by decide +kernel
theorem dX7_isUnder_35 : decode cX7_isUnder 35 = .ok (.iaload, 1) := by decide +kernel
theorem dX7_isUnder_36 : decode cX7_isUnder 36 = .ok (.istore_n 2, 1) := by decide +kernel
theorem dX7_isUnder_37 : decode cX7_isUnder 37 = .ok (.iinc 3 1, 3) := by decide +kernel
theorem dX7_isUnder_40 : decode cX7_isUnder 40 = .ok (.goto (-36), 3) := by decide +kernel
theorem dX7_isUnder_43 : decode cX7_isUnder 43 = .ok (.iconst 0, 1) := by decide +kernel
theorem dX7_isUnder_44 : decode cX7_isUnder 44 = .ok (.ireturn, 1) := by decide +kernel
theorem dX7_sayingOf_0 : decode cX7_sayingOf 0 = .ok (.iload_n 0, 1) := by decide +kernel
theorem dX7_sayingOf_1 : decode cX7_sayingOf 1 = .ok (.tableswitch 57 1 5 #[35, 37, 41, 45, 49], 35) := by decide +kernel
theorem dX7_sayingOf_36 : decode cX7_sayingOf 36 = .ok (.iload_n 1, 1) := by decide +kernel
theorem dX7_sayingOf_37 : decode cX7_sayingOf 37 = .ok (.ireturn, 1) := by decide +kernel
theorem dX7_sayingOf_38 : decode cX7_sayingOf 38 = .ok (.iload_n 1, 1) := by decide +kernel
theorem dX7_sayingOf_39 : decode cX7_sayingOf 39 = .ok (.iconst 2, 1) := by decide +kernel
theorem dX7_sayingOf_40 : decode cX7_sayingOf 40 = .ok (.iadd, 1) := by decide +kernel
theorem dX7_sayingOf_41 : decode cX7_sayingOf 41 = .ok (.ireturn, 1) := by decide +kernel
theorem dX7_sayingOf_42 : decode cX7_sayingOf 42 = .ok (.iload_n 1, 1) := by decide +kernel
theorem dX7_sayingOf_43 : decode cX7_sayingOf 43 = .ok (.iconst 2, 1) := by decide +kernel
theorem dX7_sayingOf_44 : decode cX7_sayingOf 44 = .ok (.idiv, 1) := by decide +kernel
theorem dX7_sayingOf_45 : decode cX7_sayingOf 45 = .ok (.ireturn, 1) := by decide +kernel
theorem dX7_sayingOf_46 : decode cX7_sayingOf 46 = .ok (.iload_n 2, 1) := by decide +kernel
theorem dX7_sayingOf_47 : decode cX7_sayingOf 47 = .ok (.iconst 2, 1) := by decide +kernel
theorem dX7_sayingOf_48 : decode cX7_sayingOf 48 = .ok (.iadd, 1) := by decide +kernel
theorem dX7_sayingOf_49 : decode cX7_sayingOf 49 = .ok (.ireturn, 1) := by decide +kernel
theorem dX7_sayingOf_50 : decode cX7_sayingOf 50 = .ok (.iload_n 1, 1) := by decide +kernel
theorem dX7_sayingOf_51 : decode cX7_sayingOf 51 = .ok (.iconst 2, 1) := by decide +kernel
theorem dX7_sayingOf_52 : decode cX7_sayingOf 52 = .ok (.iadd, 1) := by decide +kernel
theorem dX7_sayingOf_53 : decode cX7_sayingOf 53 = .ok (.iload_n 3, 1) := by decide +kernel
theorem dX7_sayingOf_54 : decode cX7_sayingOf 54 = .ok (.iconst 2, 1) := by decide +kernel
theorem dX7_sayingOf_55 : decode cX7_sayingOf 55 = .ok (.idiv, 1) := by decide +kernel
theorem dX7_sayingOf_56 : decode cX7_sayingOf 56 = .ok (.iadd, 1) := by decide +kernel
theorem dX7_sayingOf_57 : decode cX7_sayingOf 57 = .ok (.ireturn, 1) := by decide +kernel
theorem dX7_sayingOf_58 : decode cX7_sayingOf 58 = .ok (.iconst 0, 1) := by decide +kernel
theorem dX7_sayingOf_59 : decode cX7_sayingOf 59 = .ok (.ireturn, 1) := by decide +kernel
theorem dX7_stingOf_0 : decode cX7_stingOf 0 = .ok (.iload_n 0, 1) := by decide +kernel
theorem dX7_stingOf_1 : decode cX7_stingOf 1 = .ok (.tableswitch 31 1 3 #[27, 27, 29], 27) := by decide +kernel
theorem dX7_stingOf_28 : decode cX7_stingOf 28 = .ok (.iconst 1, 1) := by decide +kernel
theorem dX7_stingOf_29 : decode cX7_stingOf 29 = .ok (.ireturn, 1) := by decide +kernel
theorem dX7_stingOf_30 : decode cX7_stingOf 30 = .ok (.iconst 2, 1) := by decide +kernel
theorem dX7_stingOf_31 : decode cX7_stingOf 31 = .ok (.ireturn, 1) := by decide +kernel
theorem dX7_stingOf_32 : decode cX7_stingOf 32 = .ok (.iconst 0, 1) := by decide +kernel
theorem dX7_stingOf_33 : decode cX7_stingOf 33 = .ok (.ireturn, 1) := by decide +kernel
theorem dX7_isBarred_0 : decode cX7_isBarred 0 = .ok (.iload_n 0, 1) := by decide +kernel
theorem dX7_isBarred_1 : decode cX7_isBarred 1 = .ok (.iconst 4, 1) := by decide +kernel
theorem dX7_isBarred_2 : decode cX7_isBarred 2 = .ok (.if_icmp .gt 7, 3) := by decide +kernel
theorem dX7_isBarred_5 : decode cX7_isBarred 5 = .ok (.iconst 1, 1) := by decide +kernel
theorem dX7_isBarred_6 : decode cX7_isBarred 6 = .ok (.goto 4, 3) := by decide +kernel
theorem dX7_isBarred_9 : decode cX7_isBarred 9 = .ok (.iconst 0, 1) := by decide +kernel
theorem dX7_isBarred_10 : decode cX7_isBarred 10 = .ok (.iload_n 1, 1) := by decide +kernel
theorem dX7_isBarred_11 : decode cX7_isBarred 11 = .ok (.iconst 4, 1) := by decide +kernel
theorem dX7_isBarred_12 : decode cX7_isBarred 12 = .ok (.if_icmp .gt 7, 3) := by decide +kernel
theorem dX7_isBarred_15 : decode cX7_isBarred 15 = .ok (.iconst 1, 1) := by decide +kernel
theorem dX7_isBarred_16 : decode cX7_isBarred 16 = .ok (.goto 4, 3) := by decide +kernel
theorem dX7_isBarred_19 : decode cX7_isBarred 19 = .ok (.iconst 0, 1) := by decide +kernel
theorem dX7_isBarred_20 : decode cX7_isBarred 20 = .ok (.if_icmp .eq 7, 3) := by decide +kernel
theorem dX7_isBarred_23 : decode cX7_isBarred 23 = .ok (.iconst 1, 1) := by decide +kernel
theorem dX7_isBarred_24 : decode cX7_isBarred 24 = .ok (.goto 4, 3) := by decide +kernel
theorem dX7_isBarred_27 : decode cX7_isBarred 27 = .ok (.iconst 0, 1) := by decide +kernel
theorem dX7_isBarred_28 : decode cX7_isBarred 28 = .ok (.istore_n 3, 1) := by decide +kernel
theorem dX7_isBarred_29 : decode cX7_isBarred 29 = .ok (.iload_n 3, 1) := by decide +kernel
theorem dX7_isBarred_30 : decode cX7_isBarred 30 = .ok (.ifCond .eq 13, 3) := by decide +kernel
theorem dX7_isBarred_33 : decode cX7_isBarred 33 = .ok (.iload_n 2, 1) := by decide +kernel
theorem dX7_isBarred_34 : decode cX7_isBarred 34 = .ok (.iconst 2, 1) := by decide +kernel
theorem dX7_isBarred_35 : decode cX7_isBarred 35 = .ok (.irem, 1) := by decide +kernel
theorem dX7_isBarred_36 : decode cX7_isBarred 36 = .ok (.ifCond .eq 7, 3) := by decide +kernel
theorem dX7_isBarred_39 : decode cX7_isBarred 39 = .ok (.iconst 1, 1) := by decide +kernel
theorem dX7_isBarred_40 : decode cX7_isBarred 40 = .ok (.goto 4, 3) := by decide +kernel
theorem dX7_isBarred_43 : decode cX7_isBarred 43 = .ok (.iconst 0, 1) := by decide +kernel
theorem dX7_isBarred_44 : decode cX7_isBarred 44 = .ok (.ireturn, 1) := by decide +kernel
theorem dX7_daysToReach_0 : decode cX7_daysToReach 0 = .ok (.iconst 1, 1) := by decide +kernel
theorem dX7_daysToReach_1 : decode cX7_daysToReach 1 = .ok (.iload_n 0, 1) := by decide +kernel
theorem dX7_daysToReach_2 : decode cX7_daysToReach 2 = .ok (.ishl, 1) := by decide +kernel
theorem dX7_daysToReach_3 : decode cX7_daysToReach 3 = .ok (.istore_n 3, 1) := by decide +kernel
theorem dX7_daysToReach_4 : decode cX7_daysToReach 4 = .ok (.iconst 0, 1) := by decide +kernel
theorem dX7_daysToReach_5 : decode cX7_daysToReach 5 = .ok (.istore 4, 2) := by decide +kernel
theorem dX7_daysToReach_7 : decode cX7_daysToReach 7 = .ok (.iload 4, 2) := by decide +kernel
theorem dX7_daysToReach_9 : decode cX7_daysToReach 9 = .ok (.bipush 18, 2) := by decide +kernel
theorem dX7_daysToReach_11 : decode cX7_daysToReach 11 = .ok (.if_icmp .ge 29, 3) := by decide +kernel
theorem dX7_daysToReach_14 : decode cX7_daysToReach 14 = .ok (.iload_n 3, 1) := by decide +kernel
theorem dX7_daysToReach_15 : decode cX7_daysToReach 15 = .ok (.iload_n 1, 1) := by decide +kernel
theorem dX7_daysToReach_16 : decode cX7_daysToReach 16 = .ok (.ishr, 1) := by decide +kernel
theorem dX7_daysToReach_17 : decode cX7_daysToReach 17 = .ok (.iconst 1, 1) := by decide +kernel
theorem dX7_daysToReach_18 : decode cX7_daysToReach 18 = .ok (.iand, 1) := by decide +kernel
theorem dX7_daysToReach_19 : decode cX7_daysToReach 19 = .ok (.ifCond .eq 6, 3) := by decide +kernel
theorem dX7_daysToReach_22 : decode cX7_daysToReach 22 = .ok (.iload 4, 2) := by decide +kernel
theorem dX7_daysToReach_24 : decode cX7_daysToReach 24 = .ok (.ireturn, 1) := by decide +kernel
theorem dX7_daysToReach_25 : decode cX7_daysToReach 25 = .ok (.iload_n 3, 1) := by decide +kernel
theorem dX7_daysToReach_26 : decode cX7_daysToReach 26 = .ok (.iload_n 2, 1) := by decide +kernel
theorem dX7_daysToReach_27 : decode cX7_daysToReach 27 = .ok (.iload 4, 2) := by decide +kernel
theorem dX7_daysToReach_29 : decode cX7_daysToReach 29 = .ok (.iadd, 1) := by decide +kernel
theorem dX7_daysToReach_30 : decode cX7_daysToReach 30 = .ok (.invokestatic 277, 3) := by decide +kernel
theorem dX7_daysToReach_33 : decode cX7_daysToReach 33 = .ok (.istore_n 3, 1) := by decide +kernel
theorem dX7_daysToReach_34 : decode cX7_daysToReach 34 = .ok (.iinc 4 1, 3) := by decide +kernel
theorem dX7_daysToReach_37 : decode cX7_daysToReach 37 = .ok (.goto (-30), 3) := by decide +kernel
theorem dX7_daysToReach_40 : decode cX7_daysToReach 40 = .ok (.bipush (-4), 2) := by decide +kernel
theorem dX7_daysToReach_42 : decode cX7_daysToReach 42 = .ok (.ireturn, 1) := by decide +kernel
theorem dX7_reachedNext_0 : decode cX7_reachedNext 0 = .ok (.iconst 0, 1) := by decide +kernel
theorem dX7_reachedNext_1 : decode cX7_reachedNext 1 = .ok (.istore_n 2, 1) := by decide +kernel
theorem dX7_reachedNext_2 : decode cX7_reachedNext 2 = .ok (.iconst 0, 1) := by decide +kernel
theorem dX7_reachedNext_3 : decode cX7_reachedNext 3 = .ok (.istore_n 3, 1) := by decide +kernel
theorem dX7_reachedNext_4 : decode cX7_reachedNext 4 = .ok (.iload_n 3, 1) := by decide +kernel
theorem dX7_reachedNext_5 : decode cX7_reachedNext 5 = .ok (.bipush 9, 2) := by decide +kernel
theorem dX7_reachedNext_7 : decode cX7_reachedNext 7 = .ok (.if_icmp .gt 69, 3) := by decide +kernel
theorem dX7_reachedNext_10 : decode cX7_reachedNext 10 = .ok (.iload_n 0, 1) := by decide +kernel
theorem dX7_reachedNext_11 : decode cX7_reachedNext 11 = .ok (.iload_n 3, 1) := by decide +kernel
theorem dX7_reachedNext_12 : decode cX7_reachedNext 12 = .ok (.ishr, 1) := by decide +kernel
theorem dX7_reachedNext_13 : decode cX7_reachedNext 13 = .ok (.iconst 1, 1) := by decide +kernel
theorem dX7_reachedNext_14 : decode cX7_reachedNext 14 = .ok (.iand, 1) := by decide +kernel
theorem dX7_reachedNext_15 : decode cX7_reachedNext 15 = .ok (.ifCond .ne 6, 3) := by decide +kernel
theorem dX7_reachedNext_18 : decode cX7_reachedNext 18 = .ok (.goto 52, 3) := by decide +kernel
theorem dX7_reachedNext_21 : decode cX7_reachedNext 21 = .ok (.bipush 9, 2) := by decide +kernel
theorem dX7_reachedNext_23 : decode cX7_reachedNext 23 = .ok (.iload_n 3, 1) := by decide +kernel
theorem dX7_reachedNext_24 : decode cX7_reachedNext 24 = .ok (.iconst 3, 1) := by decide +kernel
theorem dX7_reachedNext_25 : decode cX7_reachedNext 25 = .ok (.iadd, 1) := by decide +kernel
theorem dX7_reachedNext_26 : decode cX7_reachedNext 26 = .ok (.invokestatic 280, 3) := by decide +kernel
theorem dX7_reachedNext_29 : decode cX7_reachedNext 29 = .ok (.istore 4, 2) := by decide +kernel
theorem dX7_reachedNext_31 : decode cX7_reachedNext 31 = .ok (.iconst 0, 1) := by decide +kernel
theorem dX7_reachedNext_32 : decode cX7_reachedNext 32 = .ok (.iload_n 3, 1) := by decide +kernel
theorem dX7_reachedNext_33 : decode cX7_reachedNext 33 = .ok (.iconst 3, 1) := by decide +kernel
theorem dX7_reachedNext_34 : decode cX7_reachedNext 34 = .ok (.isub, 1) := by decide +kernel
theorem dX7_reachedNext_35 : decode cX7_reachedNext 35 = .ok (.invokestatic 285, 3) := by decide +kernel
theorem dX7_reachedNext_38 : decode cX7_reachedNext 38 = .ok (.istore 5, 2) := by decide +kernel
theorem dX7_reachedNext_40 : decode cX7_reachedNext 40 = .ok (.iload 5, 2) := by decide +kernel
theorem dX7_reachedNext_42 : decode cX7_reachedNext 42 = .ok (.iload 4, 2) := by decide +kernel
theorem dX7_reachedNext_44 : decode cX7_reachedNext 44 = .ok (.if_icmp .gt 26, 3) := by decide +kernel
theorem dX7_reachedNext_47 : decode cX7_reachedNext 47 = .ok (.iload_n 3, 1) := by decide +kernel
theorem dX7_reachedNext_48 : decode cX7_reachedNext 48 = .ok (.iload 5, 2) := by decide +kernel
theorem dX7_reachedNext_50 : decode cX7_reachedNext 50 = .ok (.iload_n 1, 1) := by decide +kernel
theorem dX7_reachedNext_51 : decode cX7_reachedNext 51 = .ok (.invokestatic 288, 3) := by decide +kernel
theorem dX7_reachedNext_54 : decode cX7_reachedNext 54 = .ok (.ifCond .ne 10, 3) := by decide +kernel
theorem dX7_reachedNext_57 : decode cX7_reachedNext 57 = .ok (.iload_n 2, 1) := by decide +kernel
theorem dX7_reachedNext_58 : decode cX7_reachedNext 58 = .ok (.iconst 1, 1) := by decide +kernel
theorem dX7_reachedNext_59 : decode cX7_reachedNext 59 = .ok (.iload 5, 2) := by decide +kernel
theorem dX7_reachedNext_61 : decode cX7_reachedNext 61 = .ok (.ishl, 1) := by decide +kernel
theorem dX7_reachedNext_62 : decode cX7_reachedNext 62 = .ok (.ior, 1) := by decide +kernel
theorem dX7_reachedNext_63 : decode cX7_reachedNext 63 = .ok (.istore_n 2, 1) := by decide +kernel
theorem dX7_reachedNext_64 : decode cX7_reachedNext 64 = .ok (.iinc 5 1, 3) := by decide +kernel
theorem dX7_reachedNext_67 : decode cX7_reachedNext 67 = .ok (.goto (-27), 3) := by decide +kernel
theorem dX7_reachedNext_70 : decode cX7_reachedNext 70 = .ok (.iinc 3 1, 3) := by decide +kernel
theorem dX7_reachedNext_73 : decode cX7_reachedNext 73 = .ok (.goto (-69), 3) := by decide +kernel
theorem dX7_reachedNext_76 : decode cX7_reachedNext 76 = .ok (.iload_n 2, 1) := by decide +kernel
theorem dX7_reachedNext_77 : decode cX7_reachedNext 77 = .ok (.ireturn, 1) := by decide +kernel
theorem dX7_waysOfGusts_0 : decode cX7_waysOfGusts 0 = .ok (.bipush 10, 2) := by decide +kernel
theorem dX7_waysOfGusts_2 : decode cX7_waysOfGusts 2 = .ok (.iload_n 0, 1) := by decide +kernel
theorem dX7_waysOfGusts_3 : decode cX7_waysOfGusts 3 = .ok (.isub, 1) := by decide +kernel
theorem dX7_waysOfGusts_4 : decode cX7_waysOfGusts 4 = .ok (.istore_n 2, 1) := by decide +kernel
theorem dX7_waysOfGusts_5 : decode cX7_waysOfGusts 5 = .ok (.iconst 0, 1) := by decide +kernel
theorem dX7_waysOfGusts_6 : decode cX7_waysOfGusts 6 = .ok (.istore_n 3, 1) := by decide +kernel
theorem dX7_waysOfGusts_7 : decode cX7_waysOfGusts 7 = .ok (.iload_n 1, 1) := by decide +kernel
theorem dX7_waysOfGusts_8 : decode cX7_waysOfGusts 8 = .ok (.ifCond .lt 11, 3) := by decide +kernel
theorem dX7_waysOfGusts_11 : decode cX7_waysOfGusts 11 = .ok (.iload_n 3, 1) := by decide +kernel
theorem dX7_waysOfGusts_12 : decode cX7_waysOfGusts 12 = .ok (.iload_n 2, 1) := by decide +kernel
theorem dX7_waysOfGusts_13 : decode cX7_waysOfGusts 13 = .ok (.iload_n 2, 1) := by decide +kernel
theorem dX7_waysOfGusts_14 : decode cX7_waysOfGusts 14 = .ok (.imul, 1) := by decide +kernel
theorem dX7_waysOfGusts_15 : decode cX7_waysOfGusts 15 = .ok (.iload_n 2, 1) := by decide +kernel
theorem dX7_waysOfGusts_16 : decode cX7_waysOfGusts 16 = .ok (.imul, 1) := by decide +kernel
theorem dX7_waysOfGusts_17 : decode cX7_waysOfGusts 17 = .ok (.iadd, 1) := by decide +kernel
theorem dX7_waysOfGusts_18 : decode cX7_waysOfGusts 18 = .ok (.istore_n 3, 1) := by decide +kernel
theorem dX7_waysOfGusts_19 : decode cX7_waysOfGusts 19 = .ok (.iload_n 1, 1) := by decide +kernel
theorem dX7_waysOfGusts_20 : decode cX7_waysOfGusts 20 = .ok (.iconst 1, 1) := by decide +kernel
theorem dX7_waysOfGusts_21 : decode cX7_waysOfGusts 21 = .ok (.if_icmp .lt 13, 3) := by decide +kernel
theorem dX7_waysOfGusts_24 : decode cX7_waysOfGusts 24 = .ok (.iload_n 3, 1) := by decide +kernel
theorem dX7_waysOfGusts_25 : decode cX7_waysOfGusts 25 = .ok (.iconst 3, 1) := by decide +kernel
theorem dX7_waysOfGusts_26 : decode cX7_waysOfGusts 26 = .ok (.iload_n 0, 1) := by decide +kernel
theorem dX7_waysOfGusts_27 : decode cX7_waysOfGusts 27 = .ok (.imul, 1) := by decide +kernel
theorem dX7_waysOfGusts_28 : decode cX7_waysOfGusts 28 = .ok (.iload_n 2, 1) := by decide +kernel
theorem dX7_waysOfGusts_29 : decode cX7_waysOfGusts 29 = .ok (.imul, 1) := by decide +kernel
theorem dX7_waysOfGusts_30 : decode cX7_waysOfGusts 30 = .ok (.iload_n 2, 1) := by decide +kernel
theorem dX7_waysOfGusts_31 : decode cX7_waysOfGusts 31 = .ok (.imul, 1) := by decide +kernel
theorem dX7_waysOfGusts_32 : decode cX7_waysOfGusts 32 = .ok (.iadd, 1) := by decide +kernel
theorem dX7_waysOfGusts_33 : decode cX7_waysOfGusts 33 = .ok (.istore_n 3, 1) := by decide +kernel
theorem dX7_waysOfGusts_34 : decode cX7_waysOfGusts 34 = .ok (.iload_n 1, 1) := by decide +kernel
theorem dX7_waysOfGusts_35 : decode cX7_waysOfGusts 35 = .ok (.iconst 2, 1) := by decide +kernel
theorem dX7_waysOfGusts_36 : decode cX7_waysOfGusts 36 = .ok (.if_icmp .lt 13, 3) := by decide +kernel
theorem dX7_waysOfGusts_39 : decode cX7_waysOfGusts 39 = .ok (.iload_n 3, 1) := by decide +kernel
theorem dX7_waysOfGusts_40 : decode cX7_waysOfGusts 40 = .ok (.iconst 3, 1) := by decide +kernel
theorem dX7_waysOfGusts_41 : decode cX7_waysOfGusts 41 = .ok (.iload_n 0, 1) := by decide +kernel
theorem dX7_waysOfGusts_42 : decode cX7_waysOfGusts 42 = .ok (.imul, 1) := by decide +kernel
theorem dX7_waysOfGusts_43 : decode cX7_waysOfGusts 43 = .ok (.iload_n 0, 1) := by decide +kernel
theorem dX7_waysOfGusts_44 : decode cX7_waysOfGusts 44 = .ok (.imul, 1) := by decide +kernel
theorem dX7_waysOfGusts_45 : decode cX7_waysOfGusts 45 = .ok (.iload_n 2, 1) := by decide +kernel
theorem dX7_waysOfGusts_46 : decode cX7_waysOfGusts 46 = .ok (.imul, 1) := by decide +kernel
theorem dX7_waysOfGusts_47 : decode cX7_waysOfGusts 47 = .ok (.iadd, 1) := by decide +kernel
theorem dX7_waysOfGusts_48 : decode cX7_waysOfGusts 48 = .ok (.istore_n 3, 1) := by decide +kernel
theorem dX7_waysOfGusts_49 : decode cX7_waysOfGusts 49 = .ok (.iload_n 1, 1) := by decide +kernel
theorem dX7_waysOfGusts_50 : decode cX7_waysOfGusts 50 = .ok (.iconst 3, 1) := by decide +kernel
theorem dX7_waysOfGusts_51 : decode cX7_waysOfGusts 51 = .ok (.if_icmp .lt 11, 3) := by decide +kernel
theorem dX7_waysOfGusts_54 : decode cX7_waysOfGusts 54 = .ok (.iload_n 3, 1) := by decide +kernel
theorem dX7_waysOfGusts_55 : decode cX7_waysOfGusts 55 = .ok (.iload_n 0, 1) := by decide +kernel
theorem dX7_waysOfGusts_56 : decode cX7_waysOfGusts 56 = .ok (.iload_n 0, 1) := by decide +kernel
theorem dX7_waysOfGusts_57 : decode cX7_waysOfGusts 57 = .ok (.imul, 1) := by decide +kernel
theorem dX7_waysOfGusts_58 : decode cX7_waysOfGusts 58 = .ok (.iload_n 0, 1) := by decide +kernel
theorem dX7_waysOfGusts_59 : decode cX7_waysOfGusts 59 = .ok (.imul, 1) := by decide +kernel
theorem dX7_waysOfGusts_60 : decode cX7_waysOfGusts 60 = .ok (.iadd, 1) := by decide +kernel
theorem dX7_waysOfGusts_61 : decode cX7_waysOfGusts 61 = .ok (.istore_n 3, 1) := by decide +kernel
theorem dX7_waysOfGusts_62 : decode cX7_waysOfGusts 62 = .ok (.iload_n 3, 1) := by decide +kernel
theorem dX7_waysOfGusts_63 : decode cX7_waysOfGusts 63 = .ok (.ireturn, 1) := by decide +kernel
theorem dX7_commonDivisor_0 : decode cX7_commonDivisor 0 = .ok (.iload_n 0, 1) := by decide +kernel
theorem dX7_commonDivisor_1 : decode cX7_commonDivisor 1 = .ok (.istore_n 2, 1) := by decide +kernel
theorem dX7_commonDivisor_2 : decode cX7_commonDivisor 2 = .ok (.iload_n 1, 1) := by decide +kernel
theorem dX7_commonDivisor_3 : decode cX7_commonDivisor 3 = .ok (.istore_n 3, 1) := by decide +kernel
theorem dX7_commonDivisor_4 : decode cX7_commonDivisor 4 = .ok (.iconst 0, 1) := by decide +kernel
theorem dX7_commonDivisor_5 : decode cX7_commonDivisor 5 = .ok (.istore 4, 2) := by decide +kernel
theorem dX7_commonDivisor_7 : decode cX7_commonDivisor 7 = .ok (.iload 4, 2) := by decide +kernel
theorem dX7_commonDivisor_9 : decode cX7_commonDivisor 9 = .ok (.bipush 64, 2) := by decide +kernel
theorem dX7_commonDivisor_11 : decode cX7_commonDivisor 11 = .ok (.if_icmp .ge 23, 3) := by decide +kernel
theorem dX7_commonDivisor_14 : decode cX7_commonDivisor 14 = .ok (.iload_n 3, 1) := by decide +kernel
theorem dX7_commonDivisor_15 : decode cX7_commonDivisor 15 = .ok (.ifCond .eq 19, 3) := by decide +kernel
theorem dX7_commonDivisor_18 : decode cX7_commonDivisor 18 = .ok (.iload_n 2, 1) := by decide +kernel
theorem dX7_commonDivisor_19 : decode cX7_commonDivisor 19 = .ok (.iload_n 3, 1) := by decide +kernel
theorem dX7_commonDivisor_20 : decode cX7_commonDivisor 20 = .ok (.irem, 1) := by decide +kernel
theorem dX7_commonDivisor_21 : decode cX7_commonDivisor 21 = .ok (.istore 5, 2) := by decide +kernel
theorem dX7_commonDivisor_23 : decode cX7_commonDivisor 23 = .ok (.iload_n 3, 1) := by decide +kernel
theorem dX7_commonDivisor_24 : decode cX7_commonDivisor 24 = .ok (.istore_n 2, 1) := by decide +kernel
theorem dX7_commonDivisor_25 : decode cX7_commonDivisor 25 = .ok (.iload 5, 2) := by decide +kernel
theorem dX7_commonDivisor_27 : decode cX7_commonDivisor 27 = .ok (.istore_n 3, 1) := by decide +kernel
theorem dX7_commonDivisor_28 : decode cX7_commonDivisor 28 = .ok (.iinc 4 1, 3) := by decide +kernel
theorem dX7_commonDivisor_31 : decode cX7_commonDivisor 31 = .ok (.goto (-24), 3) := by decide +kernel
theorem dX7_commonDivisor_34 : decode cX7_commonDivisor 34 = .ok (.iconst 1, 1) := by decide +kernel
theorem dX7_commonDivisor_35 : decode cX7_commonDivisor 35 = .ok (.iload_n 2, 1) := by decide +kernel
theorem dX7_commonDivisor_36 : decode cX7_commonDivisor 36 = .ok (.invokestatic 285, 3) := by decide +kernel
theorem dX7_commonDivisor_39 : decode cX7_commonDivisor 39 = .ok (.ireturn, 1) := by decide +kernel
theorem dX7_drawDays_0 : decode cX7_drawDays 0 = .ok (.aload_n 0, 1) := by decide +kernel
theorem dX7_drawDays_1 : decode cX7_drawDays 1 = .ok (.invokevirtual 257, 3) := by decide +kernel
theorem dX7_drawDays_4 : decode cX7_drawDays 4 = .ok (.istore_n 3, 1) := by decide +kernel
theorem dX7_drawDays_5 : decode cX7_drawDays 5 = .ok (.aload_n 0, 1) := by decide +kernel
theorem dX7_drawDays_6 : decode cX7_drawDays 6 = .ok (.invokevirtual 87, 3) := by decide +kernel
theorem dX7_drawDays_9 : decode cX7_drawDays 9 = .ok (.istore 4, 2) := by decide +kernel
theorem dX7_drawDays_11 : decode cX7_drawDays 11 = .ok (.iload_n 3, 1) := by decide +kernel
theorem dX7_drawDays_12 : decode cX7_drawDays 12 = .ok (.iconst 1, 1) := by decide +kernel
theorem dX7_drawDays_13 : decode cX7_drawDays 13 = .ok (.if_icmp .lt 9, 3) := by decide +kernel
theorem dX7_drawDays_16 : decode cX7_drawDays 16 = .ok (.iload 4, 2) := by decide +kernel
theorem dX7_drawDays_18 : decode cX7_drawDays 18 = .ok (.iconst 1, 1) := by decide +kernel
theorem dX7_drawDays_19 : decode cX7_drawDays 19 = .ok (.if_icmp .ge 4, 3) := by decide +kernel
theorem dX7_drawDays_22 : decode cX7_drawDays 22 = .ok (.return_, 1) := by decide +kernel
theorem dX7_drawDays_23 : decode cX7_drawDays 23 = .ok (.iload_n 2, 1) := by decide +kernel
theorem dX7_drawDays_24 : decode cX7_drawDays 24 = .ok (.i2l, 1) := by decide +kernel
theorem dX7_drawDays_25 : decode cX7_drawDays 25 = .ok (.lstore 5, 2) := by decide +kernel
theorem dX7_drawDays_27 : decode cX7_drawDays 27 = .ok (.iconst 0, 1) := by decide +kernel
theorem dX7_drawDays_28 : decode cX7_drawDays 28 = .ok (.istore 7, 2) := by decide +kernel
theorem dX7_drawDays_30 : decode cX7_drawDays 30 = .ok (.iload 7, 2) := by decide +kernel
theorem dX7_drawDays_32 : decode cX7_drawDays 32 = .ok (.iload_n 1, 1) := by decide +kernel
theorem dX7_drawDays_33 : decode cX7_drawDays 33 = .ok (.if_icmp .ge 69, 3) := by decide +kernel
theorem dX7_drawDays_36 : decode cX7_drawDays 36 = .ok (.ldc2_w 292, 3) := by decide +kernel
theorem dX7_drawDays_39 : decode cX7_drawDays 39 = .ok (.lload 5, 2) := by decide +kernel
theorem dX7_drawDays_41 : decode cX7_drawDays 41 = .ok (.lmul, 1) := by decide +kernel
theorem dX7_drawDays_42 : decode cX7_drawDays 42 = .ok (.ldc2_w 294, 3) := by decide +kernel
theorem dX7_drawDays_45 : decode cX7_drawDays 45 = .ok (.lrem, 1) := by decide +kernel
theorem dX7_drawDays_46 : decode cX7_drawDays 46 = .ok (.lstore 5, 2) := by decide +kernel
theorem dX7_drawDays_48 : decode cX7_drawDays 48 = .ok (.lload 5, 2) := by decide +kernel
theorem dX7_drawDays_50 : decode cX7_drawDays 50 = .ok (.iload 4, 2) := by decide +kernel
theorem dX7_drawDays_52 : decode cX7_drawDays 52 = .ok (.i2l, 1) := by decide +kernel
theorem dX7_drawDays_53 : decode cX7_drawDays 53 = .ok (.lrem, 1) := by decide +kernel
theorem dX7_drawDays_54 : decode cX7_drawDays 54 = .ok (.l2i, 1) := by decide +kernel
theorem dX7_drawDays_55 : decode cX7_drawDays 55 = .ok (.istore 8, 2) := by decide +kernel
theorem dX7_drawDays_57 : decode cX7_drawDays 57 = .ok (.lload 5, 2) := by decide +kernel
theorem dX7_drawDays_59 : decode cX7_drawDays 59 = .ok (.ldc2_w 296, 3) := by decide +kernel
theorem dX7_drawDays_62 : decode cX7_drawDays 62 = .ok (.ldiv, 1) := by decide +kernel
theorem dX7_drawDays_63 : decode cX7_drawDays 63 = .ok (.iload_n 3, 1) := by decide +kernel
theorem dX7_drawDays_64 : decode cX7_drawDays 64 = .ok (.i2l, 1) := by decide +kernel
theorem dX7_drawDays_65 : decode cX7_drawDays 65 = .ok (.lrem, 1) := by decide +kernel
theorem dX7_drawDays_66 : decode cX7_drawDays 66 = .ok (.l2i, 1) := by decide +kernel
theorem dX7_drawDays_67 : decode cX7_drawDays 67 = .ok (.istore 9, 2) := by decide +kernel
theorem dX7_drawDays_69 : decode cX7_drawDays 69 = .ok (.aload_n 0, 1) := by decide +kernel
theorem dX7_drawDays_70 : decode cX7_drawDays 70 = .ok (.iload 8, 2) := by decide +kernel
theorem dX7_drawDays_72 : decode cX7_drawDays 72 = .ok (.iload 9, 2) := by decide +kernel
theorem dX7_drawDays_74 : decode cX7_drawDays 74 = .ok (.invokevirtual 269, 3) := by decide +kernel
theorem dX7_drawDays_77 : decode cX7_drawDays 77 = .ok (.ifCond .eq 15, 3) := by decide +kernel
theorem dX7_drawDays_80 : decode cX7_drawDays 80 = .ok (.aload_n 0, 1) := by decide +kernel
theorem dX7_drawDays_81 : decode cX7_drawDays 81 = .ok (.iload 8, 2) := by decide +kernel
theorem dX7_drawDays_83 : decode cX7_drawDays 83 = .ok (.iload 9, 2) := by decide +kernel
theorem dX7_drawDays_85 : decode cX7_drawDays 85 = .ok (.invokevirtual 124, 3) := by decide +kernel
theorem dX7_drawDays_88 : decode cX7_drawDays 88 = .ok (.pop, 1) := by decide +kernel
theorem dX7_drawDays_89 : decode cX7_drawDays 89 = .ok (.goto 7, 3) := by decide +kernel
theorem dX7_drawDays_92 : decode cX7_drawDays 92 = .ok (.aload_n 0, 1) := by decide +kernel
theorem dX7_drawDays_93 : decode cX7_drawDays 93 = .ok (.invokevirtual 139, 3) := by decide +kernel
theorem dX7_drawDays_96 : decode cX7_drawDays 96 = .ok (.iinc 7 1, 3) := by decide +kernel
theorem dX7_drawDays_99 : decode cX7_drawDays 99 = .ok (.goto (-69), 3) := by decide +kernel
theorem dX7_drawDays_102 : decode cX7_drawDays 102 = .ok (.return_, 1) := by decide +kernel

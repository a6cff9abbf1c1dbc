theorem dX0_init_0 : decode cX0_init 0 = .ok (.aload_n 0, 1) := by decide +kernel
theorem dX0_init_1 : decode cX0_init 1 = .ok (.invokespecial 3, 3) := by decide +kernel
theorem dX0_init_4 : decode cX0_init 4 = .ok (.aload_n 0, 1) := by decide +kernel
theorem dX0_init_5 : decode cX0_init 5 = .ok (.bipush 48, 2) := by decide +kernel
theorem dX0_init_7 : decode cX0_init 7 = .ok (.newarray .int, 2) := by decide +kernel
theorem dX0_init_9 : decode cX0_init 9 = .ok (.putfield 9, 3) := by decide +kernel
theorem dX0_init_12 : decode cX0_init 12 = .ok (.aload_n 0, 1) := by decide +kernel
theorem dX0_init_13 : decode cX0_init 13 = .ok (.bipush 32, 2) := by decide +kernel
theorem dX0_init_15 : decode cX0_init 15 = .ok (.newarray .int, 2) := by decide +kernel
theorem dX0_init_17 : decode cX0_init 17 = .ok (.putfield 15, 3) := by decide +kernel
theorem dX0_init_20 : decode cX0_init 20 = .ok (.return_, 1) := by decide +kernel
theorem dX0_clear_0 : decode cX0_clear 0 = .ok (.aload_n 0, 1) := by decide +kernel
theorem dX0_clear_1 : decode cX0_clear 1 = .ok (.iconst 0, 1) := by decide +kernel
theorem dX0_clear_2 : decode cX0_clear 2 = .ok (.putfield 18, 3) := by decide +kernel
theorem dX0_clear_5 : decode cX0_clear 5 = .ok (.aload_n 0, 1) := by decide +kernel
theorem dX0_clear_6 : decode cX0_clear 6 = .ok (.iconst 0, 1) := by decide +kernel
theorem dX0_clear_7 : decode cX0_clear 7 = .ok (.putfield 22, 3) := by decide +kernel
theorem dX0_clear_10 : decode cX0_clear 10 = .ok (.aload_n 0, 1) := by decide +kernel
theorem dX0_clear_11 : decode cX0_clear 11 = .ok (.iconst 0, 1) := by decide +kernel
theorem dX0_clear_12 : decode cX0_clear 12 = .ok (.putfield 25, 3) := by decide +kernel
theorem dX0_clear_15 : decode cX0_clear 15 = .ok (.return_, 1) := by decide +kernel
theorem dX0_copyFrom_0 : decode cX0_copyFrom 0 = .ok (.aload_n 1, 1) := by decide +kernel
theorem dX0_copyFrom_1 : decode cX0_copyFrom 1 = .ok (.getfield 9, 3) := by decide +kernel
theorem dX0_copyFrom_4 : decode cX0_copyFrom 4 = .ok (.iconst 0, 1) := by decide +kernel
theorem dX0_copyFrom_5 : decode cX0_copyFrom 5 = .ok (.aload_n 0, 1) := by decide +kernel
theorem dX0_copyFrom_6 : decode cX0_copyFrom 6 = .ok (.getfield 9, 3) := by decide +kernel
theorem dX0_copyFrom_9 : decode cX0_copyFrom 9 = .ok (.iconst 0, 1) := by decide +kernel
theorem dX0_copyFrom_10 : decode cX0_copyFrom 10 = .ok (.aload_n 0, 1) := by decide +kernel
theorem dX0_copyFrom_11 : decode cX0_copyFrom 11 = .ok (.getfield 9, 3) := by decide +kernel
theorem dX0_copyFrom_14 : decode cX0_copyFrom 14 = .ok (.arraylength, 1) := by decide +kernel
theorem dX0_copyFrom_15 : decode cX0_copyFrom 15 = .ok (.invokestatic 28, 3) := by decide +kernel
theorem dX0_copyFrom_18 : decode cX0_copyFrom 18 = .ok (.aload_n 1, 1) := by decide +kernel
theorem dX0_copyFrom_19 : decode cX0_copyFrom 19 = .ok (.getfield 15, 3) := by decide +kernel
theorem dX0_copyFrom_22 : decode cX0_copyFrom 22 = .ok (.iconst 0, 1) := by decide +kernel
theorem dX0_copyFrom_23 : decode cX0_copyFrom 23 = .ok (.aload_n 0, 1) := by decide +kernel
theorem dX0_copyFrom_24 : decode cX0_copyFrom 24 = .ok (.getfield 15, 3) := by decide +kernel
theorem dX0_copyFrom_27 : decode cX0_copyFrom 27 = .ok (.iconst 0, 1) := by decide +kernel
theorem dX0_copyFrom_28 : decode cX0_copyFrom 28 = .ok (.aload_n 0, 1) := by decide +kernel
theorem dX0_copyFrom_29 : decode cX0_copyFrom 29 = .ok (.getfield 15, 3) := by decide +kernel
theorem dX0_copyFrom_32 : decode cX0_copyFrom 32 = .ok (.arraylength, 1) := by decide +kernel
theorem dX0_copyFrom_33 : decode cX0_copyFrom 33 = .ok (.invokestatic 28, 3) := by decide +kernel
theorem dX0_copyFrom_36 : decode cX0_copyFrom 36 = .ok (.aload_n 0, 1) := by decide +kernel
theorem dX0_copyFrom_37 : decode cX0_copyFrom 37 = .ok (.aload_n 1, 1) := by decide +kernel
theorem dX0_copyFrom_38 : decode cX0_copyFrom 38 = .ok (.getfield 18, 3) := by decide +kernel
theorem dX0_copyFrom_41 : decode cX0_copyFrom 41 = .ok (.putfield 18, 3) := by decide +kernel
theorem dX0_copyFrom_44 : decode cX0_copyFrom 44 = .ok (.aload_n 0, 1) := by decide +kernel
theorem dX0_copyFrom_45 : decode cX0_copyFrom 45 = .ok (.aload_n 1, 1) := by decide +kernel
theorem dX0_copyFrom_46 : decode cX0_copyFrom 46 = .ok (.getfield 22, 3) := by decide +kernel
theorem dX0_copyFrom_49 : decode cX0_copyFrom 49 = .ok (.putfield 22, 3) := by decide +kernel
theorem dX0_copyFrom_52 : decode cX0_copyFrom 52 = .ok (.aload_n 0, 1) := by decide +kernel
theorem dX0_copyFrom_53 : decode cX0_copyFrom 53 = .ok (.aload_n 1, 1) := by decide +kernel
theorem dX0_copyFrom_54 : decode cX0_copyFrom 54 = .ok (.getfield 25, 3) := by decide +kernel
theorem dX0_copyFrom_57 : decode cX0_copyFrom 57 = .ok (.putfield 25, 3) := by decide +kernel
theorem dX0_copyFrom_60 : decode cX0_copyFrom 60 = .ok (.return_, 1) := by decide +kernel
theorem dX0_stands_0 : decode cX0_stands 0 = .ok (.aload_n 0, 1) := by decide +kernel
theorem dX0_stands_1 : decode cX0_stands 1 = .ok (.getfield 18, 3) := by decide +kernel
theorem dX0_stands_4 : decode cX0_stands 4 = .ok (.ifCond .le 7, 3) := by decide +kernel
theorem dX0_stands_7 : decode cX0_stands 7 = .ok (.iconst 1, 1) := by decide +kernel
theorem dX0_stands_8 : decode cX0_stands 8 = .ok (.goto 4, 3) := by decide +kernel
theorem dX0_stands_11 : decode cX0_stands 11 = .ok (.iconst 0, 1) := by decide +kernel
theorem dX0_stands_12 : decode cX0_stands 12 = .ok (.ireturn, 1) := by decide +kernel
theorem dX0_people_0 : decode cX0_people 0 = .ok (.aload_n 0, 1) := by decide +kernel
theorem dX0_people_1 : decode cX0_people 1 = .ok (.getfield 18, 3) := by decide +kernel
theorem dX0_people_4 : decode cX0_people 4 = .ok (.ireturn, 1) := by decide +kernel
theorem dX0_wrongs_0 : decode cX0_wrongs 0 = .ok (.aload_n 0, 1) := by decide +kernel
theorem dX0_wrongs_1 : decode cX0_wrongs 1 = .ok (.getfield 22, 3) := by decide +kernel
theorem dX0_wrongs_4 : decode cX0_wrongs 4 = .ok (.ireturn, 1) := by decide +kernel
theorem dX0_day_0 : decode cX0_day 0 = .ok (.aload_n 0, 1) := by decide +kernel
theorem dX0_day_1 : decode cX0_day 1 = .ok (.getfield 25, 3) := by decide +kernel
theorem dX0_day_4 : decode cX0_day 4 = .ok (.ireturn, 1) := by decide +kernel
theorem dX0_setDay_0 : decode cX0_setDay 0 = .ok (.aload_n 0, 1) := by decide +kernel
theorem dX0_setDay_1 : decode cX0_setDay 1 = .ok (.iload_n 1, 1) := by decide +kernel
theorem dX0_setDay_2 : decode cX0_setDay 2 = .ok (.putfield 25, 3) := by decide +kernel
theorem dX0_setDay_5 : decode cX0_setDay 5 = .ok (.return_, 1) := by decide +kernel
theorem dX0_nextDay_0 : decode cX0_nextDay 0 = .ok (.aload_n 0, 1) := by decide +kernel
theorem dX0_nextDay_1 : decode cX0_nextDay 1 = .ok (.dup, 1) := by decide +kernel
theorem dX0_nextDay_2 : decode cX0_nextDay 2 = .ok (.getfield 25, 3) := by decide +kernel
theorem dX0_nextDay_5 : decode cX0_nextDay 5 = .ok (.iconst 1, 1) := by decide +kernel
theorem dX0_nextDay_6 : decode cX0_nextDay 6 = .ok (.iadd, 1) := by decide +kernel
theorem dX0_nextDay_7 : decode cX0_nextDay 7 = .ok (.putfield 25, 3) := by decide +kernel
theorem dX0_nextDay_10 : decode cX0_nextDay 10 = .ok (.return_, 1) := by decide +kernel
theorem dX0_hasPerson_0 : decode cX0_hasPerson 0 = .ok (.iload_n 1, 1) := by decide +kernel
theorem dX0_hasPerson_1 : decode cX0_hasPerson 1 = .ok (.ifCond .lt 15, 3) := by decide +kernel
theorem dX0_hasPerson_4 : decode cX0_hasPerson 4 = .ok (.iload_n 1, 1) := by decide +kernel
theorem dX0_hasPerson_5 : decode cX0_hasPerson 5 = .ok (.aload_n 0, 1) := by decide +kernel
theorem dX0_hasPerson_6 : decode cX0_hasPerson 6 = .ok (.getfield 18, 3) := by decide +kernel
theorem dX0_hasPerson_9 : decode cX0_hasPerson 9 = .ok (.if_icmp .ge 7, 3) := by decide +kernel
theorem dX0_hasPerson_12 : decode cX0_hasPerson 12 = .ok (.iconst 1, 1) := by decide +kernel
theorem dX0_hasPerson_13 : decode cX0_hasPerson 13 = .ok (.goto 4, 3) := by decide +kernel
theorem dX0_hasPerson_16 : decode cX0_hasPerson 16 = .ok (.iconst 0, 1) := by decide +kernel
theorem dX0_hasPerson_17 : decode cX0_hasPerson 17 = .ok (.ireturn, 1) := by decide +kernel
theorem dX0_hasWrong_0 : decode cX0_hasWrong 0 = .ok (.iload_n 1, 1) := by decide +kernel
theorem dX0_hasWrong_1 : decode cX0_hasWrong 1 = .ok (.ifCond .lt 15, 3) := by decide +kernel
theorem dX0_hasWrong_4 : decode cX0_hasWrong 4 = .ok (.iload_n 1, 1) := by decide +kernel
theorem dX0_hasWrong_5 : decode cX0_hasWrong 5 = .ok (.aload_n 0, 1) := by decide +kernel
theorem dX0_hasWrong_6 : decode cX0_hasWrong 6 = .ok (.getfield 22, 3) := by decide +kernel
theorem dX0_hasWrong_9 : decode cX0_hasWrong 9 = .ok (.if_icmp .ge 7, 3) := by decide +kernel
theorem dX0_hasWrong_12 : decode cX0_hasWrong 12 = .ok (.iconst 1, 1) := by decide +kernel
theorem dX0_hasWrong_13 : decode cX0_hasWrong 13 = .ok (.goto 4, 3) := by decide +kernel
theorem dX0_hasWrong_16 : decode cX0_hasWrong 16 = .ok (.iconst 0, 1) := by decide +kernel
theorem dX0_hasWrong_17 : decode cX0_hasWrong 17 = .ok (.ireturn, 1) := by decide +kernel
theorem dX0_trait_0 : decode cX0_trait 0 = .ok (.iload_n 1, 1) := by decide +kernel
theorem dX0_trait_1 : decode cX0_trait 1 = .ok (.bipush 8, 2) := by decide +kernel
theorem dX0_trait_3 : decode cX0_trait 3 = .ok (.imul, 1) := by decide +kernel
theorem dX0_trait_4 : decode cX0_trait 4 = .ok (.iload_n 2, 1) := by decide +kernel
theorem dX0_trait_5 : decode cX0_trait 5 = .ok (.iadd, 1) := by decide +kernel
theorem dX0_trait_6 : decode cX0_trait 6 = .ok (.istore_n 3, 1) := by decide +kernel
theorem dX0_trait_7 : decode cX0_trait 7 = .ok (.iload_n 3, 1) := by decide +kernel
theorem dX0_trait_8 : decode cX0_trait 8 = .ok (.ifCond .lt 12, 3) := by decide +kernel
theorem dX0_trait_11 : decode cX0_trait 11 = .ok (.iload_n 3, 1) := by decide +kernel
theorem dX0_trait_12 : decode cX0_trait 12 = .ok (.aload_n 0, 1) := by decide +kernel
theorem dX0_trait_13 : decode cX0_trait 13 = .ok (.getfield 9, 3) := by decide +kernel
theorem dX0_trait_16 : decode cX0_trait 16 = .ok (.arraylength, 1) := by decide +kernel
theorem dX0_trait_17 : decode cX0_trait 17 = .ok (.if_icmp .lt 8, 3) := by decide +kernel
theorem dX0_trait_20 : decode cX0_trait 20 = .ok (.bipush (-4), 2) := by decide +kernel
theorem dX0_trait_22 : decode cX0_trait 22 = .ok (.goto 9, 3) := by decide +kernel
theorem dX0_trait_25 : decode cX0_trait 25 = .ok (.aload_n 0, 1) := by decide +kernel
theorem dX0_trait_26 : decode cX0_trait 26 = .ok (.getfield 9, 3) := by decide +kernel
theorem dX0_trait_29 : decode cX0_trait 29 = .ok (.iload_n 3, 1) := by decide +kernel
theorem dX0_trait_30 : decode cX0_trait 30 = .ok (.iaload, 1) := by decide +kernel
theorem dX0_trait_31 : decode cX0_trait 31 = .ok (.ireturn, 1) := by decide +kernel
theorem dX0_setTrait_0 : decode cX0_setTrait 0 = .ok (.iload_n 1, 1) := by decide +kernel
theorem dX0_setTrait_1 : decode cX0_setTrait 1 = .ok (.bipush 8, 2) := by decide +kernel
theorem dX0_setTrait_3 : decode cX0_setTrait 3 = .ok (.imul, 1) := by decide +kernel
theorem dX0_setTrait_4 : decode cX0_setTrait 4 = .ok (.iload_n 2, 1) := by decide +kernel
theorem dX0_setTrait_5 : decode cX0_setTrait 5 = .ok (.iadd, 1) := by decide +kernel
theorem dX0_setTrait_6 : decode cX0_setTrait 6 = .ok (.istore 4, 2) := by decide +kernel
theorem dX0_setTrait_8 : decode cX0_setTrait 8 = .ok (.iload 4, 2) := by decide +kernel
theorem dX0_setTrait_10 : decode cX0_setTrait 10 = .ok (.ifCond .lt 21, 3) := by decide +kernel
theorem dX0_setTrait_13 : decode cX0_setTrait 13 = .ok (.iload 4, 2) := by decide +kernel
theorem dX0_setTrait_15 : decode cX0_setTrait 15 = .ok (.aload_n 0, 1) := by decide +kernel
theorem dX0_setTrait_16 : decode cX0_setTrait 16 = .ok (.getfield 9, 3) := by decide +kernel
theorem dX0_setTrait_19 : decode cX0_setTrait 19 = .ok (.arraylength, 1) := by decide +kernel
theorem dX0_setTrait_20 : decode cX0_setTrait 20 = .ok (.if_icmp .ge 11, 3) := by decide +kernel
theorem dX0_setTrait_23 : decode cX0_setTrait 23 = .ok (.aload_n 0, 1) := by decide +kernel
theorem dX0_setTrait_24 : decode cX0_setTrait 24 = .ok (.getfield 9, 3) := by decide +kernel
theorem dX0_setTrait_27 : decode cX0_setTrait 27 = .ok (.iload 4, 2) := by decide +kernel
theorem dX0_setTrait_29 : decode cX0_setTrait 29 = .ok (.iload_n 3, 1) := by decide +kernel
theorem dX0_setTrait_30 : decode cX0_setTrait 30 = .ok (.iastore, 1) := by decide +kernel
theorem dX0_setTrait_31 : decode cX0_setTrait 31 = .ok (.return_, 1) := by decide +kernel
theorem dX0_part_0 : decode cX0_part 0 = .ok (.iload_n 1, 1) := by decide +kernel
theorem dX0_part_1 : decode cX0_part 1 = .ok (.iconst 4, 1) := by decide +kernel
theorem dX0_part_2 : decode cX0_part 2 = .ok (.imul, 1) := by decide +kernel
theorem dX0_part_3 : decode cX0_part 3 = .ok (.iload_n 2, 1) := by decide +kernel
theorem dX0_part_4 : decode cX0_part 4 = .ok (.iadd, 1) := by decide +kernel
theorem dX0_part_5 : decode cX0_part 5 = .ok (.istore_n 3, 1) := by decide +kernel
theorem dX0_part_6 : decode cX0_part 6 = .ok (.iload_n 3, 1) := by decide +kernel
theorem dX0_part_7 : decode cX0_part 7 = .ok (.ifCond .lt 12, 3) := by decide +kernel
theorem dX0_part_10 : decode cX0_part 10 = .ok (.iload_n 3, 1) := by decide +kernel
theorem dX0_part_11 : decode cX0_part 11 = .ok (.aload_n 0, 1) := by decide +kernel
theorem dX0_part_12 : decode cX0_part 12 = .ok (.getfield 15, 3) := by decide +kernel
theorem dX0_part_15 : decode cX0_part 15 = .ok (.arraylength, 1) := by decide +kernel
theorem dX0_part_16 : decode cX0_part 16 = .ok (.if_icmp .lt 8, 3) := by decide +kernel
theorem dX0_part_19 : decode cX0_part 19 = .ok (.bipush (-4), 2) := by decide +kernel
theorem dX0_part_21 : decode cX0_part 21 = .ok (.goto 9, 3) := by decide +kernel
theorem dX0_part_24 : decode cX0_part 24 = .ok (.aload_n 0, 1) := by decide +kernel
theorem dX0_part_25 : decode cX0_part 25 = .ok (.getfield 15, 3) := by decide +kernel
theorem dX0_part_28 : decode cX0_part 28 = .ok (.iload_n 3, 1) := by decide +kernel
theorem dX0_part_29 : decode cX0_part 29 = .ok (.iaload, 1) := by decide +kernel
theorem dX0_part_30 : decode cX0_part 30 = .ok (.ireturn, 1) := by decide +kernel
theorem dX0_setPart_0 : decode cX0_setPart 0 = .ok (.iload_n 1, 1) := by decide +kernel
theorem dX0_setPart_1 : decode cX0_setPart 1 = .ok (.iconst 4, 1) := by decide +kernel
theorem dX0_setPart_2 : decode cX0_setPart 2 = .ok (.imul, 1) := by decide +kernel
theorem dX0_setPart_3 : decode cX0_setPart 3 = .ok (.iload_n 2, 1) := by decide +kernel
theorem dX0_setPart_4 : decode cX0_setPart 4 = .ok (.iadd, 1) := by decide +kernel
theorem dX0_setPart_5 : decode cX0_setPart 5 = .ok (.istore 4, 2) := by decide +kernel
theorem dX0_setPart_7 : decode cX0_setPart 7 = .ok (.iload 4, 2) := by decide +kernel
theorem dX0_setPart_9 : decode cX0_setPart 9 = .ok (.ifCond .lt 21, 3) := by decide +kernel
theorem dX0_setPart_12 : decode cX0_setPart 12 = .ok (.iload 4, 2) := by decide +kernel
theorem dX0_setPart_14 : decode cX0_setPart 14 = .ok (.aload_n 0, 1) := by decide +kernel
theorem dX0_setPart_15 : decode cX0_setPart 15 = .ok (.getfield 15, 3) := by decide +kernel
theorem dX0_setPart_18 : decode cX0_setPart 18 = .ok (.arraylength, 1) := by decide +kernel
theorem dX0_setPart_19 : decode cX0_setPart 19 = .ok (.if_icmp .ge 11, 3) := by decide +kernel
theorem dX0_setPart_22 : decode cX0_setPart 22 = .ok (.aload_n 0, 1) := by decide +kernel
theorem dX0_setPart_23 : decode cX0_setPart 23 = .ok (.getfield 15, 3) := by decide +kernel
theorem dX0_setPart_26 : decode cX0_setPart 26 = .ok (.iload 4, 2) := by decide +kernel
theorem dX0_setPart_28 : decode cX0_setPart 28 = .ok (.iload_n 3, 1) := by decide +kernel
theorem dX0_setPart_29 : decode cX0_setPart 29 = .ok (.iastore, 1) := by decide +kernel
theorem dX0_setPart_30 : decode cX0_setPart 30 = .ok (.return_, 1) := by decide +kernel
theorem dX0_addPerson_0 : decode cX0_addPerson 0 = .ok (.aload_n 0, 1) := by decide +kernel
theorem dX0_addPerson_1 : decode cX0_addPerson 1 = .ok (.getfield 18, 3) := by decide +kernel
theorem dX0_addPerson_4 : decode cX0_addPerson 4 = .ok (.bipush 6, 2) := by decide +kernel
theorem dX0_addPerson_6 : decode cX0_addPerson 6 = .ok (.if_icmp .lt 4, 3) := by decide +kernel
theorem dX0_addPerson_9 : decode cX0_addPerson 9 = .ok (.return_, 1) := by decide +kernel
theorem dX0_addPerson_10 : decode cX0_addPerson 10 = .ok (.aload_n 0, 1) := by decide +kernel
theorem dX0_addPerson_11 : decode cX0_addPerson 11 = .ok (.aload_n 0, 1) := by decide +kernel
theorem dX0_addPerson_12 : decode cX0_addPerson 12 = .ok (.getfield 18, 3) := by decide +kernel
theorem dX0_addPerson_15 : decode cX0_addPerson 15 = .ok (.iconst 0, 1) := by decide +kernel
theorem dX0_addPerson_16 : decode cX0_addPerson 16 = .ok (.iload_n 1, 1) := by decide +kernel
theorem dX0_addPerson_17 : decode cX0_addPerson 17 = .ok (.invokevirtual 34, 3) := by decide +kernel
theorem dX0_addPerson_20 : decode cX0_addPerson 20 = .ok (.aload_n 0, 1) := by decide +kernel
theorem dX0_addPerson_21 : decode cX0_addPerson 21 = .ok (.aload_n 0, 1) := by decide +kernel
theorem dX0_addPerson_22 : decode cX0_addPerson 22 = .ok (.getfield 18, 3) := by decide +kernel
theorem dX0_addPerson_25 : decode cX0_addPerson 25 = .ok (.iconst 1, 1) := by decide +kernel
theorem dX0_addPerson_26 : decode cX0_addPerson 26 = .ok (.iload_n 2, 1) := by decide +kernel
theorem dX0_addPerson_27 : decode cX0_addPerson 27 = .ok (.invokevirtual 34, 3) := by decide +kernel
theorem dX0_addPerson_30 : decode cX0_addPerson 30 = .ok (.aload_n 0, 1) := by decide +kernel
theorem dX0_addPerson_31 : decode cX0_addPerson 31 = .ok (.aload_n 0, 1) := by decide +kernel
theorem dX0_addPerson_32 : decode cX0_addPerson 32 = .ok (.getfield 18, 3) := by decide +kernel
theorem dX0_addPerson_35 : decode cX0_addPerson 35 = .ok (.iconst 2, 1) := by decide +kernel
theorem dX0_addPerson_36 : decode cX0_addPerson 36 = .ok (.iload_n 3, 1) := by decide +kernel
theorem dX0_addPerson_37 : decode cX0_addPerson 37 = .ok (.invokevirtual 34, 3) := by decide +kernel
theorem dX0_addPerson_40 : decode cX0_addPerson 40 = .ok (.aload_n 0, 1) := by decide +kernel
theorem dX0_addPerson_41 : decode cX0_addPerson 41 = .ok (.aload_n 0, 1) := by decide +kernel
theorem dX0_addPerson_42 : decode cX0_addPerson 42 = .ok (.getfield 18, 3) := by decide +kernel
theorem dX0_addPerson_45 : decode cX0_addPerson 45 = .ok (.iconst 3, 1) := by decide +kernel
theorem dX0_addPerson_46 : decode cX0_addPerson 46 = .ok (.iload 4, 2) := by decide +kernel
theorem dX0_addPerson_48 : decode cX0_addPerson 48 = .ok (.invokevirtual 34, 3) := by decide +kernel
theorem dX0_addPerson_51 : decode cX0_addPerson 51 = .ok (.aload_n 0, 1) := by decide +kernel
theorem dX0_addPerson_52 : decode cX0_addPerson 52 = .ok (.aload_n 0, 1) := by decide +kernel
theorem dX0_addPerson_53 : decode cX0_addPerson 53 = .ok (.getfield 18, 3) := by decide +kernel
theorem dX0_addPerson_56 : decode cX0_addPerson 56 = .ok (.iconst 4, 1) := by decide +kernel
theorem dX0_addPerson_57 : decode cX0_addPerson 57 = .ok (.iload 4, 2) := by decide +kernel
theorem dX0_addPerson_59 : decode cX0_addPerson 59 = .ok (.invokevirtual 34, 3) := by decide +kernel
theorem dX0_addPerson_62 : decode cX0_addPerson 62 = .ok (.aload_n 0, 1) := by decide +kernel
theorem dX0_addPerson_63 : decode cX0_addPerson 63 = .ok (.aload_n 0, 1) := by decide +kernel
theorem dX0_addPerson_64 : decode cX0_addPerson 64 = .ok (.getfield 18, 3) := by decide +kernel
theorem dX0_addPerson_67 : decode cX0_addPerson 67 = .ok (.iconst 5, 1) := by decide +kernel
theorem dX0_addPerson_68 : decode cX0_addPerson 68 = .ok (.iload 5, 2) := by decide +kernel
theorem dX0_addPerson_70 : decode cX0_addPerson 70 = .ok (.invokevirtual 34, 3) := by decide +kernel
theorem dX0_addPerson_73 : decode cX0_addPerson 73 = .ok (.aload_n 0, 1) := by decide +kernel
theorem dX0_addPerson_74 : decode cX0_addPerson 74 = .ok (.aload_n 0, 1) := by decide +kernel
theorem dX0_addPerson_75 : decode cX0_addPerson 75 = .ok (.getfield 18, 3) := by decide +kernel
theorem dX0_addPerson_78 : decode cX0_addPerson 78 = .ok (.bipush 6, 2) := by decide +kernel
theorem dX0_addPerson_80 : decode cX0_addPerson 80 = .ok (.iconst 0, 1) := by decide +kernel
theorem dX0_addPerson_81 : decode cX0_addPerson 81 = .ok (.invokevirtual 34, 3) := by decide +kernel
theorem dX0_addPerson_84 : decode cX0_addPerson 84 = .ok (.aload_n 0, 1) := by decide +kernel
theorem dX0_addPerson_85 : decode cX0_addPerson 85 = .ok (.aload_n 0, 1) := by decide +kernel
theorem dX0_addPerson_86 : decode cX0_addPerson 86 = .ok (.getfield 18, 3) := by decide +kernel
theorem dX0_addPerson_89 : decode cX0_addPerson 89 = .ok (.bipush 7, 2) := by decide +kernel
theorem dX0_addPerson_91 : decode cX0_addPerson 91 = .ok (.bipush (-4), 2) := by decide +kernel
theorem dX0_addPerson_93 : decode cX0_addPerson 93 = .ok (.invokevirtual 34, 3) := by decide +kernel
theorem dX0_addPerson_96 : decode cX0_addPerson 96 = .ok (.aload_n 0, 1) := by decide +kernel
theorem dX0_addPerson_97 : decode cX0_addPerson 97 = .ok (.dup, 1) := by decide +kernel
theorem dX0_addPerson_98 : decode cX0_addPerson 98 = .ok (.getfield 18, 3) := by decide +kernel
theorem dX0_addPerson_101 : decode cX0_addPerson 101 = .ok (.iconst 1, 1) := by decide +kernel
theorem dX0_addPerson_102 : decode cX0_addPerson 102 = .ok (.iadd, 1) := by decide +kernel
theorem dX0_addPerson_103 : decode cX0_addPerson 103 = .ok (.putfield 18, 3) := by decide +kernel
theorem dX0_addPerson_106 : decode cX0_addPerson 106 = .ok (.return_, 1) := by decide +kernel
theorem dX0_addWrong_0 : decode cX0_addWrong 0 = .ok (.aload_n 0, 1) := by decide +kernel
theorem dX0_addWrong_1 : decode cX0_addWrong 1 = .ok (.getfield 22, 3) := by decide +kernel
theorem dX0_addWrong_4 : decode cX0_addWrong 4 = .ok (.bipush 8, 2) := by decide +kernel
theorem dX0_addWrong_6 : decode cX0_addWrong 6 = .ok (.if_icmp .lt 4, 3) := by decide +kernel
theorem dX0_addWrong_9 : decode cX0_addWrong 9 = .ok (.return_, 1) := by decide +kernel
theorem dX0_addWrong_10 : decode cX0_addWrong 10 = .ok (.aload_n 0, 1) := by decide +kernel
theorem dX0_addWrong_11 : decode cX0_addWrong 11 = .ok (.aload_n 0, 1) := by decide +kernel
theorem dX0_addWrong_12 : decode cX0_addWrong 12 = .ok (.getfield 22, 3) := by decide +kernel
theorem dX0_addWrong_15 : decode cX0_addWrong 15 = .ok (.iconst 0, 1) := by decide +kernel
theorem dX0_addWrong_16 : decode cX0_addWrong 16 = .ok (.iload_n 1, 1) := by decide +kernel
theorem dX0_addWrong_17 : decode cX0_addWrong 17 = .ok (.invokevirtual 38, 3) := by decide +kernel
theorem dX0_addWrong_20 : decode cX0_addWrong 20 = .ok (.aload_n 0, 1) := by decide +kernel
theorem dX0_addWrong_21 : decode cX0_addWrong 21 = .ok (.aload_n 0, 1) := by decide +kernel
theorem dX0_addWrong_22 : decode cX0_addWrong 22 = .ok (.getfield 22, 3) := by decide +kernel
theorem dX0_addWrong_25 : decode cX0_addWrong 25 = .ok (.iconst 1, 1) := by decide +kernel
theorem dX0_addWrong_26 : decode cX0_addWrong 26 = .ok (.iload_n 2, 1) := by decide +kernel
theorem dX0_addWrong_27 : decode cX0_addWrong 27 = .ok (.invokevirtual 38, 3) := by decide +kernel
theorem dX0_addWrong_30 : decode cX0_addWrong 30 = .ok (.aload_n 0, 1) := by decide +kernel
theorem dX0_addWrong_31 : decode cX0_addWrong 31 = .ok (.aload_n 0, 1) := by decide +kernel
theorem dX0_addWrong_32 : decode cX0_addWrong 32 = .ok (.getfield 22, 3) := by decide +kernel
theorem dX0_addWrong_35 : decode cX0_addWrong 35 = .ok (.iconst 2, 1) := by decide +kernel
theorem dX0_addWrong_36 : decode cX0_addWrong 36 = .ok (.iload_n 3, 1) := by decide +kernel
theorem dX0_addWrong_37 : decode cX0_addWrong 37 = .ok (.invokevirtual 38, 3) := by decide +kernel
theorem dX0_addWrong_40 : decode cX0_addWrong 40 = .ok (.aload_n 0, 1) := by decide +kernel
theorem dX0_addWrong_41 : decode cX0_addWrong 41 = .ok (.aload_n 0, 1) := by decide +kernel
theorem dX0_addWrong_42 : decode cX0_addWrong 42 = .ok (.getfield 22, 3) := by decide +kernel
theorem dX0_addWrong_45 : decode cX0_addWrong 45 = .ok (.iconst 3, 1) := by decide +kernel
theorem dX0_addWrong_46 : decode cX0_addWrong 46 = .ok (.bipush (-4), 2) := by decide +kernel
theorem dX0_addWrong_48 : decode cX0_addWrong 48 = .ok (.invokevirtual 38, 3) := by decide +kernel
theorem dX0_addWrong_51 : decode cX0_addWrong 51 = .ok (.aload_n 0, 1) := by decide +kernel
theorem dX0_addWrong_52 : decode cX0_addWrong 52 = .ok (.dup, 1) := by decide +kernel
theorem dX0_addWrong_53 : decode cX0_addWrong 53 = .ok (.getfield 22, 3) := by decide +kernel
theorem dX0_addWrong_56 : decode cX0_addWrong 56 = .ok (.iconst 1, 1) := by decide +kernel
theorem dX0_addWrong_57 : decode cX0_addWrong 57 = .ok (.iadd, 1) := by decide +kernel
theorem dX0_addWrong_58 : decode cX0_addWrong 58 = .ok (.putfield 22, 3) := by decide +kernel
theorem dX0_addWrong_61 : decode cX0_addWrong 61 = .ok (.return_, 1) := by decide +kernel
theorem dX0_isOpen_0 : decode cX0_isOpen 0 = .ok (.aload_n 0, 1) := by decide +kernel
theorem dX0_isOpen_1 : decode cX0_isOpen 1 = .ok (.iload_n 1, 1) := by decide +kernel
theorem dX0_isOpen_2 : decode cX0_isOpen 2 = .ok (.iconst 3, 1) := by decide +kernel
theorem dX0_isOpen_3 : decode cX0_isOpen 3 = .ok (.invokevirtual 41, 3) := by decide +kernel
theorem dX0_isOpen_6 : decode cX0_isOpen 6 = .ok (.bipush (-4), 2) := by decide +kernel
theorem dX0_isOpen_8 : decode cX0_isOpen 8 = .ok (.if_icmp .ne 7, 3) := by decide +kernel
theorem dX0_isOpen_11 : decode cX0_isOpen 11 = .ok (.iconst 1, 1) := by decide +kernel
theorem dX0_isOpen_12 : decode cX0_isOpen 12 = .ok (.goto 4, 3) := by decide +kernel
theorem dX0_isOpen_15 : decode cX0_isOpen 15 = .ok (.iconst 0, 1) := by decide +kernel
theorem dX0_isOpen_16 : decode cX0_isOpen 16 = .ok (.ireturn, 1) := by decide +kernel
theorem dX0_need_0 : decode cX0_need 0 = .ok (.aload_n 0, 1) := by decide +kernel
theorem dX0_need_1 : decode cX0_need 1 = .ok (.iload_n 1, 1) := by decide +kernel
theorem dX0_need_2 : decode cX0_need 2 = .ok (.iconst 2, 1) := by decide +kernel
theorem dX0_need_3 : decode cX0_need 3 = .ok (.invokevirtual 41, 3) := by decide +kernel
theorem dX0_need_6 : decode cX0_need 6 = .ok (.aload_n 0, 1) := by decide +kernel
theorem dX0_need_7 : decode cX0_need 7 = .ok (.aload_n 0, 1) := by decide +kernel
theorem dX0_need_8 : decode cX0_need 8 = .ok (.iload_n 1, 1) := by decide +kernel
theorem dX0_need_9 : decode cX0_need 9 = .ok (.iconst 1, 1) := by decide +kernel
theorem dX0_need_10 : decode cX0_need 10 = .ok (.invokevirtual 41, 3) := by decide +kernel
theorem dX0_need_13 : decode cX0_need 13 = .ok (.iconst 2, 1) := by decide +kernel
theorem dX0_need_14 : decode cX0_need 14 = .ok (.invokevirtual 45, 3) := by decide +kernel
theorem dX0_need_17 : decode cX0_need 17 = .ok (.iconst 2, 1) := by decide +kernel
theorem dX0_need_18 : decode cX0_need 18 = .ok (.idiv, 1) := by decide +kernel
theorem dX0_need_19 : decode cX0_need 19 = .ok (.iadd, 1) := by decide +kernel
theorem dX0_need_20 : decode cX0_need 20 = .ok (.ireturn, 1) := by decide +kernel
theorem dX0_milesOf_0 : decode cX0_milesOf 0 = .ok (.aload_n 0, 1) := by decide +kernel
theorem dX0_milesOf_1 : decode cX0_milesOf 1 = .ok (.iload_n 2, 1) := by decide +kernel
theorem dX0_milesOf_2 : decode cX0_milesOf 2 = .ok (.iconst 4, 1) := by decide +kernel
theorem dX0_milesOf_3 : decode cX0_milesOf 3 = .ok (.invokevirtual 45, 3) := by decide +kernel
theorem dX0_milesOf_6 : decode cX0_milesOf 6 = .ok (.aload_n 0, 1) := by decide +kernel
theorem dX0_milesOf_7 : decode cX0_milesOf 7 = .ok (.aload_n 0, 1) := by decide +kernel
theorem dX0_milesOf_8 : decode cX0_milesOf 8 = .ok (.iload_n 1, 1) := by decide +kernel
theorem dX0_milesOf_9 : decode cX0_milesOf 9 = .ok (.iconst 1, 1) := by decide +kernel
theorem dX0_milesOf_10 : decode cX0_milesOf 10 = .ok (.invokevirtual 41, 3) := by decide +kernel
theorem dX0_milesOf_13 : decode cX0_milesOf 13 = .ok (.iconst 3, 1) := by decide +kernel
theorem dX0_milesOf_14 : decode cX0_milesOf 14 = .ok (.invokevirtual 45, 3) := by decide +kernel
theorem dX0_milesOf_17 : decode cX0_milesOf 17 = .ok (.isub, 1) := by decide +kernel
theorem dX0_milesOf_18 : decode cX0_milesOf 18 = .ok (.invokestatic 48, 3) := by decide +kernel
theorem dX0_milesOf_21 : decode cX0_milesOf 21 = .ok (.ireturn, 1) := by decide +kernel
theorem dX0_saying_0 : decode cX0_saying 0 = .ok (.aload_n 0, 1) := by decide +kernel
theorem dX0_saying_1 : decode cX0_saying 1 = .ok (.iload_n 2, 1) := by decide +kernel
theorem dX0_saying_2 : decode cX0_saying 2 = .ok (.iconst 0, 1) := by decide +kernel
theorem dX0_saying_3 : decode cX0_saying 3 = .ok (.invokevirtual 45, 3) := by decide +kernel
theorem dX0_saying_6 : decode cX0_saying 6 = .ok (.aload_n 0, 1) := by decide +kernel
theorem dX0_saying_7 : decode cX0_saying 7 = .ok (.iload_n 2, 1) := by decide +kernel
theorem dX0_saying_8 : decode cX0_saying 8 = .ok (.iconst 1, 1) := by decide +kernel
theorem dX0_saying_9 : decode cX0_saying 9 = .ok (.invokevirtual 45, 3) := by decide +kernel
theorem dX0_saying_12 : decode cX0_saying 12 = .ok (.aload_n 0, 1) := by decide +kernel
theorem dX0_saying_13 : decode cX0_saying 13 = .ok (.iload_n 2, 1) := by decide +kernel
theorem dX0_saying_14 : decode cX0_saying 14 = .ok (.bipush 6, 2) := by decide +kernel
theorem dX0_saying_16 : decode cX0_saying 16 = .ok (.invokevirtual 45, 3) := by decide +kernel
theorem dX0_saying_19 : decode cX0_saying 19 = .ok (.aload_n 0, 1) := by decide +kernel
theorem dX0_saying_20 : decode cX0_saying 20 = .ok (.iload_n 1, 1) := by decide +kernel
theorem dX0_saying_21 : decode cX0_saying 21 = .ok (.iload_n 2, 1) := by decide +kernel
theorem dX0_saying_22 : decode cX0_saying 22 = .ok (.invokevirtual 54, 3) := by decide +kernel
theorem dX0_saying_25 : decode cX0_saying 25 = .ok (.invokestatic 57, 3) := by decide +kernel
theorem dX0_saying_28 : decode cX0_saying 28 = .ok (.ireturn, 1) := by decide +kernel
theorem dX0_mayCarry_0 : decode cX0_mayCarry 0 = .ok (.aload_n 0, 1) := by decide +kernel
theorem dX0_mayCarry_1 : decode cX0_mayCarry 1 = .ok (.iload_n 1, 1) := by decide +kernel
theorem dX0_mayCarry_2 : decode cX0_mayCarry 2 = .ok (.invokevirtual 61, 3) := by decide +kernel
theorem dX0_mayCarry_5 : decode cX0_mayCarry 5 = .ok (.ifCond .eq 19, 3) := by decide +kernel
theorem dX0_mayCarry_8 : decode cX0_mayCarry 8 = .ok (.aload_n 0, 1) := by decide +kernel
theorem dX0_mayCarry_9 : decode cX0_mayCarry 9 = .ok (.iload_n 2, 1) := by decide +kernel
theorem dX0_mayCarry_10 : decode cX0_mayCarry 10 = .ok (.invokevirtual 65, 3) := by decide +kernel
theorem dX0_mayCarry_13 : decode cX0_mayCarry 13 = .ok (.ifCond .eq 11, 3) := by decide +kernel
theorem dX0_mayCarry_16 : decode cX0_mayCarry 16 = .ok (.aload_n 0, 1) := by decide +kernel
theorem dX0_mayCarry_17 : decode cX0_mayCarry 17 = .ok (.iload_n 1, 1) := by decide +kernel
theorem dX0_mayCarry_18 : decode cX0_mayCarry 18 = .ok (.invokevirtual 68, 3) := by decide +kernel
theorem dX0_mayCarry_21 : decode cX0_mayCarry 21 = .ok (.ifCond .ne 5, 3) := by decide +kernel
theorem dX0_mayCarry_24 : decode cX0_mayCarry 24 = .ok (.iconst 0, 1) := by decide +kernel
theorem dX0_mayCarry_25 : decode cX0_mayCarry 25 = .ok (.ireturn, 1) := by decide +kernel
theorem dX0_mayCarry_26 : decode cX0_mayCarry 26 = .ok (.aload_n 0, 1) := by decide +kernel
theorem dX0_mayCarry_27 : decode cX0_mayCarry 27 = .ok (.iload_n 1, 1) := by decide +kernel
theorem dX0_mayCarry_28 : decode cX0_mayCarry 28 = .ok (.iconst 1, 1) := by decide +kernel
theorem dX0_mayCarry_29 : decode cX0_mayCarry 29 = .ok (.invokevirtual 41, 3) := by decide +kernel
theorem dX0_mayCarry_32 : decode cX0_mayCarry 32 = .ok (.istore_n 3, 1) := by decide +kernel
theorem dX0_mayCarry_33 : decode cX0_mayCarry 33 = .ok (.aload_n 0, 1) := by decide +kernel
theorem dX0_mayCarry_34 : decode cX0_mayCarry 34 = .ok (.iload_n 2, 1) := by decide +kernel
theorem dX0_mayCarry_35 : decode cX0_mayCarry 35 = .ok (.iconst 5, 1) := by decide +kernel
theorem dX0_mayCarry_36 : decode cX0_mayCarry 36 = .ok (.invokevirtual 45, 3) := by decide +kernel
theorem dX0_mayCarry_39 : decode cX0_mayCarry 39 = .ok (.aload_n 0, 1) := by decide +kernel
theorem dX0_mayCarry_40 : decode cX0_mayCarry 40 = .ok (.iload_n 1, 1) := by decide +kernel
theorem dX0_mayCarry_41 : decode cX0_mayCarry 41 = .ok (.iconst 0, 1) := by decide +kernel
theorem dX0_mayCarry_42 : decode cX0_mayCarry 42 = .ok (.invokevirtual 41, 3) := by decide +kernel
theorem dX0_mayCarry_45 : decode cX0_mayCarry 45 = .ok (.if_icmp .ne 34, 3) := by decide +kernel
theorem dX0_mayCarry_48 : decode cX0_mayCarry 48 = .ok (.iload_n 2, 1) := by decide +kernel
theorem dX0_mayCarry_49 : decode cX0_mayCarry 49 = .ok (.iload_n 3, 1) := by decide +kernel
theorem dX0_mayCarry_50 : decode cX0_mayCarry 50 = .ok (.if_icmp .eq 29, 3) := by decide +kernel
theorem dX0_mayCarry_53 : decode cX0_mayCarry 53 = .ok (.aload_n 0, 1) := by decide +kernel
theorem dX0_mayCarry_54 : decode cX0_mayCarry 54 = .ok (.iload_n 2, 1) := by decide +kernel
theorem dX0_mayCarry_55 : decode cX0_mayCarry 55 = .ok (.iconst 4, 1) := by decide +kernel
theorem dX0_mayCarry_56 : decode cX0_mayCarry 56 = .ok (.invokevirtual 45, 3) := by decide +kernel
theorem dX0_mayCarry_59 : decode cX0_mayCarry 59 = .ok (.aload_n 0, 1) := by decide +kernel
theorem dX0_mayCarry_60 : decode cX0_mayCarry 60 = .ok (.iload_n 3, 1) := by decide +kernel
theorem dX0_mayCarry_61 : decode cX0_mayCarry 61 = .ok (.iconst 3, 1) := by decide +kernel
theorem dX0_mayCarry_62 : decode cX0_mayCarry 62 = .ok (.invokevirtual 45, 3) := by decide +kernel
theorem dX0_mayCarry_65 : decode cX0_mayCarry 65 = .ok (.aload_n 0, 1) := by decide +kernel
theorem dX0_mayCarry_66 : decode cX0_mayCarry 66 = .ok (.getfield 25, 3) := by decide +kernel
theorem dX0_mayCarry_69 : decode cX0_mayCarry 69 = .ok (.invokestatic 71, 3) := by decide +kernel
theorem dX0_mayCarry_72 : decode cX0_mayCarry 72 = .ok (.ifCond .ne 7, 3) := by decide +kernel
theorem dX0_mayCarry_75 : decode cX0_mayCarry 75 = .ok (.iconst 1, 1) := by decide +kernel
theorem dX0_mayCarry_76 : decode cX0_mayCarry 76 = .ok (.goto 4, 3) := by decide +kernel
theorem dX0_mayCarry_79 : decode cX0_mayCarry 79 = .ok (.iconst 0, 1) := by decide +kernel
theorem dX0_mayCarry_80 : decode cX0_mayCarry 80 = .ok (.ireturn, 1) := by decide +kernel
theorem dX0_outcome_0 : decode cX0_outcome 0 = .ok (.aload_n 0, 1) := by decide +kernel
theorem dX0_outcome_1 : decode cX0_outcome 1 = .ok (.iload_n 1, 1) := by decide +kernel
theorem dX0_outcome_2 : decode cX0_outcome 2 = .ok (.iload_n 2, 1) := by decide +kernel
theorem dX0_outcome_3 : decode cX0_outcome 3 = .ok (.invokevirtual 75, 3) := by decide +kernel
theorem dX0_outcome_6 : decode cX0_outcome 6 = .ok (.aload_n 0, 1) := by decide +kernel
theorem dX0_outcome_7 : decode cX0_outcome 7 = .ok (.iload_n 1, 1) := by decide +kernel
theorem dX0_outcome_8 : decode cX0_outcome 8 = .ok (.invokevirtual 78, 3) := by decide +kernel
theorem dX0_outcome_11 : decode cX0_outcome 11 = .ok (.isub, 1) := by decide +kernel
theorem dX0_outcome_12 : decode cX0_outcome 12 = .ok (.istore_n 3, 1) := by decide +kernel
theorem dX0_outcome_13 : decode cX0_outcome 13 = .ok (.iload_n 3, 1) := by decide +kernel
theorem dX0_outcome_14 : decode cX0_outcome 14 = .ok (.ifCond .ge 5, 3) := by decide +kernel
theorem dX0_outcome_17 : decode cX0_outcome 17 = .ok (.iconst 0, 1) := by decide +kernel
theorem dX0_outcome_18 : decode cX0_outcome 18 = .ok (.ireturn, 1) := by decide +kernel
theorem dX0_outcome_19 : decode cX0_outcome 19 = .ok (.iload_n 3, 1) := by decide +kernel
theorem dX0_outcome_20 : decode cX0_outcome 20 = .ok (.iconst 4, 1) := by decide +kernel
theorem dX0_outcome_21 : decode cX0_outcome 21 = .ok (.if_icmp .lt 24, 3) := by decide +kernel
theorem dX0_outcome_24 : decode cX0_outcome 24 = .ok (.aload_n 0, 1) := by decide +kernel
theorem dX0_outcome_25 : decode cX0_outcome 25 = .ok (.aload_n 0, 1) := by decide +kernel
theorem dX0_outcome_26 : decode cX0_outcome 26 = .ok (.iload_n 1, 1) := by decide +kernel
theorem dX0_outcome_27 : decode cX0_outcome 27 = .ok (.iconst 1, 1) := by decide +kernel
theorem dX0_outcome_28 : decode cX0_outcome 28 = .ok (.invokevirtual 41, 3) := by decide +kernel
theorem dX0_outcome_31 : decode cX0_outcome 31 = .ok (.bipush 7, 2) := by decide +kernel
theorem dX0_outcome_33 : decode cX0_outcome 33 = .ok (.invokevirtual 45, 3) := by decide +kernel
theorem dX0_outcome_36 : decode cX0_outcome 36 = .ok (.bipush (-4), 2) := by decide +kernel
theorem dX0_outcome_38 : decode cX0_outcome 38 = .ok (.if_icmp .ne 7, 3) := by decide +kernel
theorem dX0_outcome_41 : decode cX0_outcome 41 = .ok (.iconst 2, 1) := by decide +kernel
theorem dX0_outcome_42 : decode cX0_outcome 42 = .ok (.goto 4, 3) := by decide +kernel
theorem dX0_outcome_45 : decode cX0_outcome 45 = .ok (.iconst 1, 1) := by decide +kernel
theorem dX0_outcome_46 : decode cX0_outcome 46 = .ok (.ireturn, 1) := by decide +kernel
theorem dX0_deliver_0 : decode cX0_deliver 0 = .ok (.aload_n 0, 1) := by decide +kernel
theorem dX0_deliver_1 : decode cX0_deliver 1 = .ok (.iload_n 1, 1) := by decide +kernel
theorem dX0_deliver_2 : decode cX0_deliver 2 = .ok (.iload_n 2, 1) := by decide +kernel
theorem dX0_deliver_3 : decode cX0_deliver 3 = .ok (.invokevirtual 81, 3) := by decide +kernel
theorem dX0_deliver_6 : decode cX0_deliver 6 = .ok (.istore_n 3, 1) := by decide +kernel
theorem dX0_deliver_7 : decode cX0_deliver 7 = .ok (.aload_n 0, 1) := by decide +kernel
theorem dX0_deliver_8 : decode cX0_deliver 8 = .ok (.iload_n 1, 1) := by decide +kernel
theorem dX0_deliver_9 : decode cX0_deliver 9 = .ok (.iconst 1, 1) := by decide +kernel
theorem dX0_deliver_10 : decode cX0_deliver 10 = .ok (.invokevirtual 41, 3) := by decide +kernel
theorem dX0_deliver_13 : decode cX0_deliver 13 = .ok (.istore 4, 2) := by decide +kernel
theorem dX0_deliver_15 : decode cX0_deliver 15 = .ok (.iload_n 3, 1) := by decide +kernel
theorem dX0_deliver_16 : decode cX0_deliver 16 = .ok (.ifCond .ne 37, 3) := by decide +kernel
theorem dX0_deliver_19 : decode cX0_deliver 19 = .ok (.aload_n 0, 1) := by decide +kernel
theorem dX0_deliver_20 : decode cX0_deliver 20 = .ok (.iload_n 1, 1) := by decide +kernel
theorem dX0_deliver_21 : decode cX0_deliver 21 = .ok (.iconst 2, 1) := by decide +kernel
theorem dX0_deliver_22 : decode cX0_deliver 22 = .ok (.invokevirtual 41, 3) := by decide +kernel
theorem dX0_deliver_25 : decode cX0_deliver 25 = .ok (.aload_n 0, 1) := by decide +kernel
theorem dX0_deliver_26 : decode cX0_deliver 26 = .ok (.iload_n 2, 1) := by decide +kernel
theorem dX0_deliver_27 : decode cX0_deliver 27 = .ok (.iconst 0, 1) := by decide +kernel
theorem dX0_deliver_28 : decode cX0_deliver 28 = .ok (.invokevirtual 45, 3) := by decide +kernel
theorem dX0_deliver_31 : decode cX0_deliver 31 = .ok (.invokestatic 84, 3) := by decide +kernel
theorem dX0_deliver_34 : decode cX0_deliver 34 = .ok (.iadd, 1) := by decide +kernel
theorem dX0_deliver_35 : decode cX0_deliver 35 = .ok (.istore 5, 2) := by decide +kernel
theorem dX0_deliver_37 : decode cX0_deliver 37 = .ok (.aload_n 0, 1) := by decide +kernel
theorem dX0_deliver_38 : decode cX0_deliver 38 = .ok (.iload_n 1, 1) := by decide +kernel
theorem dX0_deliver_39 : decode cX0_deliver 39 = .ok (.iconst 2, 1) := by decide +kernel
theorem dX0_deliver_40 : decode cX0_deliver 40 = .ok (.bipush 9, 2) := by decide +kernel
theorem dX0_deliver_42 : decode cX0_deliver 42 = .ok (.iload 5, 2) := by decide +kernel
theorem dX0_deliver_44 : decode cX0_deliver 44 = .ok (.invokestatic 87, 3) := by decide +kernel
theorem dX0_deliver_47 : decode cX0_deliver 47 = .ok (.invokevirtual 38, 3) := by decide +kernel
theorem dX0_deliver_50 : decode cX0_deliver 50 = .ok (.goto 10, 3) := by decide +kernel
theorem dX0_deliver_53 : decode cX0_deliver 53 = .ok (.aload_n 0, 1) := by decide +kernel
theorem dX0_deliver_54 : decode cX0_deliver 54 = .ok (.iload_n 1, 1) := by decide +kernel
theorem dX0_deliver_55 : decode cX0_deliver 55 = .ok (.iconst 3, 1) := by decide +kernel
theorem dX0_deliver_56 : decode cX0_deliver 56 = .ok (.iload_n 2, 1) := by decide +kernel
theorem dX0_deliver_57 : decode cX0_deliver 57 = .ok (.invokevirtual 38, 3) := by decide +kernel
theorem dX0_deliver_60 : decode cX0_deliver 60 = .ok (.iload_n 3, 1) := by decide +kernel
theorem dX0_deliver_61 : decode cX0_deliver 61 = .ok (.iconst 2, 1) := by decide +kernel
theorem dX0_deliver_62 : decode cX0_deliver 62 = .ok (.if_icmp .ne 20, 3) := by decide +kernel
theorem dX0_deliver_65 : decode cX0_deliver 65 = .ok (.aload_n 0, 1) := by decide +kernel
theorem dX0_deliver_66 : decode cX0_deliver 66 = .ok (.iload 4, 2) := by decide +kernel
theorem dX0_deliver_68 : decode cX0_deliver 68 = .ok (.bipush 7, 2) := by decide +kernel
theorem dX0_deliver_70 : decode cX0_deliver 70 = .ok (.iload_n 2, 1) := by decide +kernel
theorem dX0_deliver_71 : decode cX0_deliver 71 = .ok (.invokevirtual 34, 3) := by decide +kernel
theorem dX0_deliver_74 : decode cX0_deliver 74 = .ok (.aload_n 0, 1) := by decide +kernel
theorem dX0_deliver_75 : decode cX0_deliver 75 = .ok (.iload_n 2, 1) := by decide +kernel
theorem dX0_deliver_76 : decode cX0_deliver 76 = .ok (.iconst 5, 1) := by decide +kernel
theorem dX0_deliver_77 : decode cX0_deliver 77 = .ok (.bipush (-4), 2) := by decide +kernel
theorem dX0_deliver_79 : decode cX0_deliver 79 = .ok (.invokevirtual 34, 3) := by decide +kernel
theorem dX0_deliver_82 : decode cX0_deliver 82 = .ok (.aload_n 0, 1) := by decide +kernel
theorem dX0_deliver_83 : decode cX0_deliver 83 = .ok (.iload_n 2, 1) := by decide +kernel
theorem dX0_deliver_84 : decode cX0_deliver 84 = .ok (.iconst 4, 1) := by decide +kernel
theorem dX0_deliver_85 : decode cX0_deliver 85 = .ok (.aload_n 0, 1) := by decide +kernel
theorem dX0_deliver_86 : decode cX0_deliver 86 = .ok (.iload 4, 2) := by decide +kernel
theorem dX0_deliver_88 : decode cX0_deliver 88 = .ok (.iconst 3, 1) := by decide +kernel
theorem dX0_deliver_89 : decode cX0_deliver 89 = .ok (.invokevirtual 45, 3) := by decide +kernel
theorem dX0_deliver_92 : decode cX0_deliver 92 = .ok (.invokevirtual 34, 3) := by decide +kernel
theorem dX0_deliver_95 : decode cX0_deliver 95 = .ok (.aload_n 0, 1) := by decide +kernel
theorem dX0_deliver_96 : decode cX0_deliver 96 = .ok (.iload_n 2, 1) := by decide +kernel
theorem dX0_deliver_97 : decode cX0_deliver 97 = .ok (.bipush 6, 2) := by decide +kernel
theorem dX0_deliver_99 : decode cX0_deliver 99 = .ok (.aload_n 0, 1) := by decide +kernel
theorem dX0_deliver_100 : decode cX0_deliver 100 = .ok (.iload_n 2, 1) := by decide +kernel
theorem dX0_deliver_101 : decode cX0_deliver 101 = .ok (.bipush 6, 2) := by decide +kernel
theorem dX0_deliver_103 : decode cX0_deliver 103 = .ok (.invokevirtual 45, 3) := by decide +kernel
theorem dX0_deliver_106 : decode cX0_deliver 106 = .ok (.iconst 1, 1) := by decide +kernel
theorem dX0_deliver_107 : decode cX0_deliver 107 = .ok (.iadd, 1) := by decide +kernel
theorem dX0_deliver_108 : decode cX0_deliver 108 = .ok (.invokevirtual 34, 3) := by decide +kernel
theorem dX0_deliver_111 : decode cX0_deliver 111 = .ok (.aload_n 0, 1) := by decide +kernel
theorem dX0_deliver_112 : decode cX0_deliver 112 = .ok (.invokevirtual 90, 3) := by decide +kernel
theorem dX0_deliver_115 : decode cX0_deliver 115 = .ok (.iload_n 3, 1) := by decide +kernel
theorem dX0_deliver_116 : decode cX0_deliver 116 = .ok (.ireturn, 1) := by decide +kernel
theorem dX0_leastSkill_0 : decode cX0_leastSkill 0 = .ok (.iconst 0, 1) := by decide +kernel
theorem dX0_leastSkill_1 : decode cX0_leastSkill 1 = .ok (.istore_n 3, 1) := by decide +kernel
theorem dX0_leastSkill_2 : decode cX0_leastSkill 2 = .ok (.iload_n 3, 1) := by decide +kernel
theorem dX0_leastSkill_3 : decode cX0_leastSkill 3 = .ok (.bipush 9, 2) := by decide +kernel
theorem dX0_leastSkill_5 : decode cX0_leastSkill 5 = .ok (.if_icmp .gt 42, 3) := by decide +kernel
theorem dX0_leastSkill_8 : decode cX0_leastSkill 8 = .ok (.aload_n 0, 1) := by decide +kernel
theorem dX0_leastSkill_9 : decode cX0_leastSkill 9 = .ok (.iload_n 2, 1) := by decide +kernel
theorem dX0_leastSkill_10 : decode cX0_leastSkill 10 = .ok (.iconst 0, 1) := by decide +kernel
theorem dX0_leastSkill_11 : decode cX0_leastSkill 11 = .ok (.invokevirtual 45, 3) := by decide +kernel
theorem dX0_leastSkill_14 : decode cX0_leastSkill 14 = .ok (.iload_n 3, 1) := by decide +kernel
theorem dX0_leastSkill_15 : decode cX0_leastSkill 15 = .ok (.aload_n 0, 1) := by decide +kernel
theorem dX0_leastSkill_16 : decode cX0_leastSkill 16 = .ok (.iload_n 2, 1) := by decide +kernel
theorem dX0_leastSkill_17 : decode cX0_leastSkill 17 = .ok (.bipush 6, 2) := by decide +kernel
theorem dX0_leastSkill_19 : decode cX0_leastSkill 19 = .ok (.invokevirtual 45, 3) := by decide +kernel
theorem dX0_leastSkill_22 : decode cX0_leastSkill 22 = .ok (.aload_n 0, 1) := by decide +kernel
theorem dX0_leastSkill_23 : decode cX0_leastSkill 23 = .ok (.iload_n 1, 1) := by decide +kernel
theorem dX0_leastSkill_24 : decode cX0_leastSkill 24 = .ok (.iload_n 2, 1) := by decide +kernel
theorem dX0_leastSkill_25 : decode cX0_leastSkill 25 = .ok (.invokevirtual 54, 3) := by decide +kernel
theorem dX0_leastSkill_28 : decode cX0_leastSkill 28 = .ok (.invokestatic 57, 3) := by decide +kernel
theorem dX0_leastSkill_31 : decode cX0_leastSkill 31 = .ok (.aload_n 0, 1) := by decide +kernel
theorem dX0_leastSkill_32 : decode cX0_leastSkill 32 = .ok (.iload_n 1, 1) := by decide +kernel
theorem dX0_leastSkill_33 : decode cX0_leastSkill 33 = .ok (.invokevirtual 78, 3) := by decide +kernel
theorem dX0_leastSkill_36 : decode cX0_leastSkill 36 = .ok (.if_icmp .lt 5, 3) := by decide +kernel
theorem dX0_leastSkill_39 : decode cX0_leastSkill 39 = .ok (.iload_n 3, 1) := by decide +kernel
theorem dX0_leastSkill_40 : decode cX0_leastSkill 40 = .ok (.ireturn, 1) := by decide +kernel
theorem dX0_leastSkill_41 : decode cX0_leastSkill 41 = .ok (.iinc 3 1, 3) := by decide +kernel
theorem dX0_leastSkill_44 : decode cX0_leastSkill 44 = .ok (.goto (-42), 3) := by decide +kernel
theorem dX0_leastSkill_47 : decode cX0_leastSkill 47 = .ok (.bipush (-4), 2) := by decide +kernel
theorem dX0_leastSkill_49 : decode cX0_leastSkill 49 = .ok (.ireturn, 1) := by decide +kernel
theorem dX0_wantedAfter_0 : decode cX0_wantedAfter 0 = .ok (.iload_n 1, 1) := by decide +kernel
theorem dX0_wantedAfter_1 : decode cX0_wantedAfter 1 = .ok (.istore_n 3, 1) := by decide +kernel
theorem dX0_wantedAfter_2 : decode cX0_wantedAfter 2 = .ok (.iconst 0, 1) := by decide +kernel
theorem dX0_wantedAfter_3 : decode cX0_wantedAfter 3 = .ok (.istore 4, 2) := by decide +kernel
theorem dX0_wantedAfter_5 : decode cX0_wantedAfter 5 = .ok (.iload 4, 2) := by decide +kernel
theorem dX0_wantedAfter_7 : decode cX0_wantedAfter 7 = .ok (.iload_n 2, 1) := by decide +kernel
theorem dX0_wantedAfter_8 : decode cX0_wantedAfter 8 = .ok (.if_icmp .ge 22, 3) := by decide +kernel
theorem dX0_wantedAfter_11 : decode cX0_wantedAfter 11 = .ok (.iload_n 3, 1) := by decide +kernel
theorem dX0_wantedAfter_12 : decode cX0_wantedAfter 12 = .ok (.bipush (-4), 2) := by decide +kernel
theorem dX0_wantedAfter_14 : decode cX0_wantedAfter 14 = .ok (.if_icmp .eq 16, 3) := by decide +kernel
theorem dX0_wantedAfter_17 : decode cX0_wantedAfter 17 = .ok (.aload_n 0, 1) := by decide +kernel
theorem dX0_wantedAfter_18 : decode cX0_wantedAfter 18 = .ok (.iload_n 3, 1) := by decide +kernel
theorem dX0_wantedAfter_19 : decode cX0_wantedAfter 19 = .ok (.iconst 5, 1) := by decide +kernel
theorem dX0_wantedAfter_20 : decode cX0_wantedAfter 20 = .ok (.invokevirtual 45, 3) := by decide +kernel
theorem dX0_wantedAfter_23 : decode cX0_wantedAfter 23 = .ok (.istore_n 3, 1) := by decide +kernel
theorem dX0_wantedAfter_24 : decode cX0_wantedAfter 24 = .ok (.iinc 4 1, 3) := by decide +kernel
theorem dX0_wantedAfter_27 : decode cX0_wantedAfter 27 = .ok (.goto (-22), 3) := by decide +kernel
theorem dX0_wantedAfter_30 : decode cX0_wantedAfter 30 = .ok (.iload_n 3, 1) := by decide +kernel
theorem dX0_wantedAfter_31 : decode cX0_wantedAfter 31 = .ok (.ireturn, 1) := by decide +kernel
theorem dX0_chainRound_0 : decode cX0_chainRound 0 = .ok (.aload_n 0, 1) := by decide +kernel
theorem dX0_chainRound_1 : decode cX0_chainRound 1 = .ok (.iload_n 1, 1) := by decide +kernel
theorem dX0_chainRound_2 : decode cX0_chainRound 2 = .ok (.aload_n 0, 1) := by decide +kernel
theorem dX0_chainRound_3 : decode cX0_chainRound 3 = .ok (.getfield 18, 3) := by decide +kernel
theorem dX0_chainRound_6 : decode cX0_chainRound 6 = .ok (.invokevirtual 93, 3) := by decide +kernel
theorem dX0_chainRound_9 : decode cX0_chainRound 9 = .ok (.istore_n 2, 1) := by decide +kernel
theorem dX0_chainRound_10 : decode cX0_chainRound 10 = .ok (.iload_n 2, 1) := by decide +kernel
theorem dX0_chainRound_11 : decode cX0_chainRound 11 = .ok (.bipush (-4), 2) := by decide +kernel
theorem dX0_chainRound_13 : decode cX0_chainRound 13 = .ok (.if_icmp .ne 5, 3) := by decide +kernel
theorem dX0_chainRound_16 : decode cX0_chainRound 16 = .ok (.iconst 0, 1) := by decide +kernel
theorem dX0_chainRound_17 : decode cX0_chainRound 17 = .ok (.ireturn, 1) := by decide +kernel
theorem dX0_chainRound_18 : decode cX0_chainRound 18 = .ok (.iconst 1, 1) := by decide +kernel
theorem dX0_chainRound_19 : decode cX0_chainRound 19 = .ok (.istore_n 3, 1) := by decide +kernel
theorem dX0_chainRound_20 : decode cX0_chainRound 20 = .ok (.iload_n 3, 1) := by decide +kernel
theorem dX0_chainRound_21 : decode cX0_chainRound 21 = .ok (.aload_n 0, 1) := by decide +kernel
theorem dX0_chainRound_22 : decode cX0_chainRound 22 = .ok (.getfield 18, 3) := by decide +kernel
theorem dX0_chainRound_25 : decode cX0_chainRound 25 = .ok (.if_icmp .ge 19, 3) := by decide +kernel
theorem dX0_chainRound_28 : decode cX0_chainRound 28 = .ok (.aload_n 0, 1) := by decide +kernel
theorem dX0_chainRound_29 : decode cX0_chainRound 29 = .ok (.iload_n 2, 1) := by decide +kernel
theorem dX0_chainRound_30 : decode cX0_chainRound 30 = .ok (.iload_n 3, 1) := by decide +kernel
theorem dX0_chainRound_31 : decode cX0_chainRound 31 = .ok (.invokevirtual 93, 3) := by decide +kernel
theorem dX0_chainRound_34 : decode cX0_chainRound 34 = .ok (.iload_n 2, 1) := by decide +kernel
theorem dX0_chainRound_35 : decode cX0_chainRound 35 = .ok (.if_icmp .eq 9, 3) := by decide +kernel
theorem dX0_chainRound_38 : decode cX0_chainRound 38 = .ok (.iinc 3 1, 3) := by decide +kernel
theorem dX0_chainRound_41 : decode cX0_chainRound 41 = .ok (.goto (-21), 3) := by decide +kernel
theorem dX0_chainRound_44 : decode cX0_chainRound 44 = .ok (.iload_n 3, 1) := by decide +kernel
theorem dX0_chainRound_45 : decode cX0_chainRound 45 = .ok (.ireturn, 1) := by decide +kernel
theorem dX0_chainAhead_0 : decode cX0_chainAhead 0 = .ok (.aload_n 0, 1) := by decide +kernel
theorem dX0_chainAhead_1 : decode cX0_chainAhead 1 = .ok (.iload_n 1, 1) := by decide +kernel
theorem dX0_chainAhead_2 : decode cX0_chainAhead 2 = .ok (.invokevirtual 96, 3) := by decide +kernel
theorem dX0_chainAhead_5 : decode cX0_chainAhead 5 = .ok (.istore_n 2, 1) := by decide +kernel
theorem dX0_chainAhead_6 : decode cX0_chainAhead 6 = .ok (.iconst 0, 1) := by decide +kernel
theorem dX0_chainAhead_7 : decode cX0_chainAhead 7 = .ok (.istore_n 3, 1) := by decide +kernel
theorem dX0_chainAhead_8 : decode cX0_chainAhead 8 = .ok (.iload_n 3, 1) := by decide +kernel
theorem dX0_chainAhead_9 : decode cX0_chainAhead 9 = .ok (.aload_n 0, 1) := by decide +kernel
theorem dX0_chainAhead_10 : decode cX0_chainAhead 10 = .ok (.getfield 18, 3) := by decide +kernel
theorem dX0_chainAhead_13 : decode cX0_chainAhead 13 = .ok (.if_icmp .ge 35, 3) := by decide +kernel
theorem dX0_chainAhead_16 : decode cX0_chainAhead 16 = .ok (.aload_n 0, 1) := by decide +kernel
theorem dX0_chainAhead_17 : decode cX0_chainAhead 17 = .ok (.iload_n 1, 1) := by decide +kernel
theorem dX0_chainAhead_18 : decode cX0_chainAhead 18 = .ok (.iload_n 3, 1) := by decide +kernel
theorem dX0_chainAhead_19 : decode cX0_chainAhead 19 = .ok (.invokevirtual 93, 3) := by decide +kernel
theorem dX0_chainAhead_22 : decode cX0_chainAhead 22 = .ok (.iload_n 2, 1) := by decide +kernel
theorem dX0_chainAhead_23 : decode cX0_chainAhead 23 = .ok (.ifCond .ne 8, 3) := by decide +kernel
theorem dX0_chainAhead_26 : decode cX0_chainAhead 26 = .ok (.bipush (-4), 2) := by decide +kernel
theorem dX0_chainAhead_28 : decode cX0_chainAhead 28 = .ok (.goto 11, 3) := by decide +kernel
theorem dX0_chainAhead_31 : decode cX0_chainAhead 31 = .ok (.aload_n 0, 1) := by decide +kernel
theorem dX0_chainAhead_32 : decode cX0_chainAhead 32 = .ok (.iload_n 1, 1) := by decide +kernel
theorem dX0_chainAhead_33 : decode cX0_chainAhead 33 = .ok (.iload_n 3, 1) := by decide +kernel
theorem dX0_chainAhead_34 : decode cX0_chainAhead 34 = .ok (.iload_n 2, 1) := by decide +kernel
theorem dX0_chainAhead_35 : decode cX0_chainAhead 35 = .ok (.iadd, 1) := by decide +kernel
theorem dX0_chainAhead_36 : decode cX0_chainAhead 36 = .ok (.invokevirtual 93, 3) := by decide +kernel
theorem dX0_chainAhead_39 : decode cX0_chainAhead 39 = .ok (.if_icmp .eq 9, 3) := by decide +kernel
theorem dX0_chainAhead_42 : decode cX0_chainAhead 42 = .ok (.iinc 3 1, 3) := by decide +kernel
theorem dX0_chainAhead_45 : decode cX0_chainAhead 45 = .ok (.goto (-37), 3) := by decide +kernel
theorem dX0_chainAhead_48 : decode cX0_chainAhead 48 = .ok (.iload_n 3, 1) := by decide +kernel
theorem dX0_chainAhead_49 : decode cX0_chainAhead 49 = .ok (.ireturn, 1) := by decide +kernel
theorem dX0_forgiven_0 : decode cX0_forgiven 0 = .ok (.aload_n 0, 1) := by decide +kernel
theorem dX0_forgiven_1 : decode cX0_forgiven 1 = .ok (.getfield 22, 3) := by decide +kernel
theorem dX0_forgiven_4 : decode cX0_forgiven 4 = .ok (.aload_n 0, 1) := by decide +kernel
theorem dX0_forgiven_5 : decode cX0_forgiven 5 = .ok (.invokevirtual 99, 3) := by decide +kernel
theorem dX0_forgiven_8 : decode cX0_forgiven 8 = .ok (.invokestatic 103, 3) := by decide +kernel
theorem dX0_forgiven_11 : decode cX0_forgiven 11 = .ok (.isub, 1) := by decide +kernel
theorem dX0_forgiven_12 : decode cX0_forgiven 12 = .ok (.ireturn, 1) := by decide +kernel
theorem dX0_openSet_0 : decode cX0_openSet 0 = .ok (.iconst 0, 1) := by decide +kernel
theorem dX0_openSet_1 : decode cX0_openSet 1 = .ok (.istore_n 1, 1) := by decide +kernel
theorem dX0_openSet_2 : decode cX0_openSet 2 = .ok (.iconst 0, 1) := by decide +kernel
theorem dX0_openSet_3 : decode cX0_openSet 3 = .ok (.istore_n 2, 1) := by decide +kernel
theorem dX0_openSet_4 : decode cX0_openSet 4 = .ok (.iload_n 2, 1) := by decide +kernel
theorem dX0_openSet_5 : decode cX0_openSet 5 = .ok (.aload_n 0, 1) := by decide +kernel
theorem dX0_openSet_6 : decode cX0_openSet 6 = .ok (.getfield 22, 3) := by decide +kernel
theorem dX0_openSet_9 : decode cX0_openSet 9 = .ok (.if_icmp .ge 23, 3) := by decide +kernel
theorem dX0_openSet_12 : decode cX0_openSet 12 = .ok (.aload_n 0, 1) := by decide +kernel
theorem dX0_openSet_13 : decode cX0_openSet 13 = .ok (.iload_n 2, 1) := by decide +kernel
theorem dX0_openSet_14 : decode cX0_openSet 14 = .ok (.invokevirtual 68, 3) := by decide +kernel
theorem dX0_openSet_17 : decode cX0_openSet 17 = .ok (.ifCond .eq 9, 3) := by decide +kernel
theorem dX0_openSet_20 : decode cX0_openSet 20 = .ok (.iload_n 1, 1) := by decide +kernel
theorem dX0_openSet_21 : decode cX0_openSet 21 = .ok (.iconst 1, 1) := by decide +kernel
theorem dX0_openSet_22 : decode cX0_openSet 22 = .ok (.iload_n 2, 1) := by decide +kernel
theorem dX0_openSet_23 : decode cX0_openSet 23 = .ok (.ishl, 1) := by decide +kernel
theorem dX0_openSet_24 : decode cX0_openSet 24 = .ok (.ior, 1) := by decide +kernel
theorem dX0_openSet_25 : decode cX0_openSet 25 = .ok (.istore_n 1, 1) := by decide +kernel
theorem dX0_openSet_26 : decode cX0_openSet 26 = .ok (.iinc 2 1, 3) := by decide +kernel
theorem dX0_openSet_29 : decode cX0_openSet 29 = .ok (.goto (-25), 3) := by decide +kernel
theorem dX0_openSet_32 : decode cX0_openSet 32 = .ok (.iload_n 1, 1) := by decide +kernel
theorem dX0_openSet_33 : decode cX0_openSet 33 = .ok (.ireturn, 1) := by decide +kernel
theorem dX0_openWeight_0 : decode cX0_openWeight 0 = .ok (.iconst 0, 1) := by decide +kernel
theorem dX0_openWeight_1 : decode cX0_openWeight 1 = .ok (.istore_n 1, 1) := by decide +kernel
theorem dX0_openWeight_2 : decode cX0_openWeight 2 = .ok (.iconst 0, 1) := by decide +kernel
theorem dX0_openWeight_3 : decode cX0_openWeight 3 = .ok (.istore_n 2, 1) := by decide +kernel
theorem dX0_openWeight_4 : decode cX0_openWeight 4 = .ok (.iload_n 2, 1) := by decide +kernel
theorem dX0_openWeight_5 : decode cX0_openWeight 5 = .ok (.aload_n 0, 1) := by decide +kernel
theorem dX0_openWeight_6 : decode cX0_openWeight 6 = .ok (.getfield 22, 3) := by decide +kernel
theorem dX0_openWeight_9 : decode cX0_openWeight 9 = .ok (.if_icmp .ge 26, 3) := by decide +kernel
theorem dX0_openWeight_12 : decode cX0_openWeight 12 = .ok (.aload_n 0, 1) := by decide +kernel
theorem dX0_openWeight_13 : decode cX0_openWeight 13 = .ok (.iload_n 2, 1) := by decide +kernel
theorem dX0_openWeight_14 : decode cX0_openWeight 14 = .ok (.invokevirtual 68, 3) := by decide +kernel
theorem dX0_openWeight_17 : decode cX0_openWeight 17 = .ok (.ifCond .eq 12, 3) := by decide +kernel
theorem dX0_openWeight_20 : decode cX0_openWeight 20 = .ok (.iload_n 1, 1) := by decide +kernel
theorem dX0_openWeight_21 : decode cX0_openWeight 21 = .ok (.aload_n 0, 1) := by decide +kernel
theorem dX0_openWeight_22 : decode cX0_openWeight 22 = .ok (.iload_n 2, 1) := by decide +kernel
theorem dX0_openWeight_23 : decode cX0_openWeight 23 = .ok (.iconst 2, 1) := by decide +kernel
theorem dX0_openWeight_24 : decode cX0_openWeight 24 = .ok (.invokevirtual 41, 3) := by decide +kernel
theorem dX0_openWeight_27 : decode cX0_openWeight 27 = .ok (.iadd, 1) := by decide +kernel
theorem dX0_openWeight_28 : decode cX0_openWeight 28 = .ok (.istore_n 1, 1) := by decide +kernel
theorem dX0_openWeight_29 : decode cX0_openWeight 29 = .ok (.iinc 2 1, 3) := by decide +kernel
theorem dX0_openWeight_32 : decode cX0_openWeight 32 = .ok (.goto (-28), 3) := by decide +kernel
theorem dX0_openWeight_35 : decode cX0_openWeight 35 = .ok (.iload_n 1, 1) := by decide +kernel
theorem dX0_openWeight_36 : decode cX0_openWeight 36 = .ok (.ireturn, 1) := by decide +kernel
theorem dX0_wonSet_0 : decode cX0_wonSet 0 = .ok (.iconst 0, 1) := by decide +kernel
theorem dX0_wonSet_1 : decode cX0_wonSet 1 = .ok (.istore_n 1, 1) := by decide +kernel
theorem dX0_wonSet_2 : decode cX0_wonSet 2 = .ok (.iconst 0, 1) := by decide +kernel
theorem dX0_wonSet_3 : decode cX0_wonSet 3 = .ok (.istore_n 2, 1) := by decide +kernel
theorem dX0_wonSet_4 : decode cX0_wonSet 4 = .ok (.iload_n 2, 1) := by decide +kernel
theorem dX0_wonSet_5 : decode cX0_wonSet 5 = .ok (.aload_n 0, 1) := by decide +kernel
theorem dX0_wonSet_6 : decode cX0_wonSet 6 = .ok (.getfield 18, 3) := by decide +kernel
theorem dX0_wonSet_9 : decode cX0_wonSet 9 = .ok (.if_icmp .ge 27, 3) := by decide +kernel
theorem dX0_wonSet_12 : decode cX0_wonSet 12 = .ok (.aload_n 0, 1) := by decide +kernel
theorem dX0_wonSet_13 : decode cX0_wonSet 13 = .ok (.iload_n 2, 1) := by decide +kernel
theorem dX0_wonSet_14 : decode cX0_wonSet 14 = .ok (.bipush 7, 2) := by decide +kernel
theorem dX0_wonSet_16 : decode cX0_wonSet 16 = .ok (.invokevirtual 45, 3) := by decide +kernel
theorem dX0_wonSet_19 : decode cX0_wonSet 19 = .ok (.bipush (-4), 2) := by decide +kernel
theorem dX0_wonSet_21 : decode cX0_wonSet 21 = .ok (.if_icmp .eq 9, 3) := by decide +kernel
theorem dX0_wonSet_24 : decode cX0_wonSet 24 = .ok (.iload_n 1, 1) := by decide +kernel
theorem dX0_wonSet_25 : decode cX0_wonSet 25 = .ok (.iconst 1, 1) := by decide +kernel
theorem dX0_wonSet_26 : decode cX0_wonSet 26 = .ok (.iload_n 2, 1) := by decide +kernel
theorem dX0_wonSet_27 : decode cX0_wonSet 27 = .ok (.ishl, 1) := by decide +kernel
theorem dX0_wonSet_28 : decode cX0_wonSet 28 = .ok (.ior, 1) := by decide +kernel
theorem dX0_wonSet_29 : decode cX0_wonSet 29 = .ok (.istore_n 1, 1) := by decide +kernel
theorem dX0_wonSet_30 : decode cX0_wonSet 30 = .ok (.iinc 2 1, 3) := by decide +kernel
theorem dX0_wonSet_33 : decode cX0_wonSet 33 = .ok (.goto (-29), 3) := by decide +kernel
theorem dX0_wonSet_36 : decode cX0_wonSet 36 = .ok (.iload_n 1, 1) := by decide +kernel
theorem dX0_wonSet_37 : decode cX0_wonSet 37 = .ok (.ireturn, 1) := by decide +kernel
theorem dX0_carriedByAll_0 : decode cX0_carriedByAll 0 = .ok (.iconst 0, 1) := by decide +kernel
theorem dX0_carriedByAll_1 : decode cX0_carriedByAll 1 = .ok (.istore_n 1, 1) := by decide +kernel
theorem dX0_carriedByAll_2 : decode cX0_carriedByAll 2 = .ok (.iconst 0, 1) := by decide +kernel
theorem dX0_carriedByAll_3 : decode cX0_carriedByAll 3 = .ok (.istore_n 2, 1) := by decide +kernel
theorem dX0_carriedByAll_4 : decode cX0_carriedByAll 4 = .ok (.iload_n 2, 1) := by decide +kernel
theorem dX0_carriedByAll_5 : decode cX0_carriedByAll 5 = .ok (.aload_n 0, 1) := by decide +kernel
theorem dX0_carriedByAll_6 : decode cX0_carriedByAll 6 = .ok (.getfield 18, 3) := by decide +kernel
theorem dX0_carriedByAll_9 : decode cX0_carriedByAll 9 = .ok (.if_icmp .ge 19, 3) := by decide +kernel
theorem dX0_carriedByAll_12 : decode cX0_carriedByAll 12 = .ok (.iload_n 1, 1) := by decide +kernel
theorem dX0_carriedByAll_13 : decode cX0_carriedByAll 13 = .ok (.aload_n 0, 1) := by decide +kernel
theorem dX0_carriedByAll_14 : decode cX0_carriedByAll 14 = .ok (.iload_n 2, 1) := by decide +kernel
theorem dX0_carriedByAll_15 : decode cX0_carriedByAll 15 = .ok (.bipush 6, 2) := by decide +kernel
theorem dX0_carriedByAll_17 : decode cX0_carriedByAll 17 = .ok (.invokevirtual 45, 3) := by decide +kernel
theorem dX0_carriedByAll_20 : decode cX0_carriedByAll 20 = .ok (.iadd, 1) := by decide +kernel
theorem dX0_carriedByAll_21 : decode cX0_carriedByAll 21 = .ok (.istore_n 1, 1) := by decide +kernel
theorem dX0_carriedByAll_22 : decode cX0_carriedByAll 22 = .ok (.iinc 2 1, 3) := by decide +kernel
theorem dX0_carriedByAll_25 : decode cX0_carriedByAll 25 = .ok (.goto (-21), 3) := by decide +kernel
theorem dX0_carriedByAll_28 : decode cX0_carriedByAll 28 = .ok (.iload_n 1, 1) := by decide +kernel
theorem dX0_carriedByAll_29 : decode cX0_carriedByAll 29 = .ok (.ireturn, 1) := by decide +kernel
theorem dX1_init_0 : decode cX1_init 0 = .ok (.aload_n 0, 1) := by decide +kernel
theorem dX1_init_1 : decode cX1_init 1 = .ok (.invokespecial 3, 3) := by decide +kernel
theorem dX1_init_4 : decode cX1_init 4 = .ok (.aload_n 0, 1) := by decide +kernel
theorem dX1_init_5 : decode cX1_init 5 = .ok (.bipush 100, 2) := by decide +kernel
theorem dX1_init_7 : decode cX1_init 7 = .ok (.newarray .int, 2) := by decide +kernel
theorem dX1_init_9 : decode cX1_init 9 = .ok (.putfield 11, 3) := by decide +kernel
theorem dX1_init_12 : decode cX1_init 12 = .ok (.return_, 1) := by decide +kernel
theorem dX1_amongSkills_0 : decode cX1_amongSkills 0 = .ok (.aload_n 0, 1) := by decide +kernel
theorem dX1_amongSkills_1 : decode cX1_amongSkills 1 = .ok (.iconst 0, 1) := by decide +kernel
theorem dX1_amongSkills_2 : decode cX1_amongSkills 2 = .ok (.putfield 15, 3) := by decide +kernel
theorem dX1_amongSkills_5 : decode cX1_amongSkills 5 = .ok (.aload_n 0, 1) := by decide +kernel
theorem dX1_amongSkills_6 : decode cX1_amongSkills 6 = .ok (.bipush 9, 2) := by decide +kernel
theorem dX1_amongSkills_8 : decode cX1_amongSkills 8 = .ok (.putfield 19, 3) := by decide +kernel
theorem dX1_amongSkills_11 : decode cX1_amongSkills 11 = .ok (.iconst 0, 1) := by decide +kernel
theorem dX1_amongSkills_12 : decode cX1_amongSkills 12 = .ok (.istore_n 3, 1) := by decide +kernel
theorem dX1_amongSkills_13 : decode cX1_amongSkills 13 = .ok (.iload_n 3, 1) := by decide +kernel
theorem dX1_amongSkills_14 : decode cX1_amongSkills 14 = .ok (.aload_n 0, 1) := by decide +kernel
theorem dX1_amongSkills_15 : decode cX1_amongSkills 15 = .ok (.getfield 11, 3) := by decide +kernel
theorem dX1_amongSkills_18 : decode cX1_amongSkills 18 = .ok (.arraylength, 1) := by decide +kernel
theorem dX1_amongSkills_19 : decode cX1_amongSkills 19 = .ok (.if_icmp .ge 39, 3) := by decide +kernel
theorem dX1_amongSkills_22 : decode cX1_amongSkills 22 = .ok (.aload_n 0, 1) := by decide +kernel
theorem dX1_amongSkills_23 : decode cX1_amongSkills 23 = .ok (.getfield 11, 3) := by decide +kernel
theorem dX1_amongSkills_26 : decode cX1_amongSkills 26 = .ok (.iload_n 3, 1) := by decide +kernel
theorem dX1_amongSkills_27 : decode cX1_amongSkills 27 = .ok (.aload_n 1, 1) := by decide +kernel
theorem dX1_amongSkills_28 : decode cX1_amongSkills 28 = .ok (.iload_n 2, 1) := by decide +kernel
theorem dX1_amongSkills_29 : decode cX1_amongSkills 29 = .ok (.iconst 0, 1) := by decide +kernel
theorem dX1_amongSkills_30 : decode cX1_amongSkills 30 = .ok (.invokevirtual 22, 3) := by decide +kernel
theorem dX1_amongSkills_33 : decode cX1_amongSkills 33 = .ok (.iload_n 3, 1) := by decide +kernel
theorem dX1_amongSkills_34 : decode cX1_amongSkills 34 = .ok (.bipush 10, 2) := by decide +kernel
theorem dX1_amongSkills_36 : decode cX1_amongSkills 36 = .ok (.idiv, 1) := by decide +kernel
theorem dX1_amongSkills_37 : decode cX1_amongSkills 37 = .ok (.aload_n 1, 1) := by decide +kernel
theorem dX1_amongSkills_38 : decode cX1_amongSkills 38 = .ok (.iload_n 2, 1) := by decide +kernel
theorem dX1_amongSkills_39 : decode cX1_amongSkills 39 = .ok (.bipush 6, 2) := by decide +kernel
theorem dX1_amongSkills_41 : decode cX1_amongSkills 41 = .ok (.invokevirtual 22, 3) := by decide +kernel
theorem dX1_amongSkills_44 : decode cX1_amongSkills 44 = .ok (.iload_n 3, 1) := by decide +kernel
theorem dX1_amongSkills_45 : decode cX1_amongSkills 45 = .ok (.bipush 10, 2) := by decide +kernel
theorem dX1_amongSkills_47 : decode cX1_amongSkills 47 = .ok (.irem, 1) := by decide +kernel
theorem dX1_amongSkills_48 : decode cX1_amongSkills 48 = .ok (.invokestatic 28, 3) := by decide +kernel
theorem dX1_amongSkills_51 : decode cX1_amongSkills 51 = .ok (.iastore, 1) := by decide +kernel
theorem dX1_amongSkills_52 : decode cX1_amongSkills 52 = .ok (.iinc 3 1, 3) := by decide +kernel
theorem dX1_amongSkills_55 : decode cX1_amongSkills 55 = .ok (.goto (-42), 3) := by decide +kernel
theorem dX1_amongSkills_58 : decode cX1_amongSkills 58 = .ok (.return_, 1) := by decide +kernel
theorem dX1_amongKinds_0 : decode cX1_amongKinds 0 = .ok (.aload_n 0, 1) := by decide +kernel
theorem dX1_amongKinds_1 : decode cX1_amongKinds 1 = .ok (.iconst 1, 1) := by decide +kernel
theorem dX1_amongKinds_2 : decode cX1_amongKinds 2 = .ok (.putfield 15, 3) := by decide +kernel
theorem dX1_amongKinds_5 : decode cX1_amongKinds 5 = .ok (.aload_n 0, 1) := by decide +kernel
theorem dX1_amongKinds_6 : decode cX1_amongKinds 6 = .ok (.iconst 5, 1) := by decide +kernel
theorem dX1_amongKinds_7 : decode cX1_amongKinds 7 = .ok (.putfield 19, 3) := by decide +kernel
theorem dX1_amongKinds_10 : decode cX1_amongKinds 10 = .ok (.iconst 0, 1) := by decide +kernel
theorem dX1_amongKinds_11 : decode cX1_amongKinds 11 = .ok (.istore_n 3, 1) := by decide +kernel
theorem dX1_amongKinds_12 : decode cX1_amongKinds 12 = .ok (.iload_n 3, 1) := by decide +kernel
theorem dX1_amongKinds_13 : decode cX1_amongKinds 13 = .ok (.aload_n 0, 1) := by decide +kernel
theorem dX1_amongKinds_14 : decode cX1_amongKinds 14 = .ok (.getfield 11, 3) := by decide +kernel
theorem dX1_amongKinds_17 : decode cX1_amongKinds 17 = .ok (.arraylength, 1) := by decide +kernel
theorem dX1_amongKinds_18 : decode cX1_amongKinds 18 = .ok (.if_icmp .ge 39, 3) := by decide +kernel
theorem dX1_amongKinds_21 : decode cX1_amongKinds 21 = .ok (.aload_n 0, 1) := by decide +kernel
theorem dX1_amongKinds_22 : decode cX1_amongKinds 22 = .ok (.getfield 11, 3) := by decide +kernel
theorem dX1_amongKinds_25 : decode cX1_amongKinds 25 = .ok (.iload_n 3, 1) := by decide +kernel
theorem dX1_amongKinds_26 : decode cX1_amongKinds 26 = .ok (.iload_n 3, 1) := by decide +kernel
theorem dX1_amongKinds_27 : decode cX1_amongKinds 27 = .ok (.bipush 10, 2) := by decide +kernel
theorem dX1_amongKinds_29 : decode cX1_amongKinds 29 = .ok (.idiv, 1) := by decide +kernel
theorem dX1_amongKinds_30 : decode cX1_amongKinds 30 = .ok (.aload_n 1, 1) := by decide +kernel
theorem dX1_amongKinds_31 : decode cX1_amongKinds 31 = .ok (.iload_n 2, 1) := by decide +kernel
theorem dX1_amongKinds_32 : decode cX1_amongKinds 32 = .ok (.iconst 1, 1) := by decide +kernel
theorem dX1_amongKinds_33 : decode cX1_amongKinds 33 = .ok (.invokevirtual 22, 3) := by decide +kernel
theorem dX1_amongKinds_36 : decode cX1_amongKinds 36 = .ok (.aload_n 1, 1) := by decide +kernel
theorem dX1_amongKinds_37 : decode cX1_amongKinds 37 = .ok (.iload_n 2, 1) := by decide +kernel
theorem dX1_amongKinds_38 : decode cX1_amongKinds 38 = .ok (.bipush 6, 2) := by decide +kernel
theorem dX1_amongKinds_40 : decode cX1_amongKinds 40 = .ok (.invokevirtual 22, 3) := by decide +kernel
theorem dX1_amongKinds_43 : decode cX1_amongKinds 43 = .ok (.iload_n 3, 1) := by decide +kernel
theorem dX1_amongKinds_44 : decode cX1_amongKinds 44 = .ok (.bipush 10, 2) := by decide +kernel
theorem dX1_amongKinds_46 : decode cX1_amongKinds 46 = .ok (.irem, 1) := by decide +kernel
theorem dX1_amongKinds_47 : decode cX1_amongKinds 47 = .ok (.invokestatic 28, 3) := by decide +kernel
theorem dX1_amongKinds_50 : decode cX1_amongKinds 50 = .ok (.iastore, 1) := by decide +kernel
theorem dX1_amongKinds_51 : decode cX1_amongKinds 51 = .ok (.iinc 3 1, 3) := by decide +kernel
theorem dX1_amongKinds_54 : decode cX1_amongKinds 54 = .ok (.goto (-42), 3) := by decide +kernel
theorem dX1_amongKinds_57 : decode cX1_amongKinds 57 = .ok (.return_, 1) := by decide +kernel
theorem dX1_answer_0 : decode cX1_answer 0 = .ok (.aload_n 1, 1) := by decide +kernel
theorem dX1_answer_1 : decode cX1_answer 1 = .ok (.ifnonnull 6, 3) := by decide +kernel
theorem dX1_answer_4 : decode cX1_answer 4 = .ok (.bipush (-11), 2) := by decide +kernel
theorem dX1_answer_6 : decode cX1_answer 6 = .ok (.ireturn, 1) := by decide +kernel
theorem dX1_answer_7 : decode cX1_answer 7 = .ok (.aload_n 0, 1) := by decide +kernel
theorem dX1_answer_8 : decode cX1_answer 8 = .ok (.aload_n 1, 1) := by decide +kernel
theorem dX1_answer_9 : decode cX1_answer 9 = .ok (.iload_n 2, 1) := by decide +kernel
theorem dX1_answer_10 : decode cX1_answer 10 = .ok (.iload_n 3, 1) := by decide +kernel
theorem dX1_answer_11 : decode cX1_answer 11 = .ok (.invokevirtual 32, 3) := by decide +kernel
theorem dX1_answer_14 : decode cX1_answer 14 = .ok (.istore 5, 2) := by decide +kernel
theorem dX1_answer_16 : decode cX1_answer 16 = .ok (.iload 4, 2) := by decide +kernel
theorem dX1_answer_18 : decode cX1_answer 18 = .ok (.ifCond .ne 8, 3) := by decide +kernel
theorem dX1_answer_21 : decode cX1_answer 21 = .ok (.iload 5, 2) := by decide +kernel
theorem dX1_answer_23 : decode cX1_answer 23 = .ok (.goto 9, 3) := by decide +kernel
theorem dX1_answer_26 : decode cX1_answer 26 = .ok (.aload_n 0, 1) := by decide +kernel
theorem dX1_answer_27 : decode cX1_answer 27 = .ok (.iload 5, 2) := by decide +kernel
theorem dX1_answer_29 : decode cX1_answer 29 = .ok (.invokevirtual 36, 3) := by decide +kernel
theorem dX1_answer_32 : decode cX1_answer 32 = .ok (.ireturn, 1) := by decide +kernel
theorem dX1_fitting_0 : decode cX1_fitting 0 = .ok (.iconst 0, 1) := by decide +kernel
theorem dX1_fitting_1 : decode cX1_fitting 1 = .ok (.istore 4, 2) := by decide +kernel
theorem dX1_fitting_3 : decode cX1_fitting 3 = .ok (.aload_n 0, 1) := by decide +kernel
theorem dX1_fitting_4 : decode cX1_fitting 4 = .ok (.getfield 15, 3) := by decide +kernel
theorem dX1_fitting_7 : decode cX1_fitting 7 = .ok (.istore 5, 2) := by decide +kernel
theorem dX1_fitting_9 : decode cX1_fitting 9 = .ok (.iload 5, 2) := by decide +kernel
theorem dX1_fitting_11 : decode cX1_fitting 11 = .ok (.aload_n 0, 1) := by decide +kernel
theorem dX1_fitting_12 : decode cX1_fitting 12 = .ok (.getfield 19, 3) := by decide +kernel
theorem dX1_fitting_15 : decode cX1_fitting 15 = .ok (.if_icmp .gt 30, 3) := by decide +kernel
theorem dX1_fitting_18 : decode cX1_fitting 18 = .ok (.aload_n 0, 1) := by decide +kernel
theorem dX1_fitting_19 : decode cX1_fitting 19 = .ok (.iload 5, 2) := by decide +kernel
theorem dX1_fitting_21 : decode cX1_fitting 21 = .ok (.aload_n 1, 1) := by decide +kernel
theorem dX1_fitting_22 : decode cX1_fitting 22 = .ok (.iload_n 2, 1) := by decide +kernel
theorem dX1_fitting_23 : decode cX1_fitting 23 = .ok (.iload_n 3, 1) := by decide +kernel
theorem dX1_fitting_24 : decode cX1_fitting 24 = .ok (.invokevirtual 40, 3) := by decide +kernel
theorem dX1_fitting_27 : decode cX1_fitting 27 = .ok (.ifCond .eq 12, 3) := by decide +kernel
theorem dX1_fitting_30 : decode cX1_fitting 30 = .ok (.iload 4, 2) := by decide +kernel
theorem dX1_fitting_32 : decode cX1_fitting 32 = .ok (.iconst 1, 1) := by decide +kernel
theorem dX1_fitting_33 : decode cX1_fitting 33 = .ok (.iload 5, 2) := by decide +kernel
theorem dX1_fitting_35 : decode cX1_fitting 35 = .ok (.ishl, 1) := by decide +kernel
theorem dX1_fitting_36 : decode cX1_fitting 36 = .ok (.ior, 1) := by decide +kernel
theorem dX1_fitting_37 : decode cX1_fitting 37 = .ok (.istore 4, 2) := by decide +kernel
theorem dX1_fitting_39 : decode cX1_fitting 39 = .ok (.iinc 5 1, 3) := by decide +kernel
theorem dX1_fitting_42 : decode cX1_fitting 42 = .ok (.goto (-33), 3) := by decide +kernel
theorem dX1_fitting_45 : decode cX1_fitting 45 = .ok (.iload 4, 2) := by decide +kernel
theorem dX1_fitting_47 : decode cX1_fitting 47 = .ok (.ireturn, 1) := by decide +kernel
theorem dX1_fits_0 : decode cX1_fits 0 = .ok (.iconst 0, 1) := by decide +kernel
theorem dX1_fits_1 : decode cX1_fits 1 = .ok (.istore 5, 2) := by decide +kernel
theorem dX1_fits_3 : decode cX1_fits 3 = .ok (.iload 5, 2) := by decide +kernel
theorem dX1_fits_5 : decode cX1_fits 5 = .ok (.iload 4, 2) := by decide +kernel
theorem dX1_fits_7 : decode cX1_fits 7 = .ok (.if_icmp .ge 48, 3) := by decide +kernel
theorem dX1_fits_10 : decode cX1_fits 10 = .ok (.aload_n 2, 1) := by decide +kernel
theorem dX1_fits_11 : decode cX1_fits 11 = .ok (.iload_n 3, 1) := by decide +kernel
theorem dX1_fits_12 : decode cX1_fits 12 = .ok (.iconst 2, 1) := by decide +kernel
theorem dX1_fits_13 : decode cX1_fits 13 = .ok (.iload 5, 2) := by decide +kernel
theorem dX1_fits_15 : decode cX1_fits 15 = .ok (.imul, 1) := by decide +kernel
theorem dX1_fits_16 : decode cX1_fits 16 = .ok (.iadd, 1) := by decide +kernel
theorem dX1_fits_17 : decode cX1_fits 17 = .ok (.invokevirtual 44, 3) := by decide +kernel
theorem dX1_fits_20 : decode cX1_fits 20 = .ok (.l2i, 1) := by decide +kernel
theorem dX1_fits_21 : decode cX1_fits 21 = .ok (.istore 6, 2) := by decide +kernel
theorem dX1_fits_23 : decode cX1_fits 23 = .ok (.aload_n 2, 1) := by decide +kernel
theorem dX1_fits_24 : decode cX1_fits 24 = .ok (.iload_n 3, 1) := by decide +kernel
theorem dX1_fits_25 : decode cX1_fits 25 = .ok (.iconst 2, 1) := by decide +kernel
theorem dX1_fits_26 : decode cX1_fits 26 = .ok (.iload 5, 2) := by decide +kernel
theorem dX1_fits_28 : decode cX1_fits 28 = .ok (.imul, 1) := by decide +kernel
theorem dX1_fits_29 : decode cX1_fits 29 = .ok (.iadd, 1) := by decide +kernel
theorem dX1_fits_30 : decode cX1_fits 30 = .ok (.iconst 1, 1) := by decide +kernel
theorem dX1_fits_31 : decode cX1_fits 31 = .ok (.iadd, 1) := by decide +kernel
theorem dX1_fits_32 : decode cX1_fits 32 = .ok (.invokevirtual 44, 3) := by decide +kernel
theorem dX1_fits_35 : decode cX1_fits 35 = .ok (.aload_n 0, 1) := by decide +kernel
theorem dX1_fits_36 : decode cX1_fits 36 = .ok (.iload_n 1, 1) := by decide +kernel
theorem dX1_fits_37 : decode cX1_fits 37 = .ok (.iload 6, 2) := by decide +kernel
theorem dX1_fits_39 : decode cX1_fits 39 = .ok (.invokevirtual 50, 3) := by decide +kernel
theorem dX1_fits_42 : decode cX1_fits 42 = .ok (.i2l, 1) := by decide +kernel
theorem dX1_fits_43 : decode cX1_fits 43 = .ok (.lcmp, 1) := by decide +kernel
theorem dX1_fits_44 : decode cX1_fits 44 = .ok (.ifCond .eq 5, 3) := by decide +kernel
theorem dX1_fits_47 : decode cX1_fits 47 = .ok (.iconst 0, 1) := by decide +kernel
theorem dX1_fits_48 : decode cX1_fits 48 = .ok (.ireturn, 1) := by decide +kernel
theorem dX1_fits_49 : decode cX1_fits 49 = .ok (.iinc 5 1, 3) := by decide +kernel
theorem dX1_fits_52 : decode cX1_fits 52 = .ok (.goto (-49), 3) := by decide +kernel
theorem dX1_fits_55 : decode cX1_fits 55 = .ok (.iconst 1, 1) := by decide +kernel
theorem dX1_fits_56 : decode cX1_fits 56 = .ok (.ireturn, 1) := by decide +kernel
theorem dX1_sayingAt_0 : decode cX1_sayingAt 0 = .ok (.iload_n 1, 1) := by decide +kernel
theorem dX1_sayingAt_1 : decode cX1_sayingAt 1 = .ok (.bipush 10, 2) := by decide +kernel
theorem dX1_sayingAt_3 : decode cX1_sayingAt 3 = .ok (.imul, 1) := by decide +kernel
theorem dX1_sayingAt_4 : decode cX1_sayingAt 4 = .ok (.iload_n 2, 1) := by decide +kernel
theorem dX1_sayingAt_5 : decode cX1_sayingAt 5 = .ok (.iadd, 1) := by decide +kernel
theorem dX1_sayingAt_6 : decode cX1_sayingAt 6 = .ok (.istore_n 3, 1) := by decide +kernel
theorem dX1_sayingAt_7 : decode cX1_sayingAt 7 = .ok (.iload_n 3, 1) := by decide +kernel
theorem dX1_sayingAt_8 : decode cX1_sayingAt 8 = .ok (.ifCond .lt 12, 3) := by decide +kernel
theorem dX1_sayingAt_11 : decode cX1_sayingAt 11 = .ok (.iload_n 3, 1) := by decide +kernel
theorem dX1_sayingAt_12 : decode cX1_sayingAt 12 = .ok (.aload_n 0, 1) := by decide +kernel
theorem dX1_sayingAt_13 : decode cX1_sayingAt 13 = .ok (.getfield 11, 3) := by decide +kernel
theorem dX1_sayingAt_16 : decode cX1_sayingAt 16 = .ok (.arraylength, 1) := by decide +kernel
theorem dX1_sayingAt_17 : decode cX1_sayingAt 17 = .ok (.if_icmp .lt 7, 3) := by decide +kernel
theorem dX1_sayingAt_20 : decode cX1_sayingAt 20 = .ok (.iconst 0, 1) := by decide +kernel
theorem dX1_sayingAt_21 : decode cX1_sayingAt 21 = .ok (.goto 9, 3) := by decide +kernel
theorem dX1_sayingAt_24 : decode cX1_sayingAt 24 = .ok (.aload_n 0, 1) := by decide +kernel
theorem dX1_sayingAt_25 : decode cX1_sayingAt 25 = .ok (.getfield 11, 3) := by decide +kernel
theorem dX1_sayingAt_28 : decode cX1_sayingAt 28 = .ok (.iload_n 3, 1) := by decide +kernel
theorem dX1_sayingAt_29 : decode cX1_sayingAt 29 = .ok (.iaload, 1) := by decide +kernel
theorem dX1_sayingAt_30 : decode cX1_sayingAt 30 = .ok (.ireturn, 1) := by decide +kernel
theorem dX1_bestTry_0 : decode cX1_bestTry 0 = .ok (.bipush (-4), 2) := by decide +kernel
theorem dX1_bestTry_2 : decode cX1_bestTry 2 = .ok (.istore_n 2, 1) := by decide +kernel
theorem dX1_bestTry_3 : decode cX1_bestTry 3 = .ok (.iload_n 1, 1) := by decide +kernel
theorem dX1_bestTry_4 : decode cX1_bestTry 4 = .ok (.invokestatic 53, 3) := by decide +kernel
theorem dX1_bestTry_7 : decode cX1_bestTry 7 = .ok (.iconst 1, 1) := by decide +kernel
theorem dX1_bestTry_8 : decode cX1_bestTry 8 = .ok (.iadd, 1) := by decide +kernel
theorem dX1_bestTry_9 : decode cX1_bestTry 9 = .ok (.istore_n 3, 1) := by decide +kernel
theorem dX1_bestTry_10 : decode cX1_bestTry 10 = .ok (.iconst 0, 1) := by decide +kernel
theorem dX1_bestTry_11 : decode cX1_bestTry 11 = .ok (.istore 4, 2) := by decide +kernel
theorem dX1_bestTry_13 : decode cX1_bestTry 13 = .ok (.iload_n 1, 1) := by decide +kernel
theorem dX1_bestTry_14 : decode cX1_bestTry 14 = .ok (.ifCond .eq 37, 3) := by decide +kernel
theorem dX1_bestTry_17 : decode cX1_bestTry 17 = .ok (.iload 4, 2) := by decide +kernel
theorem dX1_bestTry_19 : decode cX1_bestTry 19 = .ok (.bipush 10, 2) := by decide +kernel
theorem dX1_bestTry_21 : decode cX1_bestTry 21 = .ok (.if_icmp .ge 30, 3) := by decide +kernel
theorem dX1_bestTry_24 : decode cX1_bestTry 24 = .ok (.aload_n 0, 1) := by decide +kernel
theorem dX1_bestTry_25 : decode cX1_bestTry 25 = .ok (.iload_n 1, 1) := by decide +kernel
theorem dX1_bestTry_26 : decode cX1_bestTry 26 = .ok (.iload 4, 2) := by decide +kernel
theorem dX1_bestTry_28 : decode cX1_bestTry 28 = .ok (.invokevirtual 58, 3) := by decide +kernel
theorem dX1_bestTry_31 : decode cX1_bestTry 31 = .ok (.istore 5, 2) := by decide +kernel
theorem dX1_bestTry_33 : decode cX1_bestTry 33 = .ok (.iload 5, 2) := by decide +kernel
theorem dX1_bestTry_35 : decode cX1_bestTry 35 = .ok (.iload_n 3, 1) := by decide +kernel
theorem dX1_bestTry_36 : decode cX1_bestTry 36 = .ok (.if_icmp .ge 9, 3) := by decide +kernel
theorem dX1_bestTry_39 : decode cX1_bestTry 39 = .ok (.iload 5, 2) := by decide +kernel
theorem dX1_bestTry_41 : decode cX1_bestTry 41 = .ok (.istore_n 3, 1) := by decide +kernel
theorem dX1_bestTry_42 : decode cX1_bestTry 42 = .ok (.iload 4, 2) := by decide +kernel
theorem dX1_bestTry_44 : decode cX1_bestTry 44 = .ok (.istore_n 2, 1) := by decide +kernel
theorem dX1_bestTry_45 : decode cX1_bestTry 45 = .ok (.iinc 4 1, 3) := by decide +kernel
theorem dX1_bestTry_48 : decode cX1_bestTry 48 = .ok (.goto (-35), 3) := by decide +kernel
theorem dX1_bestTry_51 : decode cX1_bestTry 51 = .ok (.iload_n 2, 1) := by decide +kernel
theorem dX1_bestTry_52 : decode cX1_bestTry 52 = .ok (.ireturn, 1) := by decide +kernel
theorem dX1_greatestPart_0 : decode cX1_greatestPart 0 = .ok (.iconst 0, 1) := by decide +kernel
theorem dX1_greatestPart_1 : decode cX1_greatestPart 1 = .ok (.istore_n 3, 1) := by decide +kernel
theorem dX1_greatestPart_2 : decode cX1_greatestPart 2 = .ok (.aload_n 0, 1) := by decide +kernel
theorem dX1_greatestPart_3 : decode cX1_greatestPart 3 = .ok (.getfield 15, 3) := by decide +kernel
theorem dX1_greatestPart_6 : decode cX1_greatestPart 6 = .ok (.istore 4, 2) := by decide +kernel
theorem dX1_greatestPart_8 : decode cX1_greatestPart 8 = .ok (.iload 4, 2) := by decide +kernel
theorem dX1_greatestPart_10 : decode cX1_greatestPart 10 = .ok (.aload_n 0, 1) := by decide +kernel
theorem dX1_greatestPart_11 : decode cX1_greatestPart 11 = .ok (.getfield 19, 3) := by decide +kernel
theorem dX1_greatestPart_14 : decode cX1_greatestPart 14 = .ok (.if_icmp .gt 22, 3) := by decide +kernel
theorem dX1_greatestPart_17 : decode cX1_greatestPart 17 = .ok (.iload_n 3, 1) := by decide +kernel
theorem dX1_greatestPart_18 : decode cX1_greatestPart 18 = .ok (.aload_n 0, 1) := by decide +kernel
theorem dX1_greatestPart_19 : decode cX1_greatestPart 19 = .ok (.iload 4, 2) := by decide +kernel
theorem dX1_greatestPart_21 : decode cX1_greatestPart 21 = .ok (.iload_n 1, 1) := by decide +kernel
theorem dX1_greatestPart_22 : decode cX1_greatestPart 22 = .ok (.iload_n 2, 1) := by decide +kernel
theorem dX1_greatestPart_23 : decode cX1_greatestPart 23 = .ok (.invokevirtual 61, 3) := by decide +kernel
theorem dX1_greatestPart_26 : decode cX1_greatestPart 26 = .ok (.invokestatic 65, 3) := by decide +kernel
theorem dX1_greatestPart_29 : decode cX1_greatestPart 29 = .ok (.istore_n 3, 1) := by decide +kernel
theorem dX1_greatestPart_30 : decode cX1_greatestPart 30 = .ok (.iinc 4 1, 3) := by decide +kernel
theorem dX1_greatestPart_33 : decode cX1_greatestPart 33 = .ok (.goto (-25), 3) := by decide +kernel
theorem dX1_greatestPart_36 : decode cX1_greatestPart 36 = .ok (.iload_n 3, 1) := by decide +kernel
theorem dX1_greatestPart_37 : decode cX1_greatestPart 37 = .ok (.ireturn, 1) := by decide +kernel
theorem dX1_partLike_0 : decode cX1_partLike 0 = .ok (.iconst 0, 1) := by decide +kernel
theorem dX1_partLike_1 : decode cX1_partLike 1 = .ok (.istore 4, 2) := by decide +kernel
theorem dX1_partLike_3 : decode cX1_partLike 3 = .ok (.aload_n 0, 1) := by decide +kernel
theorem dX1_partLike_4 : decode cX1_partLike 4 = .ok (.getfield 15, 3) := by decide +kernel
theorem dX1_partLike_7 : decode cX1_partLike 7 = .ok (.istore 5, 2) := by decide +kernel
theorem dX1_partLike_9 : decode cX1_partLike 9 = .ok (.iload 5, 2) := by decide +kernel
theorem dX1_partLike_11 : decode cX1_partLike 11 = .ok (.aload_n 0, 1) := by decide +kernel
theorem dX1_partLike_12 : decode cX1_partLike 12 = .ok (.getfield 19, 3) := by decide +kernel
theorem dX1_partLike_15 : decode cX1_partLike 15 = .ok (.if_icmp .gt 45, 3) := by decide +kernel
theorem dX1_partLike_18 : decode cX1_partLike 18 = .ok (.iload_n 2, 1) := by decide +kernel
theorem dX1_partLike_19 : decode cX1_partLike 19 = .ok (.iload_n 1, 1) := by decide +kernel
theorem dX1_partLike_20 : decode cX1_partLike 20 = .ok (.ishr, 1) := by decide +kernel
theorem dX1_partLike_21 : decode cX1_partLike 21 = .ok (.iconst 1, 1) := by decide +kernel
theorem dX1_partLike_22 : decode cX1_partLike 22 = .ok (.iand, 1) := by decide +kernel
theorem dX1_partLike_23 : decode cX1_partLike 23 = .ok (.ifCond .eq 37, 3) := by decide +kernel
theorem dX1_partLike_26 : decode cX1_partLike 26 = .ok (.iload_n 2, 1) := by decide +kernel
theorem dX1_partLike_27 : decode cX1_partLike 27 = .ok (.iload 5, 2) := by decide +kernel
theorem dX1_partLike_29 : decode cX1_partLike 29 = .ok (.ishr, 1) := by decide +kernel
theorem dX1_partLike_30 : decode cX1_partLike 30 = .ok (.iconst 1, 1) := by decide +kernel
theorem dX1_partLike_31 : decode cX1_partLike 31 = .ok (.iand, 1) := by decide +kernel
theorem dX1_partLike_32 : decode cX1_partLike 32 = .ok (.ifCond .eq 22, 3) := by decide +kernel
theorem dX1_partLike_35 : decode cX1_partLike 35 = .ok (.aload_n 0, 1) := by decide +kernel
theorem dX1_partLike_36 : decode cX1_partLike 36 = .ok (.iload 5, 2) := by decide +kernel
theorem dX1_partLike_38 : decode cX1_partLike 38 = .ok (.iload_n 3, 1) := by decide +kernel
theorem dX1_partLike_39 : decode cX1_partLike 39 = .ok (.invokevirtual 50, 3) := by decide +kernel
theorem dX1_partLike_42 : decode cX1_partLike 42 = .ok (.aload_n 0, 1) := by decide +kernel
theorem dX1_partLike_43 : decode cX1_partLike 43 = .ok (.iload_n 1, 1) := by decide +kernel
theorem dX1_partLike_44 : decode cX1_partLike 44 = .ok (.iload_n 3, 1) := by decide +kernel
theorem dX1_partLike_45 : decode cX1_partLike 45 = .ok (.invokevirtual 50, 3) := by decide +kernel
theorem dX1_partLike_48 : decode cX1_partLike 48 = .ok (.if_icmp .ne 6, 3) := by decide +kernel
theorem dX1_partLike_51 : decode cX1_partLike 51 = .ok (.iinc 4 1, 3) := by decide +kernel
theorem dX1_partLike_54 : decode cX1_partLike 54 = .ok (.iinc 5 1, 3) := by decide +kernel
theorem dX1_partLike_57 : decode cX1_partLike 57 = .ok (.goto (-48), 3) := by decide +kernel
theorem dX1_partLike_60 : decode cX1_partLike 60 = .ok (.iload 4, 2) := by decide +kernel
theorem dX1_partLike_62 : decode cX1_partLike 62 = .ok (.ireturn, 1) := by decide +kernel
theorem dX2_init_0 : decode cX2_init 0 = .ok (.aload_n 0, 1) := by decide +kernel
theorem dX2_init_1 : decode cX2_init 1 = .ok (.invokespecial 3, 3) := by decide +kernel
theorem dX2_init_4 : decode cX2_init 4 = .ok (.aload_n 0, 1) := by decide +kernel
theorem dX2_init_5 : decode cX2_init 5 = .ok (.bipush 48, 2) := by decide +kernel
theorem dX2_init_7 : decode cX2_init 7 = .ok (.newarray .int, 2) := by decide +kernel
theorem dX2_init_9 : decode cX2_init 9 = .ok (.putfield 9, 3) := by decide +kernel
theorem dX2_init_12 : decode cX2_init 12 = .ok (.aload_n 0, 1) := by decide +kernel
theorem dX2_init_13 : decode cX2_init 13 = .ok (.sipush 576, 3) := by decide +kernel
theorem dX2_init_16 : decode cX2_init 16 = .ok (.newarray .int, 2) := by decide +kernel
theorem dX2_init_18 : decode cX2_init 18 = .ok (.putfield 15, 3) := by decide +kernel
theorem dX2_init_21 : decode cX2_init 21 = .ok (.aload_n 0, 1) := by decide +kernel
theorem dX2_init_22 : decode cX2_init 22 = .ok (.bipush 8, 2) := by decide +kernel
theorem dX2_init_24 : decode cX2_init 24 = .ok (.newarray .int, 2) := by decide +kernel
theorem dX2_init_26 : decode cX2_init 26 = .ok (.putfield 18, 3) := by decide +kernel
theorem dX2_init_29 : decode cX2_init 29 = .ok (.return_, 1) := by decide +kernel
theorem dX2_forgiven_0 : decode cX2_forgiven 0 = .ok (.aload_n 0, 1) := by decide +kernel
theorem dX2_forgiven_1 : decode cX2_forgiven 1 = .ok (.getfield 21, 3) := by decide +kernel
theorem dX2_forgiven_4 : decode cX2_forgiven 4 = .ok (.ireturn, 1) := by decide +kernel
theorem dX2_carrierOf_0 : decode cX2_carrierOf 0 = .ok (.iload_n 1, 1) := by decide +kernel
theorem dX2_carrierOf_1 : decode cX2_carrierOf 1 = .ok (.ifCond .lt 12, 3) := by decide +kernel
theorem dX2_carrierOf_4 : decode cX2_carrierOf 4 = .ok (.iload_n 1, 1) := by decide +kernel
theorem dX2_carrierOf_5 : decode cX2_carrierOf 5 = .ok (.aload_n 0, 1) := by decide +kernel
theorem dX2_carrierOf_6 : decode cX2_carrierOf 6 = .ok (.getfield 18, 3) := by decide +kernel
theorem dX2_carrierOf_9 : decode cX2_carrierOf 9 = .ok (.arraylength, 1) := by decide +kernel
theorem dX2_carrierOf_10 : decode cX2_carrierOf 10 = .ok (.if_icmp .lt 8, 3) := by decide +kernel
theorem dX2_carrierOf_13 : decode cX2_carrierOf 13 = .ok (.bipush (-4), 2) := by decide +kernel
theorem dX2_carrierOf_15 : decode cX2_carrierOf 15 = .ok (.goto 9, 3) := by decide +kernel
theorem dX2_carrierOf_18 : decode cX2_carrierOf 18 = .ok (.aload_n 0, 1) := by decide +kernel
theorem dX2_carrierOf_19 : decode cX2_carrierOf 19 = .ok (.getfield 18, 3) := by decide +kernel
theorem dX2_carrierOf_22 : decode cX2_carrierOf 22 = .ok (.iload_n 1, 1) := by decide +kernel
theorem dX2_carrierOf_23 : decode cX2_carrierOf 23 = .ok (.iaload, 1) := by decide +kernel
theorem dX2_carrierOf_24 : decode cX2_carrierOf 24 = .ok (.ireturn, 1) := by decide +kernel
theorem dX2_settle_0 : decode cX2_settle 0 = .ok (.aload_n 0, 1) := by decide +kernel
theorem dX2_settle_1 : decode cX2_settle 1 = .ok (.aload_n 1, 1) := by decide +kernel
theorem dX2_settle_2 : decode cX2_settle 2 = .ok (.invokevirtual 25, 3) := by decide +kernel
theorem dX2_settle_5 : decode cX2_settle 5 = .ok (.aload_n 0, 1) := by decide +kernel
theorem dX2_settle_6 : decode cX2_settle 6 = .ok (.getfield 15, 3) := by decide +kernel
theorem dX2_settle_9 : decode cX2_settle 9 = .ok (.iconst 0, 1) := by decide +kernel
theorem dX2_settle_10 : decode cX2_settle 10 = .ok (.invokestatic 29, 3) := by decide +kernel
theorem dX2_settle_13 : decode cX2_settle 13 = .ok (.aload_n 1, 1) := by decide +kernel
theorem dX2_settle_14 : decode cX2_settle 14 = .ok (.invokevirtual 35, 3) := by decide +kernel
theorem dX2_settle_17 : decode cX2_settle 17 = .ok (.iconst 1, 1) := by decide +kernel
theorem dX2_settle_18 : decode cX2_settle 18 = .ok (.isub, 1) := by decide +kernel
theorem dX2_settle_19 : decode cX2_settle 19 = .ok (.istore_n 2, 1) := by decide +kernel
theorem dX2_settle_20 : decode cX2_settle 20 = .ok (.iload_n 2, 1) := by decide +kernel
theorem dX2_settle_21 : decode cX2_settle 21 = .ok (.ifCond .lt 41, 3) := by decide +kernel
theorem dX2_settle_24 : decode cX2_settle 24 = .ok (.iconst 0, 1) := by decide +kernel
theorem dX2_settle_25 : decode cX2_settle 25 = .ok (.istore_n 3, 1) := by decide +kernel
theorem dX2_settle_26 : decode cX2_settle 26 = .ok (.iload_n 3, 1) := by decide +kernel
theorem dX2_settle_27 : decode cX2_settle 27 = .ok (.bipush 64, 2) := by decide +kernel
theorem dX2_settle_29 : decode cX2_settle 29 = .ok (.if_icmp .ge 27, 3) := by decide +kernel
theorem dX2_settle_32 : decode cX2_settle 32 = .ok (.aload_n 0, 1) := by decide +kernel
theorem dX2_settle_33 : decode cX2_settle 33 = .ok (.iload_n 2, 1) := by decide +kernel
theorem dX2_settle_34 : decode cX2_settle 34 = .ok (.iload_n 3, 1) := by decide +kernel
theorem dX2_settle_35 : decode cX2_settle 35 = .ok (.aload_n 0, 1) := by decide +kernel
theorem dX2_settle_36 : decode cX2_settle 36 = .ok (.iload_n 2, 1) := by decide +kernel
theorem dX2_settle_37 : decode cX2_settle 37 = .ok (.iload_n 3, 1) := by decide +kernel
theorem dX2_settle_38 : decode cX2_settle 38 = .ok (.aload_n 0, 1) := by decide +kernel
theorem dX2_settle_39 : decode cX2_settle 39 = .ok (.iload_n 2, 1) := by decide +kernel
theorem dX2_settle_40 : decode cX2_settle 40 = .ok (.iload_n 3, 1) := by decide +kernel
theorem dX2_settle_41 : decode cX2_settle 41 = .ok (.invokevirtual 41, 3) := by decide +kernel
theorem dX2_settle_44 : decode cX2_settle 44 = .ok (.invokevirtual 45, 3) := by decide +kernel
theorem dX2_settle_47 : decode cX2_settle 47 = .ok (.invokevirtual 49, 3) := by decide +kernel
theorem dX2_settle_50 : decode cX2_settle 50 = .ok (.iinc 3 1, 3) := by decide +kernel
theorem dX2_settle_53 : decode cX2_settle 53 = .ok (.goto (-27), 3) := by decide +kernel
theorem dX2_settle_56 : decode cX2_settle 56 = .ok (.iinc 2 (-1), 3) := by decide +kernel
theorem dX2_settle_59 : decode cX2_settle 59 = .ok (.goto (-39), 3) := by decide +kernel
theorem dX2_settle_62 : decode cX2_settle 62 = .ok (.aload_n 0, 1) := by decide +kernel
theorem dX2_settle_63 : decode cX2_settle 63 = .ok (.aload_n 1, 1) := by decide +kernel
theorem dX2_settle_64 : decode cX2_settle 64 = .ok (.invokevirtual 35, 3) := by decide +kernel
theorem dX2_settle_67 : decode cX2_settle 67 = .ok (.invokevirtual 53, 3) := by decide +kernel
theorem dX2_settle_70 : decode cX2_settle 70 = .ok (.return_, 1) := by decide +kernel
theorem dX2_weigh_0 : decode cX2_weigh 0 = .ok (.iconst 0, 1) := by decide +kernel
theorem dX2_weigh_1 : decode cX2_weigh 1 = .ok (.istore_n 2, 1) := by decide +kernel
theorem dX2_weigh_2 : decode cX2_weigh 2 = .ok (.iload_n 2, 1) := by decide +kernel
theorem dX2_weigh_3 : decode cX2_weigh 3 = .ok (.aload_n 0, 1) := by decide +kernel
theorem dX2_weigh_4 : decode cX2_weigh 4 = .ok (.getfield 9, 3) := by decide +kernel
theorem dX2_weigh_7 : decode cX2_weigh 7 = .ok (.arraylength, 1) := by decide +kernel
theorem dX2_weigh_8 : decode cX2_weigh 8 = .ok (.if_icmp .ge 71, 3) := by decide +kernel
theorem dX2_weigh_11 : decode cX2_weigh 11 = .ok (.iload_n 2, 1) := by decide +kernel
theorem dX2_weigh_12 : decode cX2_weigh 12 = .ok (.bipush 6, 2) := by decide +kernel
theorem dX2_weigh_14 : decode cX2_weigh 14 = .ok (.idiv, 1) := by decide +kernel
theorem dX2_weigh_15 : decode cX2_weigh 15 = .ok (.istore_n 3, 1) := by decide +kernel
theorem dX2_weigh_16 : decode cX2_weigh 16 = .ok (.iload_n 2, 1) := by decide +kernel
theorem dX2_weigh_17 : decode cX2_weigh 17 = .ok (.bipush 6, 2) := by decide +kernel
theorem dX2_weigh_19 : decode cX2_weigh 19 = .ok (.irem, 1) := by decide +kernel
theorem dX2_weigh_20 : decode cX2_weigh 20 = .ok (.istore 4, 2) := by decide +kernel
theorem dX2_weigh_22 : decode cX2_weigh 22 = .ok (.aload_n 1, 1) := by decide +kernel
theorem dX2_weigh_23 : decode cX2_weigh 23 = .ok (.iload_n 3, 1) := by decide +kernel
theorem dX2_weigh_24 : decode cX2_weigh 24 = .ok (.iload 4, 2) := by decide +kernel
theorem dX2_weigh_26 : decode cX2_weigh 26 = .ok (.invokevirtual 57, 3) := by decide +kernel
theorem dX2_weigh_29 : decode cX2_weigh 29 = .ok (.ifCond .eq 13, 3) := by decide +kernel
theorem dX2_weigh_32 : decode cX2_weigh 32 = .ok (.aload_n 1, 1) := by decide +kernel
theorem dX2_weigh_33 : decode cX2_weigh 33 = .ok (.iload_n 3, 1) := by decide +kernel
theorem dX2_weigh_34 : decode cX2_weigh 34 = .ok (.iload 4, 2) := by decide +kernel
theorem dX2_weigh_36 : decode cX2_weigh 36 = .ok (.invokevirtual 61, 3) := by decide +kernel
theorem dX2_weigh_39 : decode cX2_weigh 39 = .ok (.goto 4, 3) := by decide +kernel
theorem dX2_weigh_42 : decode cX2_weigh 42 = .ok (.iconst 0, 1) := by decide +kernel
theorem dX2_weigh_43 : decode cX2_weigh 43 = .ok (.istore 5, 2) := by decide +kernel
theorem dX2_weigh_45 : decode cX2_weigh 45 = .ok (.aload_n 0, 1) := by decide +kernel
theorem dX2_weigh_46 : decode cX2_weigh 46 = .ok (.getfield 9, 3) := by decide +kernel
theorem dX2_weigh_49 : decode cX2_weigh 49 = .ok (.iload_n 2, 1) := by decide +kernel
theorem dX2_weigh_50 : decode cX2_weigh 50 = .ok (.iload 5, 2) := by decide +kernel
theorem dX2_weigh_52 : decode cX2_weigh 52 = .ok (.ifCond .ne 7, 3) := by decide +kernel
theorem dX2_weigh_55 : decode cX2_weigh 55 = .ok (.iconst 0, 1) := by decide +kernel
theorem dX2_weigh_56 : decode cX2_weigh 56 = .ok (.goto 16, 3) := by decide +kernel
theorem dX2_weigh_59 : decode cX2_weigh 59 = .ok (.iload 5, 2) := by decide +kernel
theorem dX2_weigh_61 : decode cX2_weigh 61 = .ok (.iconst 1, 1) := by decide +kernel
theorem dX2_weigh_62 : decode cX2_weigh 62 = .ok (.if_icmp .ne 8, 3) := by decide +kernel
theorem dX2_weigh_65 : decode cX2_weigh 65 = .ok (.bipush 16, 2) := by decide +kernel
theorem dX2_weigh_67 : decode cX2_weigh 67 = .ok (.goto 5, 3) := by decide +kernel
theorem dX2_weigh_70 : decode cX2_weigh 70 = .ok (.bipush 15, 2) := by decide +kernel
theorem dX2_weigh_72 : decode cX2_weigh 72 = .ok (.iastore, 1) := by decide +kernel
theorem dX2_weigh_73 : decode cX2_weigh 73 = .ok (.iinc 2 1, 3) := by decide +kernel
theorem dX2_weigh_76 : decode cX2_weigh 76 = .ok (.goto (-74), 3) := by decide +kernel
theorem dX2_weigh_79 : decode cX2_weigh 79 = .ok (.return_, 1) := by decide +kernel
theorem dX2_firstCarrier_0 : decode cX2_firstCarrier 0 = .ok (.bipush (-4), 2) := by decide +kernel
theorem dX2_firstCarrier_2 : decode cX2_firstCarrier 2 = .ok (.istore_n 3, 1) := by decide +kernel
theorem dX2_firstCarrier_3 : decode cX2_firstCarrier 3 = .ok (.iconst (-1), 1) := by decide +kernel
theorem dX2_firstCarrier_4 : decode cX2_firstCarrier 4 = .ok (.istore 4, 2) := by decide +kernel
theorem dX2_firstCarrier_6 : decode cX2_firstCarrier 6 = .ok (.iconst 0, 1) := by decide +kernel
theorem dX2_firstCarrier_7 : decode cX2_firstCarrier 7 = .ok (.istore 5, 2) := by decide +kernel
theorem dX2_firstCarrier_9 : decode cX2_firstCarrier 9 = .ok (.iload 5, 2) := by decide +kernel
theorem dX2_firstCarrier_11 : decode cX2_firstCarrier 11 = .ok (.bipush 6, 2) := by decide +kernel
theorem dX2_firstCarrier_13 : decode cX2_firstCarrier 13 = .ok (.if_icmp .ge 54, 3) := by decide +kernel
theorem dX2_firstCarrier_16 : decode cX2_firstCarrier 16 = .ok (.aload_n 0, 1) := by decide +kernel
theorem dX2_firstCarrier_17 : decode cX2_firstCarrier 17 = .ok (.iload_n 1, 1) := by decide +kernel
theorem dX2_firstCarrier_18 : decode cX2_firstCarrier 18 = .ok (.iload 5, 2) := by decide +kernel
theorem dX2_firstCarrier_20 : decode cX2_firstCarrier 20 = .ok (.invokevirtual 64, 3) := by decide +kernel
theorem dX2_firstCarrier_23 : decode cX2_firstCarrier 23 = .ok (.ifCond .le 38, 3) := by decide +kernel
theorem dX2_firstCarrier_26 : decode cX2_firstCarrier 26 = .ok (.iload_n 2, 1) := by decide +kernel
theorem dX2_firstCarrier_27 : decode cX2_firstCarrier 27 = .ok (.iload 5, 2) := by decide +kernel
theorem dX2_firstCarrier_29 : decode cX2_firstCarrier 29 = .ok (.ishr, 1) := by decide +kernel
theorem dX2_firstCarrier_30 : decode cX2_firstCarrier 30 = .ok (.iconst 1, 1) := by decide +kernel
theorem dX2_firstCarrier_31 : decode cX2_firstCarrier 31 = .ok (.iand, 1) := by decide +kernel
theorem dX2_firstCarrier_32 : decode cX2_firstCarrier 32 = .ok (.ifCond .ne 29, 3) := by decide +kernel
theorem dX2_firstCarrier_35 : decode cX2_firstCarrier 35 = .ok (.aload_n 0, 1) := by decide +kernel
theorem dX2_firstCarrier_36 : decode cX2_firstCarrier 36 = .ok (.iload_n 1, 1) := by decide +kernel
theorem dX2_firstCarrier_37 : decode cX2_firstCarrier 37 = .ok (.iload_n 2, 1) := by decide +kernel
theorem dX2_firstCarrier_38 : decode cX2_firstCarrier 38 = .ok (.iload 5, 2) := by decide +kernel
theorem dX2_firstCarrier_40 : decode cX2_firstCarrier 40 = .ok (.invokevirtual 45, 3) := by decide +kernel
theorem dX2_firstCarrier_43 : decode cX2_firstCarrier 43 = .ok (.iload 4, 2) := by decide +kernel
theorem dX2_firstCarrier_45 : decode cX2_firstCarrier 45 = .ok (.if_icmp .le 16, 3) := by decide +kernel
theorem dX2_firstCarrier_48 : decode cX2_firstCarrier 48 = .ok (.aload_n 0, 1) := by decide +kernel
theorem dX2_firstCarrier_49 : decode cX2_firstCarrier 49 = .ok (.iload_n 1, 1) := by decide +kernel
theorem dX2_firstCarrier_50 : decode cX2_firstCarrier 50 = .ok (.iload_n 2, 1) := by decide +kernel
theorem dX2_firstCarrier_51 : decode cX2_firstCarrier 51 = .ok (.iload 5, 2) := by decide +kernel
theorem dX2_firstCarrier_53 : decode cX2_firstCarrier 53 = .ok (.invokevirtual 45, 3) := by decide +kernel
theorem dX2_firstCarrier_56 : decode cX2_firstCarrier 56 = .ok (.istore 4, 2) := by decide +kernel
theorem dX2_firstCarrier_58 : decode cX2_firstCarrier 58 = .ok (.iload 5, 2) := by decide +kernel
theorem dX2_firstCarrier_60 : decode cX2_firstCarrier 60 = .ok (.istore_n 3, 1) := by decide +kernel
theorem dX2_firstCarrier_61 : decode cX2_firstCarrier 61 = .ok (.iinc 5 1, 3) := by decide +kernel
theorem dX2_firstCarrier_64 : decode cX2_firstCarrier 64 = .ok (.goto (-55), 3) := by decide +kernel
theorem dX2_firstCarrier_67 : decode cX2_firstCarrier 67 = .ok (.aload_n 0, 1) := by decide +kernel
theorem dX2_firstCarrier_68 : decode cX2_firstCarrier 68 = .ok (.iload_n 1, 1) := by decide +kernel
theorem dX2_firstCarrier_69 : decode cX2_firstCarrier 69 = .ok (.iload_n 2, 1) := by decide +kernel
theorem dX2_firstCarrier_70 : decode cX2_firstCarrier 70 = .ok (.bipush (-4), 2) := by decide +kernel
theorem dX2_firstCarrier_72 : decode cX2_firstCarrier 72 = .ok (.invokevirtual 45, 3) := by decide +kernel
theorem dX2_firstCarrier_75 : decode cX2_firstCarrier 75 = .ok (.iload 4, 2) := by decide +kernel
theorem dX2_firstCarrier_77 : decode cX2_firstCarrier 77 = .ok (.if_icmp .le 8, 3) := by decide +kernel
theorem dX2_firstCarrier_80 : decode cX2_firstCarrier 80 = .ok (.bipush (-4), 2) := by decide +kernel
theorem dX2_firstCarrier_82 : decode cX2_firstCarrier 82 = .ok (.goto 4, 3) := by decide +kernel
theorem dX2_firstCarrier_85 : decode cX2_firstCarrier 85 = .ok (.iload_n 3, 1) := by decide +kernel
theorem dX2_firstCarrier_86 : decode cX2_firstCarrier 86 = .ok (.ireturn, 1) := by decide +kernel
theorem dX2_worthOf_0 : decode cX2_worthOf 0 = .ok (.iload_n 3, 1) := by decide +kernel
theorem dX2_worthOf_1 : decode cX2_worthOf 1 = .ok (.ifCond .ge 14, 3) := by decide +kernel
theorem dX2_worthOf_4 : decode cX2_worthOf 4 = .ok (.aload_n 0, 1) := by decide +kernel
theorem dX2_worthOf_5 : decode cX2_worthOf 5 = .ok (.iload_n 1, 1) := by decide +kernel
theorem dX2_worthOf_6 : decode cX2_worthOf 6 = .ok (.iconst 1, 1) := by decide +kernel
theorem dX2_worthOf_7 : decode cX2_worthOf 7 = .ok (.iadd, 1) := by decide +kernel
theorem dX2_worthOf_8 : decode cX2_worthOf 8 = .ok (.iload_n 2, 1) := by decide +kernel
theorem dX2_worthOf_9 : decode cX2_worthOf 9 = .ok (.invokevirtual 67, 3) := by decide +kernel
theorem dX2_worthOf_12 : decode cX2_worthOf 12 = .ok (.goto 22, 3) := by decide +kernel
theorem dX2_worthOf_15 : decode cX2_worthOf 15 = .ok (.aload_n 0, 1) := by decide +kernel
theorem dX2_worthOf_16 : decode cX2_worthOf 16 = .ok (.iload_n 1, 1) := by decide +kernel
theorem dX2_worthOf_17 : decode cX2_worthOf 17 = .ok (.iload_n 3, 1) := by decide +kernel
theorem dX2_worthOf_18 : decode cX2_worthOf 18 = .ok (.invokevirtual 64, 3) := by decide +kernel
theorem dX2_worthOf_21 : decode cX2_worthOf 21 = .ok (.aload_n 0, 1) := by decide +kernel
theorem dX2_worthOf_22 : decode cX2_worthOf 22 = .ok (.iload_n 1, 1) := by decide +kernel
theorem dX2_worthOf_23 : decode cX2_worthOf 23 = .ok (.iconst 1, 1) := by decide +kernel
theorem dX2_worthOf_24 : decode cX2_worthOf 24 = .ok (.iadd, 1) := by decide +kernel
theorem dX2_worthOf_25 : decode cX2_worthOf 25 = .ok (.iload_n 2, 1) := by decide +kernel
theorem dX2_worthOf_26 : decode cX2_worthOf 26 = .ok (.iconst 1, 1) := by decide +kernel
theorem dX2_worthOf_27 : decode cX2_worthOf 27 = .ok (.iload_n 3, 1) := by decide +kernel
theorem dX2_worthOf_28 : decode cX2_worthOf 28 = .ok (.ishl, 1) := by decide +kernel
theorem dX2_worthOf_29 : decode cX2_worthOf 29 = .ok (.ior, 1) := by decide +kernel
theorem dX2_worthOf_30 : decode cX2_worthOf 30 = .ok (.invokevirtual 67, 3) := by decide +kernel
theorem dX2_worthOf_33 : decode cX2_worthOf 33 = .ok (.iadd, 1) := by decide +kernel
theorem dX2_worthOf_34 : decode cX2_worthOf 34 = .ok (.ireturn, 1) := by decide +kernel
theorem dX2_pairWorth_0 : decode cX2_pairWorth 0 = .ok (.iload_n 1, 1) := by decide +kernel
theorem dX2_pairWorth_1 : decode cX2_pairWorth 1 = .ok (.bipush 6, 2) := by decide +kernel
theorem dX2_pairWorth_3 : decode cX2_pairWorth 3 = .ok (.imul, 1) := by decide +kernel
theorem dX2_pairWorth_4 : decode cX2_pairWorth 4 = .ok (.iload_n 2, 1) := by decide +kernel
theorem dX2_pairWorth_5 : decode cX2_pairWorth 5 = .ok (.iadd, 1) := by decide +kernel
theorem dX2_pairWorth_6 : decode cX2_pairWorth 6 = .ok (.istore_n 3, 1) := by decide +kernel
theorem dX2_pairWorth_7 : decode cX2_pairWorth 7 = .ok (.iload_n 3, 1) := by decide +kernel
theorem dX2_pairWorth_8 : decode cX2_pairWorth 8 = .ok (.ifCond .lt 12, 3) := by decide +kernel
theorem dX2_pairWorth_11 : decode cX2_pairWorth 11 = .ok (.iload_n 3, 1) := by decide +kernel
theorem dX2_pairWorth_12 : decode cX2_pairWorth 12 = .ok (.aload_n 0, 1) := by decide +kernel
theorem dX2_pairWorth_13 : decode cX2_pairWorth 13 = .ok (.getfield 9, 3) := by decide +kernel
theorem dX2_pairWorth_16 : decode cX2_pairWorth 16 = .ok (.arraylength, 1) := by decide +kernel
theorem dX2_pairWorth_17 : decode cX2_pairWorth 17 = .ok (.if_icmp .lt 7, 3) := by decide +kernel
theorem dX2_pairWorth_20 : decode cX2_pairWorth 20 = .ok (.iconst 0, 1) := by decide +kernel
theorem dX2_pairWorth_21 : decode cX2_pairWorth 21 = .ok (.goto 9, 3) := by decide +kernel
theorem dX2_pairWorth_24 : decode cX2_pairWorth 24 = .ok (.aload_n 0, 1) := by decide +kernel
theorem dX2_pairWorth_25 : decode cX2_pairWorth 25 = .ok (.getfield 9, 3) := by decide +kernel
theorem dX2_pairWorth_28 : decode cX2_pairWorth 28 = .ok (.iload_n 3, 1) := by decide +kernel
theorem dX2_pairWorth_29 : decode cX2_pairWorth 29 = .ok (.iaload, 1) := by decide +kernel
theorem dX2_pairWorth_30 : decode cX2_pairWorth 30 = .ok (.ireturn, 1) := by decide +kernel
theorem dX2_bestAt_0 : decode cX2_bestAt 0 = .ok (.iload_n 1, 1) := by decide +kernel
theorem dX2_bestAt_1 : decode cX2_bestAt 1 = .ok (.bipush 64, 2) := by decide +kernel
theorem dX2_bestAt_3 : decode cX2_bestAt 3 = .ok (.imul, 1) := by decide +kernel
theorem dX2_bestAt_4 : decode cX2_bestAt 4 = .ok (.iload_n 2, 1) := by decide +kernel
theorem dX2_bestAt_5 : decode cX2_bestAt 5 = .ok (.iadd, 1) := by decide +kernel
theorem dX2_bestAt_6 : decode cX2_bestAt 6 = .ok (.istore_n 3, 1) := by decide +kernel
theorem dX2_bestAt_7 : decode cX2_bestAt 7 = .ok (.iload_n 3, 1) := by decide +kernel
theorem dX2_bestAt_8 : decode cX2_bestAt 8 = .ok (.ifCond .lt 12, 3) := by decide +kernel
theorem dX2_bestAt_11 : decode cX2_bestAt 11 = .ok (.iload_n 3, 1) := by decide +kernel
theorem dX2_bestAt_12 : decode cX2_bestAt 12 = .ok (.aload_n 0, 1) := by decide +kernel
theorem dX2_bestAt_13 : decode cX2_bestAt 13 = .ok (.getfield 15, 3) := by decide +kernel
theorem dX2_bestAt_16 : decode cX2_bestAt 16 = .ok (.arraylength, 1) := by decide +kernel
theorem dX2_bestAt_17 : decode cX2_bestAt 17 = .ok (.if_icmp .lt 7, 3) := by decide +kernel
theorem dX2_bestAt_20 : decode cX2_bestAt 20 = .ok (.iconst 0, 1) := by decide +kernel
theorem dX2_bestAt_21 : decode cX2_bestAt 21 = .ok (.goto 9, 3) := by decide +kernel
theorem dX2_bestAt_24 : decode cX2_bestAt 24 = .ok (.aload_n 0, 1) := by decide +kernel
theorem dX2_bestAt_25 : decode cX2_bestAt 25 = .ok (.getfield 15, 3) := by decide +kernel
theorem dX2_bestAt_28 : decode cX2_bestAt 28 = .ok (.iload_n 3, 1) := by decide +kernel
theorem dX2_bestAt_29 : decode cX2_bestAt 29 = .ok (.iaload, 1) := by decide +kernel
theorem dX2_bestAt_30 : decode cX2_bestAt 30 = .ok (.ireturn, 1) := by decide +kernel
theorem dX2_setBest_0 : decode cX2_setBest 0 = .ok (.iload_n 1, 1) := by decide +kernel
theorem dX2_setBest_1 : decode cX2_setBest 1 = .ok (.bipush 64, 2) := by decide +kernel
theorem dX2_setBest_3 : decode cX2_setBest 3 = .ok (.imul, 1) := by decide +kernel
theorem dX2_setBest_4 : decode cX2_setBest 4 = .ok (.iload_n 2, 1) := by decide +kernel
theorem dX2_setBest_5 : decode cX2_setBest 5 = .ok (.iadd, 1) := by decide +kernel
theorem dX2_setBest_6 : decode cX2_setBest 6 = .ok (.istore 4, 2) := by decide +kernel
theorem dX2_setBest_8 : decode cX2_setBest 8 = .ok (.iload 4, 2) := by decide +kernel
theorem dX2_setBest_10 : decode cX2_setBest 10 = .ok (.ifCond .lt 21, 3) := by decide +kernel
theorem dX2_setBest_13 : decode cX2_setBest 13 = .ok (.iload 4, 2) := by decide +kernel
theorem dX2_setBest_15 : decode cX2_setBest 15 = .ok (.aload_n 0, 1) := by decide +kernel
theorem dX2_setBest_16 : decode cX2_setBest 16 = .ok (.getfield 15, 3) := by decide +kernel
theorem dX2_setBest_19 : decode cX2_setBest 19 = .ok (.arraylength, 1) := by decide +kernel
theorem dX2_setBest_20 : decode cX2_setBest 20 = .ok (.if_icmp .ge 11, 3) := by decide +kernel
theorem dX2_setBest_23 : decode cX2_setBest 23 = .ok (.aload_n 0, 1) := by decide +kernel
theorem dX2_setBest_24 : decode cX2_setBest 24 = .ok (.getfield 15, 3) := by decide +kernel
theorem dX2_setBest_27 : decode cX2_setBest 27 = .ok (.iload 4, 2) := by decide +kernel
theorem dX2_setBest_29 : decode cX2_setBest 29 = .ok (.iload_n 3, 1) := by decide +kernel
theorem dX2_setBest_30 : decode cX2_setBest 30 = .ok (.iastore, 1) := by decide +kernel
theorem dX2_setBest_31 : decode cX2_setBest 31 = .ok (.return_, 1) := by decide +kernel
theorem dX2_choose_0 : decode cX2_choose 0 = .ok (.iconst 0, 1) := by decide +kernel
theorem dX2_choose_1 : decode cX2_choose 1 = .ok (.istore_n 2, 1) := by decide +kernel
theorem dX2_choose_2 : decode cX2_choose 2 = .ok (.aload_n 0, 1) := by decide +kernel
theorem dX2_choose_3 : decode cX2_choose 3 = .ok (.iconst 0, 1) := by decide +kernel
theorem dX2_choose_4 : decode cX2_choose 4 = .ok (.putfield 21, 3) := by decide +kernel
theorem dX2_choose_7 : decode cX2_choose 7 = .ok (.iconst 0, 1) := by decide +kernel
theorem dX2_choose_8 : decode cX2_choose 8 = .ok (.istore_n 3, 1) := by decide +kernel
theorem dX2_choose_9 : decode cX2_choose 9 = .ok (.iload_n 3, 1) := by decide +kernel
theorem dX2_choose_10 : decode cX2_choose 10 = .ok (.iload_n 1, 1) := by decide +kernel
theorem dX2_choose_11 : decode cX2_choose 11 = .ok (.if_icmp .ge 56, 3) := by decide +kernel
theorem dX2_choose_14 : decode cX2_choose 14 = .ok (.iload_n 3, 1) := by decide +kernel
theorem dX2_choose_15 : decode cX2_choose 15 = .ok (.aload_n 0, 1) := by decide +kernel
theorem dX2_choose_16 : decode cX2_choose 16 = .ok (.getfield 18, 3) := by decide +kernel
theorem dX2_choose_19 : decode cX2_choose 19 = .ok (.arraylength, 1) := by decide +kernel
theorem dX2_choose_20 : decode cX2_choose 20 = .ok (.if_icmp .ge 47, 3) := by decide +kernel
theorem dX2_choose_23 : decode cX2_choose 23 = .ok (.aload_n 0, 1) := by decide +kernel
theorem dX2_choose_24 : decode cX2_choose 24 = .ok (.iload_n 3, 1) := by decide +kernel
theorem dX2_choose_25 : decode cX2_choose 25 = .ok (.iload_n 2, 1) := by decide +kernel
theorem dX2_choose_26 : decode cX2_choose 26 = .ok (.invokevirtual 41, 3) := by decide +kernel
theorem dX2_choose_29 : decode cX2_choose 29 = .ok (.istore 4, 2) := by decide +kernel
theorem dX2_choose_31 : decode cX2_choose 31 = .ok (.aload_n 0, 1) := by decide +kernel
theorem dX2_choose_32 : decode cX2_choose 32 = .ok (.getfield 18, 3) := by decide +kernel
theorem dX2_choose_35 : decode cX2_choose 35 = .ok (.iload_n 3, 1) := by decide +kernel
theorem dX2_choose_36 : decode cX2_choose 36 = .ok (.iload 4, 2) := by decide +kernel
theorem dX2_choose_38 : decode cX2_choose 38 = .ok (.iastore, 1) := by decide +kernel
theorem dX2_choose_39 : decode cX2_choose 39 = .ok (.iload 4, 2) := by decide +kernel
theorem dX2_choose_41 : decode cX2_choose 41 = .ok (.ifCond .lt 20, 3) := by decide +kernel
theorem dX2_choose_44 : decode cX2_choose 44 = .ok (.iload_n 2, 1) := by decide +kernel
theorem dX2_choose_45 : decode cX2_choose 45 = .ok (.iconst 1, 1) := by decide +kernel
theorem dX2_choose_46 : decode cX2_choose 46 = .ok (.iload 4, 2) := by decide +kernel
theorem dX2_choose_48 : decode cX2_choose 48 = .ok (.ishl, 1) := by decide +kernel
theorem dX2_choose_49 : decode cX2_choose 49 = .ok (.ior, 1) := by decide +kernel
theorem dX2_choose_50 : decode cX2_choose 50 = .ok (.istore_n 2, 1) := by decide +kernel
theorem dX2_choose_51 : decode cX2_choose 51 = .ok (.aload_n 0, 1) := by decide +kernel
theorem dX2_choose_52 : decode cX2_choose 52 = .ok (.dup, 1) := by decide +kernel
theorem dX2_choose_53 : decode cX2_choose 53 = .ok (.getfield 21, 3) := by decide +kernel
theorem dX2_choose_56 : decode cX2_choose 56 = .ok (.iconst 1, 1) := by decide +kernel
theorem dX2_choose_57 : decode cX2_choose 57 = .ok (.iadd, 1) := by decide +kernel
theorem dX2_choose_58 : decode cX2_choose 58 = .ok (.putfield 21, 3) := by decide +kernel
theorem dX2_choose_61 : decode cX2_choose 61 = .ok (.iinc 3 1, 3) := by decide +kernel
theorem dX2_choose_64 : decode cX2_choose 64 = .ok (.goto (-55), 3) := by decide +kernel
theorem dX2_choose_67 : decode cX2_choose 67 = .ok (.return_, 1) := by decide +kernel
theorem dX3_init_0 : decode cX3_init 0 = .ok (.aload_n 0, 1) := by decide +kernel
theorem dX3_init_1 : decode cX3_init 1 = .ok (.invokespecial 3, 3) := by decide +kernel
theorem dX3_init_4 : decode cX3_init 4 = .ok (.aload_n 0, 1) := by decide +kernel
theorem dX3_init_5 : decode cX3_init 5 = .ok (.bipush 24, 2) := by decide +kernel
theorem dX3_init_7 : decode cX3_init 7 = .ok (.anewarray 9, 3) := by decide +kernel
theorem dX3_init_10 : decode cX3_init 10 = .ok (.putfield 11, 3) := by decide +kernel
theorem dX3_init_13 : decode cX3_init 13 = .ok (.iconst 0, 1) := by decide +kernel
theorem dX3_init_14 : decode cX3_init 14 = .ok (.istore_n 1, 1) := by decide +kernel
theorem dX3_init_15 : decode cX3_init 15 = .ok (.iload_n 1, 1) := by decide +kernel
theorem dX3_init_16 : decode cX3_init 16 = .ok (.aload_n 0, 1) := by decide +kernel
theorem dX3_init_17 : decode cX3_init 17 = .ok (.getfield 11, 3) := by decide +kernel
theorem dX3_init_20 : decode cX3_init 20 = .ok (.arraylength, 1) := by decide +kernel
theorem dX3_init_21 : decode cX3_init 21 = .ok (.if_icmp .ge 22, 3) := by decide +kernel
theorem dX3_init_24 : decode cX3_init 24 = .ok (.aload_n 0, 1) := by decide +kernel
theorem dX3_init_25 : decode cX3_init 25 = .ok (.getfield 11, 3) := by decide +kernel
theorem dX3_init_28 : decode cX3_init 28 = .ok (.iload_n 1, 1) := by decide +kernel
theorem dX3_init_29 : decode cX3_init 29 = .ok (.new 9, 3) := by decide +kernel
theorem dX3_init_32 : decode cX3_init 32 = .ok (.dup, 1) := by decide +kernel
theorem dX3_init_33 : decode cX3_init 33 = .ok (.invokespecial 17, 3) := by decide +kernel
theorem dX3_init_36 : decode cX3_init 36 = .ok (.aastore, 1) := by decide +kernel
theorem dX3_init_37 : decode cX3_init 37 = .ok (.iinc 1 1, 3) := by decide +kernel
theorem dX3_init_40 : decode cX3_init 40 = .ok (.goto (-25), 3) := by decide +kernel
theorem dX3_init_43 : decode cX3_init 43 = .ok (.return_, 1) := by decide +kernel
theorem dX3_acts_0 : decode cX3_acts 0 = .ok (.aload_n 0, 1) := by decide +kernel
theorem dX3_acts_1 : decode cX3_acts 1 = .ok (.getfield 18, 3) := by decide +kernel
theorem dX3_acts_4 : decode cX3_acts 4 = .ok (.ireturn, 1) := by decide +kernel
theorem dX3_forget_0 : decode cX3_forget 0 = .ok (.aload_n 0, 1) := by decide +kernel
theorem dX3_forget_1 : decode cX3_forget 1 = .ok (.iconst 0, 1) := by decide +kernel
theorem dX3_forget_2 : decode cX3_forget 2 = .ok (.putfield 18, 3) := by decide +kernel
theorem dX3_forget_5 : decode cX3_forget 5 = .ok (.return_, 1) := by decide +kernel
theorem dX3_keep_0 : decode cX3_keep 0 = .ok (.aload_n 0, 1) := by decide +kernel
theorem dX3_keep_1 : decode cX3_keep 1 = .ok (.aload_n 0, 1) := by decide +kernel
theorem dX3_keep_2 : decode cX3_keep 2 = .ok (.getfield 22, 3) := by decide +kernel
theorem dX3_keep_5 : decode cX3_keep 5 = .ok (.invokevirtual 25, 3) := by decide +kernel
theorem dX3_keep_8 : decode cX3_keep 8 = .ok (.astore_n 2, 1) := by decide +kernel
theorem dX3_keep_9 : decode cX3_keep 9 = .ok (.aload_n 2, 1) := by decide +kernel
theorem dX3_keep_10 : decode cX3_keep 10 = .ok (.ifnonnull 4, 3) := by decide +kernel
theorem dX3_keep_13 : decode cX3_keep 13 = .ok (.return_, 1) := by decide +kernel
theorem dX3_keep_14 : decode cX3_keep 14 = .ok (.aload_n 2, 1) := by decide +kernel
theorem dX3_keep_15 : decode cX3_keep 15 = .ok (.aload_n 1, 1) := by decide +kernel
theorem dX3_keep_16 : decode cX3_keep 16 = .ok (.invokevirtual 29, 3) := by decide +kernel
theorem dX3_keep_19 : decode cX3_keep 19 = .ok (.aload_n 0, 1) := by decide +kernel
theorem dX3_keep_20 : decode cX3_keep 20 = .ok (.aload_n 0, 1) := by decide +kernel
theorem dX3_keep_21 : decode cX3_keep 21 = .ok (.getfield 22, 3) := by decide +kernel
theorem dX3_keep_24 : decode cX3_keep 24 = .ok (.iconst 1, 1) := by decide +kernel
theorem dX3_keep_25 : decode cX3_keep 25 = .ok (.iadd, 1) := by decide +kernel
theorem dX3_keep_26 : decode cX3_keep 26 = .ok (.bipush 24, 2) := by decide +kernel
theorem dX3_keep_28 : decode cX3_keep 28 = .ok (.irem, 1) := by decide +kernel
theorem dX3_keep_29 : decode cX3_keep 29 = .ok (.putfield 22, 3) := by decide +kernel
theorem dX3_keep_32 : decode cX3_keep 32 = .ok (.aload_n 0, 1) := by decide +kernel
theorem dX3_keep_33 : decode cX3_keep 33 = .ok (.bipush 24, 2) := by decide +kernel
theorem dX3_keep_35 : decode cX3_keep 35 = .ok (.aload_n 0, 1) := by decide +kernel
theorem dX3_keep_36 : decode cX3_keep 36 = .ok (.getfield 18, 3) := by decide +kernel
theorem dX3_keep_39 : decode cX3_keep 39 = .ok (.iconst 1, 1) := by decide +kernel
theorem dX3_keep_40 : decode cX3_keep 40 = .ok (.iadd, 1) := by decide +kernel
theorem dX3_keep_41 : decode cX3_keep 41 = .ok (.invokestatic 33, 3) := by decide +kernel
theorem dX3_keep_44 : decode cX3_keep 44 = .ok (.putfield 18, 3) := by decide +kernel
theorem dX3_keep_47 : decode cX3_keep 47 = .ok (.return_, 1) := by decide +kernel
theorem dX3_takeBack_0 : decode cX3_takeBack 0 = .ok (.aload_n 0, 1) := by decide +kernel
theorem dX3_takeBack_1 : decode cX3_takeBack 1 = .ok (.getfield 22, 3) := by decide +kernel
theorem dX3_takeBack_4 : decode cX3_takeBack 4 = .ok (.bipush 24, 2) := by decide +kernel
theorem dX3_takeBack_6 : decode cX3_takeBack 6 = .ok (.iadd, 1) := by decide +kernel
theorem dX3_takeBack_7 : decode cX3_takeBack 7 = .ok (.iconst 1, 1) := by decide +kernel
theorem dX3_takeBack_8 : decode cX3_takeBack 8 = .ok (.isub, 1) := by decide +kernel
theorem dX3_takeBack_9 : decode cX3_takeBack 9 = .ok (.bipush 24, 2) := by decide +kernel
theorem dX3_takeBack_11 : decode cX3_takeBack 11 = .ok (.irem, 1) := by decide +kernel
theorem dX3_takeBack_12 : decode cX3_takeBack 12 = .ok (.istore_n 2, 1) := by decide +kernel
theorem dX3_takeBack_13 : decode cX3_takeBack 13 = .ok (.aload_n 0, 1) := by decide +kernel
theorem dX3_takeBack_14 : decode cX3_takeBack 14 = .ok (.iload_n 2, 1) := by decide +kernel
theorem dX3_takeBack_15 : decode cX3_takeBack 15 = .ok (.invokevirtual 25, 3) := by decide +kernel
theorem dX3_takeBack_18 : decode cX3_takeBack 18 = .ok (.astore_n 3, 1) := by decide +kernel
theorem dX3_takeBack_19 : decode cX3_takeBack 19 = .ok (.aload_n 0, 1) := by decide +kernel
theorem dX3_takeBack_20 : decode cX3_takeBack 20 = .ok (.getfield 18, 3) := by decide +kernel
theorem dX3_takeBack_23 : decode cX3_takeBack 23 = .ok (.iconst 1, 1) := by decide +kernel
theorem dX3_takeBack_24 : decode cX3_takeBack 24 = .ok (.if_icmp .lt 7, 3) := by decide +kernel
theorem dX3_takeBack_27 : decode cX3_takeBack 27 = .ok (.aload_n 3, 1) := by decide +kernel
theorem dX3_takeBack_28 : decode cX3_takeBack 28 = .ok (.ifnonnull 5, 3) := by decide +kernel
theorem dX3_takeBack_31 : decode cX3_takeBack 31 = .ok (.iconst 0, 1) := by decide +kernel
theorem dX3_takeBack_32 : decode cX3_takeBack 32 = .ok (.ireturn, 1) := by decide +kernel
theorem dX3_takeBack_33 : decode cX3_takeBack 33 = .ok (.aload_n 1, 1) := by decide +kernel
theorem dX3_takeBack_34 : decode cX3_takeBack 34 = .ok (.aload_n 3, 1) := by decide +kernel
theorem dX3_takeBack_35 : decode cX3_takeBack 35 = .ok (.invokevirtual 29, 3) := by decide +kernel
theorem dX3_takeBack_38 : decode cX3_takeBack 38 = .ok (.aload_n 0, 1) := by decide +kernel
theorem dX3_takeBack_39 : decode cX3_takeBack 39 = .ok (.iload_n 2, 1) := by decide +kernel
theorem dX3_takeBack_40 : decode cX3_takeBack 40 = .ok (.putfield 22, 3) := by decide +kernel
theorem dX3_takeBack_43 : decode cX3_takeBack 43 = .ok (.aload_n 0, 1) := by decide +kernel
theorem dX3_takeBack_44 : decode cX3_takeBack 44 = .ok (.dup, 1) := by decide +kernel
theorem dX3_takeBack_45 : decode cX3_takeBack 45 = .ok (.getfield 18, 3) := by decide +kernel
theorem dX3_takeBack_48 : decode cX3_takeBack 48 = .ok (.iconst 1, 1) := by decide +kernel
theorem dX3_takeBack_49 : decode cX3_takeBack 49 = .ok (.isub, 1) := by decide +kernel
theorem dX3_takeBack_50 : decode cX3_takeBack 50 = .ok (.putfield 18, 3) := by decide +kernel
theorem dX3_takeBack_53 : decode cX3_takeBack 53 = .ok (.iconst 1, 1) := by decide +kernel
theorem dX3_takeBack_54 : decode cX3_takeBack 54 = .ok (.ireturn, 1) := by decide +kernel
theorem dX3_at_0 : decode cX3_at 0 = .ok (.iload_n 1, 1) := by decide +kernel
theorem dX3_at_1 : decode cX3_at 1 = .ok (.ifCond .lt 12, 3) := by decide +kernel
theorem dX3_at_4 : decode cX3_at 4 = .ok (.iload_n 1, 1) := by decide +kernel
theorem dX3_at_5 : decode cX3_at 5 = .ok (.aload_n 0, 1) := by decide +kernel
theorem dX3_at_6 : decode cX3_at 6 = .ok (.getfield 11, 3) := by decide +kernel
theorem dX3_at_9 : decode cX3_at 9 = .ok (.arraylength, 1) := by decide +kernel
theorem dX3_at_10 : decode cX3_at 10 = .ok (.if_icmp .lt 7, 3) := by decide +kernel
theorem dX3_at_13 : decode cX3_at 13 = .ok (.aconst_null, 1) := by decide +kernel
theorem dX3_at_14 : decode cX3_at 14 = .ok (.goto 9, 3) := by decide +kernel
theorem dX3_at_17 : decode cX3_at 17 = .ok (.aload_n 0, 1) := by decide +kernel
theorem dX3_at_18 : decode cX3_at 18 = .ok (.getfield 11, 3) := by decide +kernel
theorem dX3_at_21 : decode cX3_at 21 = .ok (.iload_n 1, 1) := by decide +kernel
theorem dX3_at_22 : decode cX3_at 22 = .ok (.aaload, 1) := by decide +kernel
theorem dX3_at_23 : decode cX3_at 23 = .ok (.areturn, 1) := by decide +kernel
theorem dX4_init_0 : decode cX4_init 0 = .ok (.aload_n 0, 1) := by decide +kernel
theorem dX4_init_1 : decode cX4_init 1 = .ok (.invokespecial 3, 3) := by decide +kernel
theorem dX4_init_4 : decode cX4_init 4 = .ok (.aload_n 0, 1) := by decide +kernel
theorem dX4_init_5 : decode cX4_init 5 = .ok (.iconst 3, 1) := by decide +kernel
theorem dX4_init_6 : decode cX4_init 6 = .ok (.anewarray 9, 3) := by decide +kernel
theorem dX4_init_9 : decode cX4_init 9 = .ok (.dup, 1) := by decide +kernel
theorem dX4_init_10 : decode cX4_init 10 = .ok (.iconst 0, 1) := by decide +kernel
theorem dX4_init_11 : decode cX4_init 11 = .ok (.new 9, 3) := by decide +kernel
theorem dX4_init_14 : decode cX4_init 14 = .ok (.dup, 1) := by decide +kernel
theorem dX4_init_15 : decode cX4_init 15 = .ok (.invokespecial 11, 3) := by decide +kernel
theorem dX4_init_18 : decode cX4_init 18 = .ok (.aastore, 1) := by decide +kernel
theorem dX4_init_19 : decode cX4_init 19 = .ok (.dup, 1) := by decide +kernel
theorem dX4_init_20 : decode cX4_init 20 = .ok (.iconst 1, 1) := by decide +kernel
theorem dX4_init_21 : decode cX4_init 21 = .ok (.new 9, 3) := by decide +kernel
theorem dX4_init_24 : decode cX4_init 24 = .ok (.dup, 1) := by decide +kernel
theorem dX4_init_25 : decode cX4_init 25 = .ok (.invokespecial 11, 3) := by decide +kernel
theorem dX4_init_28 : decode cX4_init 28 = .ok (.aastore, 1) := by decide +kernel
theorem dX4_init_29 : decode cX4_init 29 = .ok (.dup, 1) := by decide +kernel
theorem dX4_init_30 : decode cX4_init 30 = .ok (.iconst 2, 1) := by decide +kernel
theorem dX4_init_31 : decode cX4_init 31 = .ok (.new 9, 3) := by decide +kernel
theorem dX4_init_34 : decode cX4_init 34 = .ok (.dup, 1) := by decide +kernel
theorem dX4_init_35 : decode cX4_init 35 = .ok (.invokespecial 11, 3) := by decide +kernel
theorem dX4_init_38 : decode cX4_init 38 = .ok (.aastore, 1) := by decide +kernel
theorem dX4_init_39 : decode cX4_init 39 = .ok (.putfield 12, 3) := by decide +kernel
theorem dX4_init_42 : decode cX4_init 42 = .ok (.aload_n 0, 1) := by decide +kernel
theorem dX4_init_43 : decode cX4_init 43 = .ok (.bipush 12, 2) := by decide +kernel
theorem dX4_init_45 : decode cX4_init 45 = .ok (.newarray .int, 2) := by decide +kernel
theorem dX4_init_47 : decode cX4_init 47 = .ok (.putfield 18, 3) := by decide +kernel
theorem dX4_init_50 : decode cX4_init 50 = .ok (.return_, 1) := by decide +kernel
theorem dX4_step_0 : decode cX4_step 0 = .ok (.iload_n 1, 1) := by decide +kernel
theorem dX4_step_1 : decode cX4_step 1 = .ok (.ifCond .lt 8, 3) := by decide +kernel
theorem dX4_step_4 : decode cX4_step 4 = .ok (.iload_n 1, 1) := by decide +kernel
theorem dX4_step_5 : decode cX4_step 5 = .ok (.iconst 3, 1) := by decide +kernel
theorem dX4_step_6 : decode cX4_step 6 = .ok (.if_icmp .lt 8, 3) := by decide +kernel
theorem dX4_step_9 : decode cX4_step 9 = .ok (.bipush (-4), 2) := by decide +kernel
theorem dX4_step_11 : decode cX4_step 11 = .ok (.goto 9, 3) := by decide +kernel
theorem dX4_step_14 : decode cX4_step 14 = .ok (.aload_n 0, 1) := by decide +kernel
theorem dX4_step_15 : decode cX4_step 15 = .ok (.getfield 18, 3) := by decide +kernel
theorem dX4_step_18 : decode cX4_step 18 = .ok (.iload_n 1, 1) := by decide +kernel
theorem dX4_step_19 : decode cX4_step 19 = .ok (.iaload, 1) := by decide +kernel
theorem dX4_step_20 : decode cX4_step 20 = .ok (.ireturn, 1) := by decide +kernel
theorem dX4_bestFrom_0 : decode cX4_bestFrom 0 = .ok (.iload_n 3, 1) := by decide +kernel
theorem dX4_bestFrom_1 : decode cX4_bestFrom 1 = .ok (.iconst 1, 1) := by decide +kernel
theorem dX4_bestFrom_2 : decode cX4_bestFrom 2 = .ok (.if_icmp .lt 12, 3) := by decide +kernel
theorem dX4_bestFrom_5 : decode cX4_bestFrom 5 = .ok (.iload_n 2, 1) := by decide +kernel
theorem dX4_bestFrom_6 : decode cX4_bestFrom 6 = .ok (.ifCond .lt 8, 3) := by decide +kernel
theorem dX4_bestFrom_9 : decode cX4_bestFrom 9 = .ok (.iload_n 2, 1) := by decide +kernel
theorem dX4_bestFrom_10 : decode cX4_bestFrom 10 = .ok (.iconst 3, 1) := by decide +kernel
theorem dX4_bestFrom_11 : decode cX4_bestFrom 11 = .ok (.if_icmp .lt 5, 3) := by decide +kernel
theorem dX4_bestFrom_14 : decode cX4_bestFrom 14 = .ok (.iconst 0, 1) := by decide +kernel
theorem dX4_bestFrom_15 : decode cX4_bestFrom 15 = .ok (.ireturn, 1) := by decide +kernel
theorem dX4_bestFrom_16 : decode cX4_bestFrom 16 = .ok (.iconst (-1), 1) := by decide +kernel
theorem dX4_bestFrom_17 : decode cX4_bestFrom 17 = .ok (.istore 4, 2) := by decide +kernel
theorem dX4_bestFrom_19 : decode cX4_bestFrom 19 = .ok (.iconst 0, 1) := by decide +kernel
theorem dX4_bestFrom_20 : decode cX4_bestFrom 20 = .ok (.istore 5, 2) := by decide +kernel
theorem dX4_bestFrom_22 : decode cX4_bestFrom 22 = .ok (.iload 5, 2) := by decide +kernel
theorem dX4_bestFrom_24 : decode cX4_bestFrom 24 = .ok (.bipush 99, 2) := by decide +kernel
theorem dX4_bestFrom_26 : decode cX4_bestFrom 26 = .ok (.if_icmp .gt 74, 3) := by decide +kernel
theorem dX4_bestFrom_29 : decode cX4_bestFrom 29 = .ok (.iload 4, 2) := by decide +kernel
theorem dX4_bestFrom_31 : decode cX4_bestFrom 31 = .ok (.iload_n 3, 1) := by decide +kernel
theorem dX4_bestFrom_32 : decode cX4_bestFrom 32 = .ok (.if_icmp .ge 68, 3) := by decide +kernel
theorem dX4_bestFrom_35 : decode cX4_bestFrom 35 = .ok (.aload_n 1, 1) := by decide +kernel
theorem dX4_bestFrom_36 : decode cX4_bestFrom 36 = .ok (.iload 5, 2) := by decide +kernel
theorem dX4_bestFrom_38 : decode cX4_bestFrom 38 = .ok (.invokestatic 22, 3) := by decide +kernel
theorem dX4_bestFrom_41 : decode cX4_bestFrom 41 = .ok (.istore 6, 2) := by decide +kernel
theorem dX4_bestFrom_43 : decode cX4_bestFrom 43 = .ok (.iload 6, 2) := by decide +kernel
theorem dX4_bestFrom_45 : decode cX4_bestFrom 45 = .ok (.ifCond .lt 49, 3) := by decide +kernel
theorem dX4_bestFrom_48 : decode cX4_bestFrom 48 = .ok (.iload 6, 2) := by decide +kernel
theorem dX4_bestFrom_50 : decode cX4_bestFrom 50 = .ok (.iload_n 3, 1) := by decide +kernel
theorem dX4_bestFrom_51 : decode cX4_bestFrom 51 = .ok (.iadd, 1) := by decide +kernel
theorem dX4_bestFrom_52 : decode cX4_bestFrom 52 = .ok (.iconst 1, 1) := by decide +kernel
theorem dX4_bestFrom_53 : decode cX4_bestFrom 53 = .ok (.isub, 1) := by decide +kernel
theorem dX4_bestFrom_54 : decode cX4_bestFrom 54 = .ok (.iload 4, 2) := by decide +kernel
theorem dX4_bestFrom_56 : decode cX4_bestFrom 56 = .ok (.if_icmp .gt 6, 3) := by decide +kernel
theorem dX4_bestFrom_59 : decode cX4_bestFrom 59 = .ok (.goto 35, 3) := by decide +kernel
theorem dX4_bestFrom_62 : decode cX4_bestFrom 62 = .ok (.iload 6, 2) := by decide +kernel
theorem dX4_bestFrom_64 : decode cX4_bestFrom 64 = .ok (.aload_n 0, 1) := by decide +kernel
theorem dX4_bestFrom_65 : decode cX4_bestFrom 65 = .ok (.aload_n 1, 1) := by decide +kernel
theorem dX4_bestFrom_66 : decode cX4_bestFrom 66 = .ok (.iload 5, 2) := by decide +kernel
theorem dX4_bestFrom_68 : decode cX4_bestFrom 68 = .ok (.iload_n 2, 1) := by decide +kernel
theorem dX4_bestFrom_69 : decode cX4_bestFrom 69 = .ok (.iload_n 3, 1) := by decide +kernel
theorem dX4_bestFrom_70 : decode cX4_bestFrom 70 = .ok (.invokevirtual 26, 3) := by decide +kernel
theorem dX4_bestFrom_73 : decode cX4_bestFrom 73 = .ok (.iadd, 1) := by decide +kernel
theorem dX4_bestFrom_74 : decode cX4_bestFrom 74 = .ok (.istore 7, 2) := by decide +kernel
theorem dX4_bestFrom_76 : decode cX4_bestFrom 76 = .ok (.iload 7, 2) := by decide +kernel
theorem dX4_bestFrom_78 : decode cX4_bestFrom 78 = .ok (.iload 4, 2) := by decide +kernel
theorem dX4_bestFrom_80 : decode cX4_bestFrom 80 = .ok (.if_icmp .le 14, 3) := by decide +kernel
theorem dX4_bestFrom_83 : decode cX4_bestFrom 83 = .ok (.iload 7, 2) := by decide +kernel
theorem dX4_bestFrom_85 : decode cX4_bestFrom 85 = .ok (.istore 4, 2) := by decide +kernel
theorem dX4_bestFrom_87 : decode cX4_bestFrom 87 = .ok (.aload_n 0, 1) := by decide +kernel
theorem dX4_bestFrom_88 : decode cX4_bestFrom 88 = .ok (.iload_n 2, 1) := by decide +kernel
theorem dX4_bestFrom_89 : decode cX4_bestFrom 89 = .ok (.iload 5, 2) := by decide +kernel
theorem dX4_bestFrom_91 : decode cX4_bestFrom 91 = .ok (.invokevirtual 30, 3) := by decide +kernel
theorem dX4_bestFrom_94 : decode cX4_bestFrom 94 = .ok (.iinc 5 1, 3) := by decide +kernel
theorem dX4_bestFrom_97 : decode cX4_bestFrom 97 = .ok (.goto (-75), 3) := by decide +kernel
theorem dX4_bestFrom_100 : decode cX4_bestFrom 100 = .ok (.iload 4, 2) := by decide +kernel
theorem dX4_bestFrom_102 : decode cX4_bestFrom 102 = .ok (.ireturn, 1) := by decide +kernel
theorem dX4_bestBehind_0 : decode cX4_bestBehind 0 = .ok (.iload_n 3, 1) := by decide +kernel
theorem dX4_bestBehind_1 : decode cX4_bestBehind 1 = .ok (.ifCond .lt 12, 3) := by decide +kernel
theorem dX4_bestBehind_4 : decode cX4_bestBehind 4 = .ok (.iload_n 3, 1) := by decide +kernel
theorem dX4_bestBehind_5 : decode cX4_bestBehind 5 = .ok (.aload_n 0, 1) := by decide +kernel
theorem dX4_bestBehind_6 : decode cX4_bestBehind 6 = .ok (.getfield 12, 3) := by decide +kernel
theorem dX4_bestBehind_9 : decode cX4_bestBehind 9 = .ok (.arraylength, 1) := by decide +kernel
theorem dX4_bestBehind_10 : decode cX4_bestBehind 10 = .ok (.if_icmp .lt 7, 3) := by decide +kernel
theorem dX4_bestBehind_13 : decode cX4_bestBehind 13 = .ok (.aconst_null, 1) := by decide +kernel
theorem dX4_bestBehind_14 : decode cX4_bestBehind 14 = .ok (.goto 9, 3) := by decide +kernel
theorem dX4_bestBehind_17 : decode cX4_bestBehind 17 = .ok (.aload_n 0, 1) := by decide +kernel
theorem dX4_bestBehind_18 : decode cX4_bestBehind 18 = .ok (.getfield 12, 3) := by decide +kernel
theorem dX4_bestBehind_21 : decode cX4_bestBehind 21 = .ok (.iload_n 3, 1) := by decide +kernel
theorem dX4_bestBehind_22 : decode cX4_bestBehind 22 = .ok (.aaload, 1) := by decide +kernel
theorem dX4_bestBehind_23 : decode cX4_bestBehind 23 = .ok (.astore 5, 2) := by decide +kernel
theorem dX4_bestBehind_25 : decode cX4_bestBehind 25 = .ok (.iload 4, 2) := by decide +kernel
theorem dX4_bestBehind_27 : decode cX4_bestBehind 27 = .ok (.iconst 1, 1) := by decide +kernel
theorem dX4_bestBehind_28 : decode cX4_bestBehind 28 = .ok (.if_icmp .le 8, 3) := by decide +kernel
theorem dX4_bestBehind_31 : decode cX4_bestBehind 31 = .ok (.aload 5, 2) := by decide +kernel
theorem dX4_bestBehind_33 : decode cX4_bestBehind 33 = .ok (.ifnonnull 5, 3) := by decide +kernel
theorem dX4_bestBehind_36 : decode cX4_bestBehind 36 = .ok (.iconst 0, 1) := by decide +kernel
theorem dX4_bestBehind_37 : decode cX4_bestBehind 37 = .ok (.ireturn, 1) := by decide +kernel
theorem dX4_bestBehind_38 : decode cX4_bestBehind 38 = .ok (.aload 5, 2) := by decide +kernel
theorem dX4_bestBehind_40 : decode cX4_bestBehind 40 = .ok (.aload_n 1, 1) := by decide +kernel
theorem dX4_bestBehind_41 : decode cX4_bestBehind 41 = .ok (.invokevirtual 34, 3) := by decide +kernel
theorem dX4_bestBehind_44 : decode cX4_bestBehind 44 = .ok (.iload_n 2, 1) := by decide +kernel
theorem dX4_bestBehind_45 : decode cX4_bestBehind 45 = .ok (.bipush 99, 2) := by decide +kernel
theorem dX4_bestBehind_47 : decode cX4_bestBehind 47 = .ok (.if_icmp .ne 11, 3) := by decide +kernel
theorem dX4_bestBehind_50 : decode cX4_bestBehind 50 = .ok (.aload 5, 2) := by decide +kernel
theorem dX4_bestBehind_52 : decode cX4_bestBehind 52 = .ok (.invokevirtual 38, 3) := by decide +kernel
theorem dX4_bestBehind_55 : decode cX4_bestBehind 55 = .ok (.goto 17, 3) := by decide +kernel
theorem dX4_bestBehind_58 : decode cX4_bestBehind 58 = .ok (.aload 5, 2) := by decide +kernel
theorem dX4_bestBehind_60 : decode cX4_bestBehind 60 = .ok (.iload_n 2, 1) := by decide +kernel
theorem dX4_bestBehind_61 : decode cX4_bestBehind 61 = .ok (.bipush 10, 2) := by decide +kernel
theorem dX4_bestBehind_63 : decode cX4_bestBehind 63 = .ok (.idiv, 1) := by decide +kernel
theorem dX4_bestBehind_64 : decode cX4_bestBehind 64 = .ok (.iload_n 2, 1) := by decide +kernel
theorem dX4_bestBehind_65 : decode cX4_bestBehind 65 = .ok (.bipush 10, 2) := by decide +kernel
theorem dX4_bestBehind_67 : decode cX4_bestBehind 67 = .ok (.irem, 1) := by decide +kernel
theorem dX4_bestBehind_68 : decode cX4_bestBehind 68 = .ok (.invokevirtual 41, 3) := by decide +kernel
theorem dX4_bestBehind_71 : decode cX4_bestBehind 71 = .ok (.pop, 1) := by decide +kernel
theorem dX4_bestBehind_72 : decode cX4_bestBehind 72 = .ok (.aload_n 0, 1) := by decide +kernel
theorem dX4_bestBehind_73 : decode cX4_bestBehind 73 = .ok (.aload 5, 2) := by decide +kernel
theorem dX4_bestBehind_75 : decode cX4_bestBehind 75 = .ok (.iload_n 3, 1) := by decide +kernel
theorem dX4_bestBehind_76 : decode cX4_bestBehind 76 = .ok (.iconst 1, 1) := by decide +kernel
theorem dX4_bestBehind_77 : decode cX4_bestBehind 77 = .ok (.iadd, 1) := by decide +kernel
theorem dX4_bestBehind_78 : decode cX4_bestBehind 78 = .ok (.iload 4, 2) := by decide +kernel
theorem dX4_bestBehind_80 : decode cX4_bestBehind 80 = .ok (.iconst 1, 1) := by decide +kernel
theorem dX4_bestBehind_81 : decode cX4_bestBehind 81 = .ok (.isub, 1) := by decide +kernel
theorem dX4_bestBehind_82 : decode cX4_bestBehind 82 = .ok (.invokevirtual 45, 3) := by decide +kernel
theorem dX4_bestBehind_85 : decode cX4_bestBehind 85 = .ok (.ireturn, 1) := by decide +kernel
theorem dX4_gainOf_0 : decode cX4_gainOf 0 = .ok (.iload_n 1, 1) := by decide +kernel
theorem dX4_gainOf_1 : decode cX4_gainOf 1 = .ok (.bipush 99, 2) := by decide +kernel
theorem dX4_gainOf_3 : decode cX4_gainOf 3 = .ok (.if_icmp .ne 5, 3) := by decide +kernel
theorem dX4_gainOf_6 : decode cX4_gainOf 6 = .ok (.iconst 0, 1) := by decide +kernel
theorem dX4_gainOf_7 : decode cX4_gainOf 7 = .ok (.ireturn, 1) := by decide +kernel
theorem dX4_gainOf_8 : decode cX4_gainOf 8 = .ok (.aload_n 0, 1) := by decide +kernel
theorem dX4_gainOf_9 : decode cX4_gainOf 9 = .ok (.iload_n 1, 1) := by decide +kernel
theorem dX4_gainOf_10 : decode cX4_gainOf 10 = .ok (.bipush 10, 2) := by decide +kernel
theorem dX4_gainOf_12 : decode cX4_gainOf 12 = .ok (.idiv, 1) := by decide +kernel
theorem dX4_gainOf_13 : decode cX4_gainOf 13 = .ok (.iload_n 1, 1) := by decide +kernel
theorem dX4_gainOf_14 : decode cX4_gainOf 14 = .ok (.bipush 10, 2) := by decide +kernel
theorem dX4_gainOf_16 : decode cX4_gainOf 16 = .ok (.irem, 1) := by decide +kernel
theorem dX4_gainOf_17 : decode cX4_gainOf 17 = .ok (.invokevirtual 49, 3) := by decide +kernel
theorem dX4_gainOf_20 : decode cX4_gainOf 20 = .ok (.ifCond .ne 5, 3) := by decide +kernel
theorem dX4_gainOf_23 : decode cX4_gainOf 23 = .ok (.iconst (-1), 1) := by decide +kernel
theorem dX4_gainOf_24 : decode cX4_gainOf 24 = .ok (.ireturn, 1) := by decide +kernel
theorem dX4_gainOf_25 : decode cX4_gainOf 25 = .ok (.aload_n 0, 1) := by decide +kernel
theorem dX4_gainOf_26 : decode cX4_gainOf 26 = .ok (.iload_n 1, 1) := by decide +kernel
theorem dX4_gainOf_27 : decode cX4_gainOf 27 = .ok (.bipush 10, 2) := by decide +kernel
theorem dX4_gainOf_29 : decode cX4_gainOf 29 = .ok (.idiv, 1) := by decide +kernel
theorem dX4_gainOf_30 : decode cX4_gainOf 30 = .ok (.iload_n 1, 1) := by decide +kernel
theorem dX4_gainOf_31 : decode cX4_gainOf 31 = .ok (.bipush 10, 2) := by decide +kernel
theorem dX4_gainOf_33 : decode cX4_gainOf 33 = .ok (.irem, 1) := by decide +kernel
theorem dX4_gainOf_34 : decode cX4_gainOf 34 = .ok (.invokevirtual 53, 3) := by decide +kernel
theorem dX4_gainOf_37 : decode cX4_gainOf 37 = .ok (.ifCond .le 7, 3) := by decide +kernel
theorem dX4_gainOf_40 : decode cX4_gainOf 40 = .ok (.iconst 1, 1) := by decide +kernel
theorem dX4_gainOf_41 : decode cX4_gainOf 41 = .ok (.goto 4, 3) := by decide +kernel
theorem dX4_gainOf_44 : decode cX4_gainOf 44 = .ok (.iconst 0, 1) := by decide +kernel
theorem dX4_gainOf_45 : decode cX4_gainOf 45 = .ok (.ireturn, 1) := by decide +kernel
theorem dX4_keep_0 : decode cX4_keep 0 = .ok (.iload_n 1, 1) := by decide +kernel
theorem dX4_keep_1 : decode cX4_keep 1 = .ok (.iconst 3, 1) := by decide +kernel
theorem dX4_keep_2 : decode cX4_keep 2 = .ok (.imul, 1) := by decide +kernel
theorem dX4_keep_3 : decode cX4_keep 3 = .ok (.istore_n 3, 1) := by decide +kernel
theorem dX4_keep_4 : decode cX4_keep 4 = .ok (.iload_n 3, 1) := by decide +kernel
theorem dX4_keep_5 : decode cX4_keep 5 = .ok (.iconst 3, 1) := by decide +kernel
theorem dX4_keep_6 : decode cX4_keep 6 = .ok (.iadd, 1) := by decide +kernel
theorem dX4_keep_7 : decode cX4_keep 7 = .ok (.istore 4, 2) := by decide +kernel
theorem dX4_keep_9 : decode cX4_keep 9 = .ok (.iload_n 3, 1) := by decide +kernel
theorem dX4_keep_10 : decode cX4_keep 10 = .ok (.ifCond .lt 15, 3) := by decide +kernel
theorem dX4_keep_13 : decode cX4_keep 13 = .ok (.iload 4, 2) := by decide +kernel
theorem dX4_keep_15 : decode cX4_keep 15 = .ok (.iconst 3, 1) := by decide +kernel
theorem dX4_keep_16 : decode cX4_keep 16 = .ok (.iadd, 1) := by decide +kernel
theorem dX4_keep_17 : decode cX4_keep 17 = .ok (.aload_n 0, 1) := by decide +kernel
theorem dX4_keep_18 : decode cX4_keep 18 = .ok (.getfield 18, 3) := by decide +kernel
theorem dX4_keep_21 : decode cX4_keep 21 = .ok (.arraylength, 1) := by decide +kernel
theorem dX4_keep_22 : decode cX4_keep 22 = .ok (.if_icmp .le 4, 3) := by decide +kernel
theorem dX4_keep_25 : decode cX4_keep 25 = .ok (.return_, 1) := by decide +kernel
theorem dX4_keep_26 : decode cX4_keep 26 = .ok (.aload_n 0, 1) := by decide +kernel
theorem dX4_keep_27 : decode cX4_keep 27 = .ok (.getfield 18, 3) := by decide +kernel
theorem dX4_keep_30 : decode cX4_keep 30 = .ok (.iload_n 3, 1) := by decide +kernel
theorem dX4_keep_31 : decode cX4_keep 31 = .ok (.iload_n 2, 1) := by decide +kernel
theorem dX4_keep_32 : decode cX4_keep 32 = .ok (.iastore, 1) := by decide +kernel
theorem dX4_keep_33 : decode cX4_keep 33 = .ok (.aload_n 0, 1) := by decide +kernel
theorem dX4_keep_34 : decode cX4_keep 34 = .ok (.getfield 18, 3) := by decide +kernel
theorem dX4_keep_37 : decode cX4_keep 37 = .ok (.iload 4, 2) := by decide +kernel
theorem dX4_keep_39 : decode cX4_keep 39 = .ok (.aload_n 0, 1) := by decide +kernel
theorem dX4_keep_40 : decode cX4_keep 40 = .ok (.getfield 18, 3) := by decide +kernel
theorem dX4_keep_43 : decode cX4_keep 43 = .ok (.iload_n 3, 1) := by decide +kernel
theorem dX4_keep_44 : decode cX4_keep 44 = .ok (.iconst 1, 1) := by decide +kernel
theorem dX4_keep_45 : decode cX4_keep 45 = .ok (.iadd, 1) := by decide +kernel
theorem dX4_keep_46 : decode cX4_keep 46 = .ok (.iconst 2, 1) := by decide +kernel
theorem dX4_keep_47 : decode cX4_keep 47 = .ok (.invokestatic 56, 3) := by decide +kernel
theorem dX4_keep_50 : decode cX4_keep 50 = .ok (.return_, 1) := by decide +kernel
theorem dX5_init_0 : decode cX5_init 0 = .ok (.aload_n 0, 1) := by decide +kernel
theorem dX5_init_1 : decode cX5_init 1 = .ok (.invokespecial 3, 3) := by decide +kernel
theorem dX5_init_4 : decode cX5_init 4 = .ok (.aload_n 0, 1) := by decide +kernel
theorem dX5_init_5 : decode cX5_init 5 = .ok (.bipush 24, 2) := by decide +kernel
theorem dX5_init_7 : decode cX5_init 7 = .ok (.newarray .long, 2) := by decide +kernel
theorem dX5_init_9 : decode cX5_init 9 = .ok (.putfield 9, 3) := by decide +kernel
theorem dX5_init_12 : decode cX5_init 12 = .ok (.aload_n 0, 1) := by decide +kernel
theorem dX5_init_13 : decode cX5_init 13 = .ok (.iconst (-1), 1) := by decide +kernel
theorem dX5_init_14 : decode cX5_init 14 = .ok (.putfield 15, 3) := by decide +kernel
theorem dX5_init_17 : decode cX5_init 17 = .ok (.return_, 1) := by decide +kernel
theorem dX5_isNothing_0 : decode cX5_isNothing 0 = .ok (.aload_n 0, 1) := by decide +kernel
theorem dX5_isNothing_1 : decode cX5_isNothing 1 = .ok (.getfield 15, 3) := by decide +kernel
theorem dX5_isNothing_4 : decode cX5_isNothing 4 = .ok (.iconst (-1), 1) := by decide +kernel
theorem dX5_isNothing_5 : decode cX5_isNothing 5 = .ok (.if_icmp .ne 7, 3) := by decide +kernel
theorem dX5_isNothing_8 : decode cX5_isNothing 8 = .ok (.iconst 1, 1) := by decide +kernel
theorem dX5_isNothing_9 : decode cX5_isNothing 9 = .ok (.goto 4, 3) := by decide +kernel
theorem dX5_isNothing_12 : decode cX5_isNothing 12 = .ok (.iconst 0, 1) := by decide +kernel
theorem dX5_isNothing_13 : decode cX5_isNothing 13 = .ok (.ireturn, 1) := by decide +kernel
theorem dX5_lane_0 : decode cX5_lane 0 = .ok (.aload_n 0, 1) := by decide +kernel
theorem dX5_lane_1 : decode cX5_lane 1 = .ok (.getfield 15, 3) := by decide +kernel
theorem dX5_lane_4 : decode cX5_lane 4 = .ok (.ireturn, 1) := by decide +kernel
theorem dX5_lay_0 : decode cX5_lay 0 = .ok (.aload_n 0, 1) := by decide +kernel
theorem dX5_lay_1 : decode cX5_lay 1 = .ok (.getfield 9, 3) := by decide +kernel
theorem dX5_lay_4 : decode cX5_lay 4 = .ok (.lconst 0, 1) := by decide +kernel
theorem dX5_lay_5 : decode cX5_lay 5 = .ok (.invokestatic 19, 3) := by decide +kernel
theorem dX5_lay_8 : decode cX5_lay 8 = .ok (.aload_n 0, 1) := by decide +kernel
theorem dX5_lay_9 : decode cX5_lay 9 = .ok (.iload_n 1, 1) := by decide +kernel
theorem dX5_lay_10 : decode cX5_lay 10 = .ok (.putfield 15, 3) := by decide +kernel
theorem dX5_lay_13 : decode cX5_lay 13 = .ok (.aload_n 0, 1) := by decide +kernel
theorem dX5_lay_14 : decode cX5_lay 14 = .ok (.iload_n 2, 1) := by decide +kernel
theorem dX5_lay_15 : decode cX5_lay 15 = .ok (.putfield 25, 3) := by decide +kernel
theorem dX5_lay_18 : decode cX5_lay 18 = .ok (.return_, 1) := by decide +kernel
theorem dX5_clear_0 : decode cX5_clear 0 = .ok (.aload_n 0, 1) := by decide +kernel
theorem dX5_clear_1 : decode cX5_clear 1 = .ok (.getfield 25, 3) := by decide +kernel
theorem dX5_clear_4 : decode cX5_clear 4 = .ok (.istore_n 1, 1) := by decide +kernel
theorem dX5_clear_5 : decode cX5_clear 5 = .ok (.aload_n 0, 1) := by decide +kernel
theorem dX5_clear_6 : decode cX5_clear 6 = .ok (.iconst (-1), 1) := by decide +kernel
theorem dX5_clear_7 : decode cX5_clear 7 = .ok (.iconst 0, 1) := by decide +kernel
theorem dX5_clear_8 : decode cX5_clear 8 = .ok (.invokevirtual 28, 3) := by decide +kernel
theorem dX5_clear_11 : decode cX5_clear 11 = .ok (.iload_n 1, 1) := by decide +kernel
theorem dX5_clear_12 : decode cX5_clear 12 = .ok (.ireturn, 1) := by decide +kernel
theorem dX5_holds_0 : decode cX5_holds 0 = .ok (.iload_n 1, 1) := by decide +kernel
theorem dX5_holds_1 : decode cX5_holds 1 = .ok (.ifCond .lt 29, 3) := by decide +kernel
theorem dX5_holds_4 : decode cX5_holds 4 = .ok (.iload_n 2, 1) := by decide +kernel
theorem dX5_holds_5 : decode cX5_holds 5 = .ok (.ifCond .lt 25, 3) := by decide +kernel
theorem dX5_holds_8 : decode cX5_holds 8 = .ok (.iload_n 2, 1) := by decide +kernel
theorem dX5_holds_9 : decode cX5_holds 9 = .ok (.aload_n 0, 1) := by decide +kernel
theorem dX5_holds_10 : decode cX5_holds 10 = .ok (.getfield 25, 3) := by decide +kernel
theorem dX5_holds_13 : decode cX5_holds 13 = .ok (.if_icmp .gt 17, 3) := by decide +kernel
theorem dX5_holds_16 : decode cX5_holds 16 = .ok (.iload_n 1, 1) := by decide +kernel
theorem dX5_holds_17 : decode cX5_holds 17 = .ok (.aload_n 0, 1) := by decide +kernel
theorem dX5_holds_18 : decode cX5_holds 18 = .ok (.getfield 25, 3) := by decide +kernel
theorem dX5_holds_21 : decode cX5_holds 21 = .ok (.iload_n 2, 1) := by decide +kernel
theorem dX5_holds_22 : decode cX5_holds 22 = .ok (.isub, 1) := by decide +kernel
theorem dX5_holds_23 : decode cX5_holds 23 = .ok (.if_icmp .gt 7, 3) := by decide +kernel
theorem dX5_holds_26 : decode cX5_holds 26 = .ok (.iconst 1, 1) := by decide +kernel
theorem dX5_holds_27 : decode cX5_holds 27 = .ok (.goto 4, 3) := by decide +kernel
theorem dX5_holds_30 : decode cX5_holds 30 = .ok (.iconst 0, 1) := by decide +kernel
theorem dX5_holds_31 : decode cX5_holds 31 = .ok (.ireturn, 1) := by decide +kernel
theorem dX5_get_0 : decode cX5_get 0 = .ok (.iload_n 1, 1) := by decide +kernel
theorem dX5_get_1 : decode cX5_get 1 = .ok (.ifCond .lt 12, 3) := by decide +kernel
theorem dX5_get_4 : decode cX5_get 4 = .ok (.iload_n 1, 1) := by decide +kernel
theorem dX5_get_5 : decode cX5_get 5 = .ok (.aload_n 0, 1) := by decide +kernel
theorem dX5_get_6 : decode cX5_get 6 = .ok (.getfield 9, 3) := by decide +kernel
theorem dX5_get_9 : decode cX5_get 9 = .ok (.arraylength, 1) := by decide +kernel
theorem dX5_get_10 : decode cX5_get 10 = .ok (.if_icmp .lt 7, 3) := by decide +kernel
theorem dX5_get_13 : decode cX5_get 13 = .ok (.lconst 0, 1) := by decide +kernel
theorem dX5_get_14 : decode cX5_get 14 = .ok (.goto 9, 3) := by decide +kernel
theorem dX5_get_17 : decode cX5_get 17 = .ok (.aload_n 0, 1) := by decide +kernel
theorem dX5_get_18 : decode cX5_get 18 = .ok (.getfield 9, 3) := by decide +kernel
theorem dX5_get_21 : decode cX5_get 21 = .ok (.iload_n 1, 1) := by decide +kernel
theorem dX5_get_22 : decode cX5_get 22 = .ok (.laload, 1) := by decide +kernel
theorem dX5_get_23 : decode cX5_get 23 = .ok (.lreturn, 1) := by decide +kernel
theorem dX5_put_0 : decode cX5_put 0 = .ok (.iload_n 1, 1) := by decide +kernel
theorem dX5_put_1 : decode cX5_put 1 = .ok (.ifCond .lt 23, 3) := by decide +kernel
theorem dX5_put_4 : decode cX5_put 4 = .ok (.iload_n 1, 1) := by decide +kernel
theorem dX5_put_5 : decode cX5_put 5 = .ok (.aload_n 0, 1) := by decide +kernel
theorem dX5_put_6 : decode cX5_put 6 = .ok (.getfield 9, 3) := by decide +kernel
theorem dX5_put_9 : decode cX5_put 9 = .ok (.arraylength, 1) := by decide +kernel
theorem dX5_put_10 : decode cX5_put 10 = .ok (.if_icmp .ge 14, 3) := by decide +kernel
theorem dX5_put_13 : decode cX5_put 13 = .ok (.aload_n 0, 1) := by decide +kernel
theorem dX5_put_14 : decode cX5_put 14 = .ok (.getfield 9, 3) := by decide +kernel
theorem dX5_put_17 : decode cX5_put 17 = .ok (.iload_n 1, 1) := by decide +kernel
theorem dX5_put_18 : decode cX5_put 18 = .ok (.aload_n 0, 1) := by decide +kernel
theorem dX5_put_19 : decode cX5_put 19 = .ok (.lload_n 2, 1) := by decide +kernel
theorem dX5_put_20 : decode cX5_put 20 = .ok (.invokevirtual 32, 3) := by decide +kernel
theorem dX5_put_23 : decode cX5_put 23 = .ok (.lastore, 1) := by decide +kernel
theorem dX5_put_24 : decode cX5_put 24 = .ok (.return_, 1) := by decide +kernel
theorem dX5_take_0 : decode cX5_take 0 = .ok (.aload_n 1, 1) := by decide +kernel
theorem dX5_take_1 : decode cX5_take 1 = .ok (.iload_n 2, 1) := by decide +kernel
theorem dX5_take_2 : decode cX5_take 2 = .ok (.iload 4, 2) := by decide +kernel
theorem dX5_take_4 : decode cX5_take 4 = .ok (.invokevirtual 36, 3) := by decide +kernel
theorem dX5_take_7 : decode cX5_take 7 = .ok (.ifCond .eq 28, 3) := by decide +kernel
theorem dX5_take_10 : decode cX5_take 10 = .ok (.aload_n 0, 1) := by decide +kernel
theorem dX5_take_11 : decode cX5_take 11 = .ok (.iload_n 3, 1) := by decide +kernel
theorem dX5_take_12 : decode cX5_take 12 = .ok (.iload 4, 2) := by decide +kernel
theorem dX5_take_14 : decode cX5_take 14 = .ok (.invokevirtual 36, 3) := by decide +kernel
theorem dX5_take_17 : decode cX5_take 17 = .ok (.ifCond .eq 18, 3) := by decide +kernel
theorem dX5_take_20 : decode cX5_take 20 = .ok (.aload_n 1, 1) := by decide +kernel
theorem dX5_take_21 : decode cX5_take 21 = .ok (.getfield 9, 3) := by decide +kernel
theorem dX5_take_24 : decode cX5_take 24 = .ok (.iload_n 2, 1) := by decide +kernel
theorem dX5_take_25 : decode cX5_take 25 = .ok (.aload_n 0, 1) := by decide +kernel
theorem dX5_take_26 : decode cX5_take 26 = .ok (.getfield 9, 3) := by decide +kernel
theorem dX5_take_29 : decode cX5_take 29 = .ok (.iload_n 3, 1) := by decide +kernel
theorem dX5_take_30 : decode cX5_take 30 = .ok (.iload 4, 2) := by decide +kernel
theorem dX5_take_32 : decode cX5_take 32 = .ok (.invokestatic 40, 3) := by decide +kernel
theorem dX5_take_35 : decode cX5_take 35 = .ok (.return_, 1) := by decide +kernel
theorem dX5_lowestBits_0 : decode cX5_lowestBits 0 = .ok (.aload_n 0, 1) := by decide +kernel
theorem dX5_lowestBits_1 : decode cX5_lowestBits 1 = .ok (.getfield 15, 3) := by decide +kernel
theorem dX5_lowestBits_4 : decode cX5_lowestBits 4 = .ok (.tableswitch 42 0 2 #[28, 33, 38], 28) := by decide +kernel
theorem dX5_lowestBits_32 : decode cX5_lowestBits 32 = .ok (.lload_n 1, 1) := by decide +kernel
theorem dX5_lowestBits_33 : decode cX5_lowestBits 33 = .ok (.l2i, 1) := by decide +kernel
theorem dX5_lowestBits_34 : decode cX5_lowestBits 34 = .ok (.i2b, 1) := by decide +kernel
theorem dX5_lowestBits_35 : decode cX5_lowestBits 35 = .ok (.i2l, 1) := by decide +kernel
theorem dX5_lowestBits_36 : decode cX5_lowestBits 36 = .ok (.lreturn, 1) := by decide +kernel
theorem dX5_lowestBits_37 : decode cX5_lowestBits 37 = .ok (.lload_n 1, 1) := by decide +kernel
theorem dX5_lowestBits_38 : decode cX5_lowestBits 38 = .ok (.l2i, 1) := by decide +kernel
theorem dX5_lowestBits_39 : decode cX5_lowestBits 39 = .ok (.i2s, 1) := by decide +kernel
theorem dX5_lowestBits_40 : decode cX5_lowestBits 40 = .ok (.i2l, 1) := by decide +kernel
theorem dX5_lowestBits_41 : decode cX5_lowestBits 41 = .ok (.lreturn, 1) := by decide +kernel
theorem dX5_lowestBits_42 : decode cX5_lowestBits 42 = .ok (.lload_n 1, 1) := by decide +kernel
theorem dX5_lowestBits_43 : decode cX5_lowestBits 43 = .ok (.l2i, 1) := by decide +kernel
theorem dX5_lowestBits_44 : decode cX5_lowestBits 44 = .ok (.i2l, 1) := by decide +kernel
theorem dX5_lowestBits_45 : decode cX5_lowestBits 45 = .ok (.lreturn, 1) := by decide +kernel
theorem dX5_lowestBits_46 : decode cX5_lowestBits 46 = .ok (.lload_n 1, 1) := by decide +kernel
theorem dX5_lowestBits_47 : decode cX5_lowestBits 47 = .ok (.lreturn, 1) := by decide +kernel
theorem dX6_init_0 : decode cX6_init 0 = .ok (.aload_n 0, 1) := by decide +kernel
theorem dX6_init_1 : decode cX6_init 1 = .ok (.invokespecial 3, 3) := by decide +kernel
theorem dX6_init_4 : decode cX6_init 4 = .ok (.aload_n 0, 1) := by decide +kernel
theorem dX6_init_5 : decode cX6_init 5 = .ok (.sipush 130, 3) := by decide +kernel
theorem dX6_init_8 : decode cX6_init 8 = .ok (.newarray .int, 2) := by decide +kernel
theorem dX6_init_10 : decode cX6_init 10 = .ok (.putfield 9, 3) := by decide +kernel
theorem dX6_init_13 : decode cX6_init 13 = .ok (.return_, 1) := by decide +kernel
theorem dX6_length_0 : decode cX6_length 0 = .ok (.aload_n 0, 1) := by decide +kernel
theorem dX6_length_1 : decode cX6_length 1 = .ok (.getfield 15, 3) := by decide +kernel
theorem dX6_length_4 : decode cX6_length 4 = .ok (.ireturn, 1) := by decide +kernel
theorem dX6_add_0 : decode cX6_add 0 = .ok (.aload_n 0, 1) := by decide +kernel
theorem dX6_add_1 : decode cX6_add 1 = .ok (.getfield 15, 3) := by decide +kernel
theorem dX6_add_4 : decode cX6_add 4 = .ok (.ifCond .lt 15, 3) := by decide +kernel
theorem dX6_add_7 : decode cX6_add 7 = .ok (.aload_n 0, 1) := by decide +kernel
theorem dX6_add_8 : decode cX6_add 8 = .ok (.getfield 15, 3) := by decide +kernel
theorem dX6_add_11 : decode cX6_add 11 = .ok (.aload_n 0, 1) := by decide +kernel
theorem dX6_add_12 : decode cX6_add 12 = .ok (.getfield 9, 3) := by decide +kernel
theorem dX6_add_15 : decode cX6_add 15 = .ok (.arraylength, 1) := by decide +kernel
theorem dX6_add_16 : decode cX6_add 16 = .ok (.if_icmp .lt 5, 3) := by decide +kernel
theorem dX6_add_19 : decode cX6_add 19 = .ok (.iconst 0, 1) := by decide +kernel
theorem dX6_add_20 : decode cX6_add 20 = .ok (.ireturn, 1) := by decide +kernel
theorem dX6_add_21 : decode cX6_add 21 = .ok (.aload_n 0, 1) := by decide +kernel
theorem dX6_add_22 : decode cX6_add 22 = .ok (.getfield 9, 3) := by decide +kernel
theorem dX6_add_25 : decode cX6_add 25 = .ok (.aload_n 0, 1) := by decide +kernel
theorem dX6_add_26 : decode cX6_add 26 = .ok (.getfield 15, 3) := by decide +kernel
theorem dX6_add_29 : decode cX6_add 29 = .ok (.iload_n 1, 1) := by decide +kernel
theorem dX6_add_30 : decode cX6_add 30 = .ok (.iastore, 1) := by decide +kernel
theorem dX6_add_31 : decode cX6_add 31 = .ok (.aload_n 0, 1) := by decide +kernel
theorem dX6_add_32 : decode cX6_add 32 = .ok (.dup, 1) := by decide +kernel
theorem dX6_add_33 : decode cX6_add 33 = .ok (.getfield 15, 3) := by decide +kernel
theorem dX6_add_36 : decode cX6_add 36 = .ok (.iconst 1, 1) := by decide +kernel
theorem dX6_add_37 : decode cX6_add 37 = .ok (.iadd, 1) := by decide +kernel
theorem dX6_add_38 : decode cX6_add 38 = .ok (.putfield 15, 3) := by decide +kernel
theorem dX6_add_41 : decode cX6_add 41 = .ok (.iconst 1, 1) := by decide +kernel
theorem dX6_add_42 : decode cX6_add 42 = .ok (.ireturn, 1) := by decide +kernel
theorem dX6_clear_0 : decode cX6_clear 0 = .ok (.aload_n 0, 1) := by decide +kernel
theorem dX6_clear_1 : decode cX6_clear 1 = .ok (.iconst 0, 1) := by decide +kernel
theorem dX6_clear_2 : decode cX6_clear 2 = .ok (.putfield 15, 3) := by decide +kernel
theorem dX6_clear_5 : decode cX6_clear 5 = .ok (.return_, 1) := by decide +kernel
theorem dX6_readInto_0 : decode cX6_readInto 0 = .ok (.aload_n 0, 1) := by decide +kernel
theorem dX6_readInto_1 : decode cX6_readInto 1 = .ok (.iconst 0, 1) := by decide +kernel
theorem dX6_readInto_2 : decode cX6_readInto 2 = .ok (.putfield 19, 3) := by decide +kernel
theorem dX6_readInto_5 : decode cX6_readInto 5 = .ok (.aload_n 1, 1) := by decide +kernel
theorem dX6_readInto_6 : decode cX6_readInto 6 = .ok (.invokevirtual 22, 3) := by decide +kernel
theorem dX6_readInto_9 : decode cX6_readInto 9 = .ok (.aload_n 0, 1) := by decide +kernel
theorem dX6_readInto_10 : decode cX6_readInto 10 = .ok (.bipush 114, 2) := by decide +kernel
theorem dX6_readInto_12 : decode cX6_readInto 12 = .ok (.invokevirtual 27, 3) := by decide +kernel
theorem dX6_readInto_15 : decode cX6_readInto 15 = .ok (.ifCond .eq 60, 3) := by decide +kernel
theorem dX6_readInto_18 : decode cX6_readInto 18 = .ok (.aload_n 0, 1) := by decide +kernel
theorem dX6_readInto_19 : decode cX6_readInto 19 = .ok (.aload_n 1, 1) := by decide +kernel
theorem dX6_readInto_20 : decode cX6_readInto 20 = .ok (.invokevirtual 31, 3) := by decide +kernel
theorem dX6_readInto_23 : decode cX6_readInto 23 = .ok (.ifCond .eq 52, 3) := by decide +kernel
theorem dX6_readInto_26 : decode cX6_readInto 26 = .ok (.aload_n 0, 1) := by decide +kernel
theorem dX6_readInto_27 : decode cX6_readInto 27 = .ok (.bipush 59, 2) := by decide +kernel
theorem dX6_readInto_29 : decode cX6_readInto 29 = .ok (.invokevirtual 27, 3) := by decide +kernel
theorem dX6_readInto_32 : decode cX6_readInto 32 = .ok (.ifCond .eq 43, 3) := by decide +kernel
theorem dX6_readInto_35 : decode cX6_readInto 35 = .ok (.aload_n 0, 1) := by decide +kernel
theorem dX6_readInto_36 : decode cX6_readInto 36 = .ok (.aload_n 1, 1) := by decide +kernel
theorem dX6_readInto_37 : decode cX6_readInto 37 = .ok (.invokevirtual 35, 3) := by decide +kernel
theorem dX6_readInto_40 : decode cX6_readInto 40 = .ok (.ifCond .eq 35, 3) := by decide +kernel
theorem dX6_readInto_43 : decode cX6_readInto 43 = .ok (.aload_n 0, 1) := by decide +kernel
theorem dX6_readInto_44 : decode cX6_readInto 44 = .ok (.bipush 59, 2) := by decide +kernel
theorem dX6_readInto_46 : decode cX6_readInto 46 = .ok (.invokevirtual 27, 3) := by decide +kernel
theorem dX6_readInto_49 : decode cX6_readInto 49 = .ok (.ifCond .eq 26, 3) := by decide +kernel
theorem dX6_readInto_52 : decode cX6_readInto 52 = .ok (.aload_n 0, 1) := by decide +kernel
theorem dX6_readInto_53 : decode cX6_readInto 53 = .ok (.aload_n 1, 1) := by decide +kernel
theorem dX6_readInto_54 : decode cX6_readInto 54 = .ok (.invokevirtual 38, 3) := by decide +kernel
theorem dX6_readInto_57 : decode cX6_readInto 57 = .ok (.ifCond .eq 18, 3) := by decide +kernel
theorem dX6_readInto_60 : decode cX6_readInto 60 = .ok (.aload_n 0, 1) := by decide +kernel
theorem dX6_readInto_61 : decode cX6_readInto 61 = .ok (.getfield 19, 3) := by decide +kernel
theorem dX6_readInto_64 : decode cX6_readInto 64 = .ok (.aload_n 0, 1) := by decide +kernel
theorem dX6_readInto_65 : decode cX6_readInto 65 = .ok (.getfield 15, 3) := by decide +kernel
theorem dX6_readInto_68 : decode cX6_readInto 68 = .ok (.if_icmp .ne 7, 3) := by decide +kernel
theorem dX6_readInto_71 : decode cX6_readInto 71 = .ok (.iconst 1, 1) := by decide +kernel
theorem dX6_readInto_72 : decode cX6_readInto 72 = .ok (.goto 4, 3) := by decide +kernel
theorem dX6_readInto_75 : decode cX6_readInto 75 = .ok (.iconst 0, 1) := by decide +kernel
theorem dX6_readInto_76 : decode cX6_readInto 76 = .ok (.istore_n 2, 1) := by decide +kernel
theorem dX6_readInto_77 : decode cX6_readInto 77 = .ok (.iload_n 2, 1) := by decide +kernel
theorem dX6_readInto_78 : decode cX6_readInto 78 = .ok (.ifCond .eq 7, 3) := by decide +kernel
theorem dX6_readInto_81 : decode cX6_readInto 81 = .ok (.iconst (-1), 1) := by decide +kernel
theorem dX6_readInto_82 : decode cX6_readInto 82 = .ok (.goto 7, 3) := by decide +kernel
theorem dX6_readInto_85 : decode cX6_readInto 85 = .ok (.aload_n 0, 1) := by decide +kernel
theorem dX6_readInto_86 : decode cX6_readInto 86 = .ok (.getfield 19, 3) := by decide +kernel
theorem dX6_readInto_89 : decode cX6_readInto 89 = .ok (.ireturn, 1) := by decide +kernel
theorem dX6_peek_0 : decode cX6_peek 0 = .ok (.aload_n 0, 1) := by decide +kernel
theorem dX6_peek_1 : decode cX6_peek 1 = .ok (.getfield 19, 3) := by decide +kernel
theorem dX6_peek_4 : decode cX6_peek 4 = .ok (.ifCond .lt 38, 3) := by decide +kernel
theorem dX6_peek_7 : decode cX6_peek 7 = .ok (.aload_n 0, 1) := by decide +kernel
theorem dX6_peek_8 : decode cX6_peek 8 = .ok (.getfield 19, 3) := by decide +kernel
theorem dX6_peek_11 : decode cX6_peek 11 = .ok (.aload_n 0, 1) := by decide +kernel
theorem dX6_peek_12 : decode cX6_peek 12 = .ok (.getfield 15, 3) := by decide +kernel
theorem dX6_peek_15 : decode cX6_peek 15 = .ok (.if_icmp .ge 27, 3) := by decide +kernel
theorem dX6_peek_18 : decode cX6_peek 18 = .ok (.aload_n 0, 1) := by decide +kernel
theorem dX6_peek_19 : decode cX6_peek 19 = .ok (.getfield 19, 3) := by decide +kernel
theorem dX6_peek_22 : decode cX6_peek 22 = .ok (.aload_n 0, 1) := by decide +kernel
theorem dX6_peek_23 : decode cX6_peek 23 = .ok (.getfield 9, 3) := by decide +kernel
theorem dX6_peek_26 : decode cX6_peek 26 = .ok (.arraylength, 1) := by decide +kernel
theorem dX6_peek_27 : decode cX6_peek 27 = .ok (.if_icmp .ge 15, 3) := by decide +kernel
theorem dX6_peek_30 : decode cX6_peek 30 = .ok (.aload_n 0, 1) := by decide +kernel
theorem dX6_peek_31 : decode cX6_peek 31 = .ok (.getfield 9, 3) := by decide +kernel
theorem dX6_peek_34 : decode cX6_peek 34 = .ok (.aload_n 0, 1) := by decide +kernel
theorem dX6_peek_35 : decode cX6_peek 35 = .ok (.getfield 19, 3) := by decide +kernel
theorem dX6_peek_38 : decode cX6_peek 38 = .ok (.iaload, 1) := by decide +kernel
theorem dX6_peek_39 : decode cX6_peek 39 = .ok (.goto 4, 3) := by decide +kernel
theorem dX6_peek_42 : decode cX6_peek 42 = .ok (.iconst (-1), 1) := by decide +kernel
theorem dX6_peek_43 : decode cX6_peek 43 = .ok (.ireturn, 1) := by decide +kernel
theorem dX6_takeSign_0 : decode cX6_takeSign 0 = .ok (.aload_n 0, 1) := by decide +kernel
theorem dX6_takeSign_1 : decode cX6_takeSign 1 = .ok (.invokevirtual 41, 3) := by decide +kernel
theorem dX6_takeSign_4 : decode cX6_takeSign 4 = .ok (.iload_n 1, 1) := by decide +kernel
theorem dX6_takeSign_5 : decode cX6_takeSign 5 = .ok (.if_icmp .eq 5, 3) := by decide +kernel
theorem dX6_takeSign_8 : decode cX6_takeSign 8 = .ok (.iconst 0, 1) := by decide +kernel
theorem dX6_takeSign_9 : decode cX6_takeSign 9 = .ok (.ireturn, 1) := by decide +kernel
theorem dX6_takeSign_10 : decode cX6_takeSign 10 = .ok (.aload_n 0, 1) := by decide +kernel
theorem dX6_takeSign_11 : decode cX6_takeSign 11 = .ok (.dup, 1) := by decide +kernel
theorem dX6_takeSign_12 : decode cX6_takeSign 12 = .ok (.getfield 19, 3) := by decide +kernel
theorem dX6_takeSign_15 : decode cX6_takeSign 15 = .ok (.iconst 1, 1) := by decide +kernel
theorem dX6_takeSign_16 : decode cX6_takeSign 16 = .ok (.iadd, 1) := by decide +kernel
theorem dX6_takeSign_17 : decode cX6_takeSign 17 = .ok (.putfield 19, 3) := by decide +kernel
theorem dX6_takeSign_20 : decode cX6_takeSign 20 = .ok (.iconst 1, 1) := by decide +kernel
theorem dX6_takeSign_21 : decode cX6_takeSign 21 = .ok (.ireturn, 1) := by decide +kernel
theorem dX6_takeFigure_0 : decode cX6_takeFigure 0 = .ok (.aload_n 0, 1) := by decide +kernel
theorem dX6_takeFigure_1 : decode cX6_takeFigure 1 = .ok (.invokevirtual 41, 3) := by decide +kernel
theorem dX6_takeFigure_4 : decode cX6_takeFigure 4 = .ok (.bipush 48, 2) := by decide +kernel
theorem dX6_takeFigure_6 : decode cX6_takeFigure 6 = .ok (.isub, 1) := by decide +kernel
theorem dX6_takeFigure_7 : decode cX6_takeFigure 7 = .ok (.istore_n 3, 1) := by decide +kernel
theorem dX6_takeFigure_8 : decode cX6_takeFigure 8 = .ok (.iload_n 3, 1) := by decide +kernel
theorem dX6_takeFigure_9 : decode cX6_takeFigure 9 = .ok (.iload_n 1, 1) := by decide +kernel
theorem dX6_takeFigure_10 : decode cX6_takeFigure 10 = .ok (.if_icmp .lt 8, 3) := by decide +kernel
theorem dX6_takeFigure_13 : decode cX6_takeFigure 13 = .ok (.iload_n 3, 1) := by decide +kernel
theorem dX6_takeFigure_14 : decode cX6_takeFigure 14 = .ok (.iload_n 2, 1) := by decide +kernel
theorem dX6_takeFigure_15 : decode cX6_takeFigure 15 = .ok (.if_icmp .le 5, 3) := by decide +kernel
theorem dX6_takeFigure_18 : decode cX6_takeFigure 18 = .ok (.iconst (-1), 1) := by decide +kernel
theorem dX6_takeFigure_19 : decode cX6_takeFigure 19 = .ok (.ireturn, 1) := by decide +kernel
theorem dX6_takeFigure_20 : decode cX6_takeFigure 20 = .ok (.aload_n 0, 1) := by decide +kernel
theorem dX6_takeFigure_21 : decode cX6_takeFigure 21 = .ok (.dup, 1) := by decide +kernel
theorem dX6_takeFigure_22 : decode cX6_takeFigure 22 = .ok (.getfield 19, 3) := by decide +kernel
theorem dX6_takeFigure_25 : decode cX6_takeFigure 25 = .ok (.iconst 1, 1) := by decide +kernel
theorem dX6_takeFigure_26 : decode cX6_takeFigure 26 = .ok (.iadd, 1) := by decide +kernel
theorem dX6_takeFigure_27 : decode cX6_takeFigure 27 = .ok (.putfield 19, 3) := by decide +kernel
theorem dX6_takeFigure_30 : decode cX6_takeFigure 30 = .ok (.iload_n 3, 1) := by decide +kernel
theorem dX6_takeFigure_31 : decode cX6_takeFigure 31 = .ok (.ireturn, 1) := by decide +kernel
theorem dX6_takeOther_0 : decode cX6_takeOther 0 = .ok (.aload_n 0, 1) := by decide +kernel
theorem dX6_takeOther_1 : decode cX6_takeOther 1 = .ok (.invokevirtual 41, 3) := by decide +kernel
theorem dX6_takeOther_4 : decode cX6_takeOther 4 = .ok (.bipush 48, 2) := by decide +kernel
theorem dX6_takeOther_6 : decode cX6_takeOther 6 = .ok (.isub, 1) := by decide +kernel
theorem dX6_takeOther_7 : decode cX6_takeOther 7 = .ok (.iload_n 1, 1) := by decide +kernel
theorem dX6_takeOther_8 : decode cX6_takeOther 8 = .ok (.if_icmp .ne 7, 3) := by decide +kernel
theorem dX6_takeOther_11 : decode cX6_takeOther 11 = .ok (.iconst (-1), 1) := by decide +kernel
theorem dX6_takeOther_12 : decode cX6_takeOther 12 = .ok (.goto 11, 3) := by decide +kernel
theorem dX6_takeOther_15 : decode cX6_takeOther 15 = .ok (.aload_n 0, 1) := by decide +kernel
theorem dX6_takeOther_16 : decode cX6_takeOther 16 = .ok (.iconst 0, 1) := by decide +kernel
theorem dX6_takeOther_17 : decode cX6_takeOther 17 = .ok (.iload_n 2, 1) := by decide +kernel
theorem dX6_takeOther_18 : decode cX6_takeOther 18 = .ok (.iconst 1, 1) := by decide +kernel
theorem dX6_takeOther_19 : decode cX6_takeOther 19 = .ok (.isub, 1) := by decide +kernel
theorem dX6_takeOther_20 : decode cX6_takeOther 20 = .ok (.invokevirtual 45, 3) := by decide +kernel
theorem dX6_takeOther_23 : decode cX6_takeOther 23 = .ok (.ireturn, 1) := by decide +kernel
theorem dX6_takePeople_0 : decode cX6_takePeople 0 = .ok (.aload_n 0, 1) := by decide +kernel
theorem dX6_takePeople_1 : decode cX6_takePeople 1 = .ok (.iconst 2, 1) := by decide +kernel
theorem dX6_takePeople_2 : decode cX6_takePeople 2 = .ok (.bipush 6, 2) := by decide +kernel
theorem dX6_takePeople_4 : decode cX6_takePeople 4 = .ok (.invokevirtual 45, 3) := by decide +kernel
theorem dX6_takePeople_7 : decode cX6_takePeople 7 = .ok (.istore_n 2, 1) := by decide +kernel
theorem dX6_takePeople_8 : decode cX6_takePeople 8 = .ok (.iload_n 2, 1) := by decide +kernel
theorem dX6_takePeople_9 : decode cX6_takePeople 9 = .ok (.iconst (-1), 1) := by decide +kernel
theorem dX6_takePeople_10 : decode cX6_takePeople 10 = .ok (.if_icmp .ne 5, 3) := by decide +kernel
theorem dX6_takePeople_13 : decode cX6_takePeople 13 = .ok (.iconst 0, 1) := by decide +kernel
theorem dX6_takePeople_14 : decode cX6_takePeople 14 = .ok (.ireturn, 1) := by decide +kernel
theorem dX6_takePeople_15 : decode cX6_takePeople 15 = .ok (.iconst 0, 1) := by decide +kernel
theorem dX6_takePeople_16 : decode cX6_takePeople 16 = .ok (.istore_n 3, 1) := by decide +kernel
theorem dX6_takePeople_17 : decode cX6_takePeople 17 = .ok (.iload_n 3, 1) := by decide +kernel
theorem dX6_takePeople_18 : decode cX6_takePeople 18 = .ok (.iload_n 2, 1) := by decide +kernel
theorem dX6_takePeople_19 : decode cX6_takePeople 19 = .ok (.if_icmp .ge 34, 3) := by decide +kernel
theorem dX6_takePeople_22 : decode cX6_takePeople 22 = .ok (.iload_n 3, 1) := by decide +kernel
theorem dX6_takePeople_23 : decode cX6_takePeople 23 = .ok (.ifCond .le 12, 3) := by decide +kernel
theorem dX6_takePeople_26 : decode cX6_takePeople 26 = .ok (.aload_n 0, 1) := by decide +kernel
theorem dX6_takePeople_27 : decode cX6_takePeople 27 = .ok (.bipush 44, 2) := by decide +kernel
theorem dX6_takePeople_29 : decode cX6_takePeople 29 = .ok (.invokevirtual 27, 3) := by decide +kernel
theorem dX6_takePeople_32 : decode cX6_takePeople 32 = .ok (.ifCond .eq 13, 3) := by decide +kernel
theorem dX6_takePeople_35 : decode cX6_takePeople 35 = .ok (.aload_n 0, 1) := by decide +kernel
theorem dX6_takePeople_36 : decode cX6_takePeople 36 = .ok (.aload_n 1, 1) := by decide +kernel
theorem dX6_takePeople_37 : decode cX6_takePeople 37 = .ok (.iload_n 3, 1) := by decide +kernel
theorem dX6_takePeople_38 : decode cX6_takePeople 38 = .ok (.iload_n 2, 1) := by decide +kernel
theorem dX6_takePeople_39 : decode cX6_takePeople 39 = .ok (.invokevirtual 49, 3) := by decide +kernel
theorem dX6_takePeople_42 : decode cX6_takePeople 42 = .ok (.ifCond .ne 5, 3) := by decide +kernel
theorem dX6_takePeople_45 : decode cX6_takePeople 45 = .ok (.iconst 0, 1) := by decide +kernel
theorem dX6_takePeople_46 : decode cX6_takePeople 46 = .ok (.ireturn, 1) := by decide +kernel
theorem dX6_takePeople_47 : decode cX6_takePeople 47 = .ok (.iinc 3 1, 3) := by decide +kernel
theorem dX6_takePeople_50 : decode cX6_takePeople 50 = .ok (.goto (-33), 3) := by decide +kernel
theorem dX6_takePeople_53 : decode cX6_takePeople 53 = .ok (.iconst 1, 1) := by decide +kernel
theorem dX6_takePeople_54 : decode cX6_takePeople 54 = .ok (.ireturn, 1) := by decide +kernel
theorem dX6_takePerson_0 : decode cX6_takePerson 0 = .ok (.aload_n 0, 1) := by decide +kernel
theorem dX6_takePerson_1 : decode cX6_takePerson 1 = .ok (.invokevirtual 53, 3) := by decide +kernel
theorem dX6_takePerson_4 : decode cX6_takePerson 4 = .ok (.istore 4, 2) := by decide +kernel
theorem dX6_takePerson_6 : decode cX6_takePerson 6 = .ok (.iload 4, 2) := by decide +kernel
theorem dX6_takePerson_8 : decode cX6_takePerson 8 = .ok (.iconst (-1), 1) := by decide +kernel
theorem dX6_takePerson_9 : decode cX6_takePerson 9 = .ok (.if_icmp .ne 5, 3) := by decide +kernel
theorem dX6_takePerson_12 : decode cX6_takePerson 12 = .ok (.iconst 0, 1) := by decide +kernel
theorem dX6_takePerson_13 : decode cX6_takePerson 13 = .ok (.ireturn, 1) := by decide +kernel
theorem dX6_takePerson_14 : decode cX6_takePerson 14 = .ok (.aload_n 0, 1) := by decide +kernel
theorem dX6_takePerson_15 : decode cX6_takePerson 15 = .ok (.iconst 0, 1) := by decide +kernel
theorem dX6_takePerson_16 : decode cX6_takePerson 16 = .ok (.bipush 9, 2) := by decide +kernel
theorem dX6_takePerson_18 : decode cX6_takePerson 18 = .ok (.invokevirtual 45, 3) := by decide +kernel
theorem dX6_takePerson_21 : decode cX6_takePerson 21 = .ok (.istore 5, 2) := by decide +kernel
theorem dX6_takePerson_23 : decode cX6_takePerson 23 = .ok (.iload 5, 2) := by decide +kernel
theorem dX6_takePerson_25 : decode cX6_takePerson 25 = .ok (.iconst (-1), 1) := by decide +kernel
theorem dX6_takePerson_26 : decode cX6_takePerson 26 = .ok (.if_icmp .ne 5, 3) := by decide +kernel
theorem dX6_takePerson_29 : decode cX6_takePerson 29 = .ok (.iconst 0, 1) := by decide +kernel
theorem dX6_takePerson_30 : decode cX6_takePerson 30 = .ok (.ireturn, 1) := by decide +kernel
theorem dX6_takePerson_31 : decode cX6_takePerson 31 = .ok (.aload_n 0, 1) := by decide +kernel
theorem dX6_takePerson_32 : decode cX6_takePerson 32 = .ok (.iconst 0, 1) := by decide +kernel
theorem dX6_takePerson_33 : decode cX6_takePerson 33 = .ok (.bipush 9, 2) := by decide +kernel
theorem dX6_takePerson_35 : decode cX6_takePerson 35 = .ok (.invokevirtual 45, 3) := by decide +kernel
theorem dX6_takePerson_38 : decode cX6_takePerson 38 = .ok (.istore 6, 2) := by decide +kernel
theorem dX6_takePerson_40 : decode cX6_takePerson 40 = .ok (.iload 6, 2) := by decide +kernel
theorem dX6_takePerson_42 : decode cX6_takePerson 42 = .ok (.iconst (-1), 1) := by decide +kernel
theorem dX6_takePerson_43 : decode cX6_takePerson 43 = .ok (.if_icmp .ne 5, 3) := by decide +kernel
theorem dX6_takePerson_46 : decode cX6_takePerson 46 = .ok (.iconst 0, 1) := by decide +kernel
theorem dX6_takePerson_47 : decode cX6_takePerson 47 = .ok (.ireturn, 1) := by decide +kernel
theorem dX6_takePerson_48 : decode cX6_takePerson 48 = .ok (.aload_n 0, 1) := by decide +kernel
theorem dX6_takePerson_49 : decode cX6_takePerson 49 = .ok (.iconst 0, 1) := by decide +kernel
theorem dX6_takePerson_50 : decode cX6_takePerson 50 = .ok (.bipush 9, 2) := by decide +kernel
theorem dX6_takePerson_52 : decode cX6_takePerson 52 = .ok (.invokevirtual 45, 3) := by decide +kernel
theorem dX6_takePerson_55 : decode cX6_takePerson 55 = .ok (.istore 7, 2) := by decide +kernel
theorem dX6_takePerson_57 : decode cX6_takePerson 57 = .ok (.iload 7, 2) := by decide +kernel
theorem dX6_takePerson_59 : decode cX6_takePerson 59 = .ok (.iconst (-1), 1) := by decide +kernel
theorem dX6_takePerson_60 : decode cX6_takePerson 60 = .ok (.if_icmp .ne 5, 3) := by decide +kernel
theorem dX6_takePerson_63 : decode cX6_takePerson 63 = .ok (.iconst 0, 1) := by decide +kernel
theorem dX6_takePerson_64 : decode cX6_takePerson 64 = .ok (.ireturn, 1) := by decide +kernel
theorem dX6_takePerson_65 : decode cX6_takePerson 65 = .ok (.aload_n 0, 1) := by decide +kernel
theorem dX6_takePerson_66 : decode cX6_takePerson 66 = .ok (.bipush 45, 2) := by decide +kernel
theorem dX6_takePerson_68 : decode cX6_takePerson 68 = .ok (.invokevirtual 27, 3) := by decide +kernel
theorem dX6_takePerson_71 : decode cX6_takePerson 71 = .ok (.ifCond .eq 8, 3) := by decide +kernel
theorem dX6_takePerson_74 : decode cX6_takePerson 74 = .ok (.bipush (-4), 2) := by decide +kernel
theorem dX6_takePerson_76 : decode cX6_takePerson 76 = .ok (.goto 9, 3) := by decide +kernel
theorem dX6_takePerson_79 : decode cX6_takePerson 79 = .ok (.aload_n 0, 1) := by decide +kernel
theorem dX6_takePerson_80 : decode cX6_takePerson 80 = .ok (.iload_n 2, 1) := by decide +kernel
theorem dX6_takePerson_81 : decode cX6_takePerson 81 = .ok (.iload_n 3, 1) := by decide +kernel
theorem dX6_takePerson_82 : decode cX6_takePerson 82 = .ok (.invokevirtual 56, 3) := by decide +kernel
theorem dX6_takePerson_85 : decode cX6_takePerson 85 = .ok (.istore 8, 2) := by decide +kernel
theorem dX6_takePerson_87 : decode cX6_takePerson 87 = .ok (.iload 8, 2) := by decide +kernel
theorem dX6_takePerson_89 : decode cX6_takePerson 89 = .ok (.iconst (-1), 1) := by decide +kernel
theorem dX6_takePerson_90 : decode cX6_takePerson 90 = .ok (.if_icmp .ne 5, 3) := by decide +kernel
theorem dX6_takePerson_93 : decode cX6_takePerson 93 = .ok (.iconst 0, 1) := by decide +kernel
theorem dX6_takePerson_94 : decode cX6_takePerson 94 = .ok (.ireturn, 1) := by decide +kernel
theorem dX6_takePerson_95 : decode cX6_takePerson 95 = .ok (.aload_n 1, 1) := by decide +kernel
theorem dX6_takePerson_96 : decode cX6_takePerson 96 = .ok (.iload 4, 2) := by decide +kernel
theorem dX6_takePerson_98 : decode cX6_takePerson 98 = .ok (.iload 5, 2) := by decide +kernel
theorem dX6_takePerson_100 : decode cX6_takePerson 100 = .ok (.iload 6, 2) := by decide +kernel
theorem dX6_takePerson_102 : decode cX6_takePerson 102 = .ok (.iload 7, 2) := by decide +kernel
theorem dX6_takePerson_104 : decode cX6_takePerson 104 = .ok (.iload 8, 2) := by decide +kernel
theorem dX6_takePerson_106 : decode cX6_takePerson 106 = .ok (.invokevirtual 59, 3) := by decide +kernel
theorem dX6_takePerson_109 : decode cX6_takePerson 109 = .ok (.iconst 1, 1) := by decide +kernel
theorem dX6_takePerson_110 : decode cX6_takePerson 110 = .ok (.ireturn, 1) := by decide +kernel
theorem dX6_takeKind_0 : decode cX6_takeKind 0 = .ok (.aload_n 0, 1) := by decide +kernel
theorem dX6_takeKind_1 : decode cX6_takeKind 1 = .ok (.invokevirtual 41, 3) := by decide +kernel
theorem dX6_takeKind_4 : decode cX6_takeKind 4 = .ok (.invokestatic 63, 3) := by decide +kernel
theorem dX6_takeKind_7 : decode cX6_takeKind 7 = .ok (.istore_n 1, 1) := by decide +kernel
theorem dX6_takeKind_8 : decode cX6_takeKind 8 = .ok (.iload_n 1, 1) := by decide +kernel
theorem dX6_takeKind_9 : decode cX6_takeKind 9 = .ok (.iconst (-1), 1) := by decide +kernel
theorem dX6_takeKind_10 : decode cX6_takeKind 10 = .ok (.if_icmp .eq 13, 3) := by decide +kernel
theorem dX6_takeKind_13 : decode cX6_takeKind 13 = .ok (.aload_n 0, 1) := by decide +kernel
theorem dX6_takeKind_14 : decode cX6_takeKind 14 = .ok (.dup, 1) := by decide +kernel
theorem dX6_takeKind_15 : decode cX6_takeKind 15 = .ok (.getfield 19, 3) := by decide +kernel
theorem dX6_takeKind_18 : decode cX6_takeKind 18 = .ok (.iconst 1, 1) := by decide +kernel
theorem dX6_takeKind_19 : decode cX6_takeKind 19 = .ok (.iadd, 1) := by decide +kernel
theorem dX6_takeKind_20 : decode cX6_takeKind 20 = .ok (.putfield 19, 3) := by decide +kernel
theorem dX6_takeKind_23 : decode cX6_takeKind 23 = .ok (.iload_n 1, 1) := by decide +kernel
theorem dX6_takeKind_24 : decode cX6_takeKind 24 = .ok (.ireturn, 1) := by decide +kernel
theorem dX6_kindOf_0 : decode cX6_kindOf 0 = .ok (.iload_n 0, 1) := by decide +kernel
theorem dX6_kindOf_1 : decode cX6_kindOf 1 = .ok (.lookupswitch 61 #[(97, 53), (98, 57), (99, 51), (102, 55), (114, 59)], 51) := by decide +kernel
theorem dX6_kindOf_52 : decode cX6_kindOf 52 = .ok (.iconst 1, 1) := by decide +kernel
theorem dX6_kindOf_53 : decode cX6_kindOf 53 = .ok (.ireturn, 1) := by decide +kernel
theorem dX6_kindOf_54 : decode cX6_kindOf 54 = .ok (.iconst 2, 1) := by decide +kernel
theorem dX6_kindOf_55 : decode cX6_kindOf 55 = .ok (.ireturn, 1) := by decide +kernel
theorem dX6_kindOf_56 : decode cX6_kindOf 56 = .ok (.iconst 3, 1) := by decide +kernel
theorem dX6_kindOf_57 : decode cX6_kindOf 57 = .ok (.ireturn, 1) := by decide +kernel
theorem dX6_kindOf_58 : decode cX6_kindOf 58 = .ok (.iconst 4, 1) := by decide +kernel
theorem dX6_kindOf_59 : decode cX6_kindOf 59 = .ok (.ireturn, 1) := by decide +kernel
theorem dX6_kindOf_60 : decode cX6_kindOf 60 = .ok (.iconst 5, 1) := by decide +kernel
theorem dX6_kindOf_61 : decode cX6_kindOf 61 = .ok (.ireturn, 1) := by decide +kernel
theorem dX6_kindOf_62 : decode cX6_kindOf 62 = .ok (.iconst (-1), 1) := by decide +kernel
theorem dX6_kindOf_63 : decode cX6_kindOf 63 = .ok (.ireturn, 1) := by decide +kernel
theorem dX6_takeWrongs_0 : decode cX6_takeWrongs 0 = .ok (.aload_n 0, 1) := by decide +kernel
theorem dX6_takeWrongs_1 : decode cX6_takeWrongs 1 = .ok (.aload_n 1, 1) := by decide +kernel
theorem dX6_takeWrongs_2 : decode cX6_takeWrongs 2 = .ok (.invokevirtual 67, 3) := by decide +kernel
theorem dX6_takeWrongs_5 : decode cX6_takeWrongs 5 = .ok (.istore_n 2, 1) := by decide +kernel
theorem dX6_takeWrongs_6 : decode cX6_takeWrongs 6 = .ok (.iconst 1, 1) := by decide +kernel
theorem dX6_takeWrongs_7 : decode cX6_takeWrongs 7 = .ok (.istore_n 3, 1) := by decide +kernel
theorem dX6_takeWrongs_8 : decode cX6_takeWrongs 8 = .ok (.iload_n 2, 1) := by decide +kernel
theorem dX6_takeWrongs_9 : decode cX6_takeWrongs 9 = .ok (.ifCond .eq 30, 3) := by decide +kernel
theorem dX6_takeWrongs_12 : decode cX6_takeWrongs 12 = .ok (.iload_n 3, 1) := by decide +kernel
theorem dX6_takeWrongs_13 : decode cX6_takeWrongs 13 = .ok (.bipush 8, 2) := by decide +kernel
theorem dX6_takeWrongs_15 : decode cX6_takeWrongs 15 = .ok (.if_icmp .ge 24, 3) := by decide +kernel
theorem dX6_takeWrongs_18 : decode cX6_takeWrongs 18 = .ok (.aload_n 0, 1) := by decide +kernel
theorem dX6_takeWrongs_19 : decode cX6_takeWrongs 19 = .ok (.bipush 44, 2) := by decide +kernel
theorem dX6_takeWrongs_21 : decode cX6_takeWrongs 21 = .ok (.invokevirtual 27, 3) := by decide +kernel
theorem dX6_takeWrongs_24 : decode cX6_takeWrongs 24 = .ok (.ifCond .eq 15, 3) := by decide +kernel
theorem dX6_takeWrongs_27 : decode cX6_takeWrongs 27 = .ok (.aload_n 0, 1) := by decide +kernel
theorem dX6_takeWrongs_28 : decode cX6_takeWrongs 28 = .ok (.aload_n 1, 1) := by decide +kernel
theorem dX6_takeWrongs_29 : decode cX6_takeWrongs 29 = .ok (.invokevirtual 67, 3) := by decide +kernel
theorem dX6_takeWrongs_32 : decode cX6_takeWrongs 32 = .ok (.istore_n 2, 1) := by decide +kernel
theorem dX6_takeWrongs_33 : decode cX6_takeWrongs 33 = .ok (.iinc 3 1, 3) := by decide +kernel
theorem dX6_takeWrongs_36 : decode cX6_takeWrongs 36 = .ok (.goto (-28), 3) := by decide +kernel
theorem dX6_takeWrongs_39 : decode cX6_takeWrongs 39 = .ok (.iload_n 2, 1) := by decide +kernel
theorem dX6_takeWrongs_40 : decode cX6_takeWrongs 40 = .ok (.ireturn, 1) := by decide +kernel
theorem dX6_takeWrong_0 : decode cX6_takeWrong 0 = .ok (.aload_n 0, 1) := by decide +kernel
theorem dX6_takeWrong_1 : decode cX6_takeWrong 1 = .ok (.iconst 0, 1) := by decide +kernel
theorem dX6_takeWrong_2 : decode cX6_takeWrong 2 = .ok (.aload_n 1, 1) := by decide +kernel
theorem dX6_takeWrong_3 : decode cX6_takeWrong 3 = .ok (.invokevirtual 70, 3) := by decide +kernel
theorem dX6_takeWrong_6 : decode cX6_takeWrong 6 = .ok (.iconst 1, 1) := by decide +kernel
theorem dX6_takeWrong_7 : decode cX6_takeWrong 7 = .ok (.isub, 1) := by decide +kernel
theorem dX6_takeWrong_8 : decode cX6_takeWrong 8 = .ok (.invokevirtual 45, 3) := by decide +kernel
theorem dX6_takeWrong_11 : decode cX6_takeWrong 11 = .ok (.istore_n 2, 1) := by decide +kernel
theorem dX6_takeWrong_12 : decode cX6_takeWrong 12 = .ok (.iload_n 2, 1) := by decide +kernel
theorem dX6_takeWrong_13 : decode cX6_takeWrong 13 = .ok (.iconst (-1), 1) := by decide +kernel
theorem dX6_takeWrong_14 : decode cX6_takeWrong 14 = .ok (.if_icmp .ne 5, 3) := by decide +kernel
theorem dX6_takeWrong_17 : decode cX6_takeWrong 17 = .ok (.iconst 0, 1) := by decide +kernel
theorem dX6_takeWrong_18 : decode cX6_takeWrong 18 = .ok (.ireturn, 1) := by decide +kernel
theorem dX6_takeWrong_19 : decode cX6_takeWrong 19 = .ok (.aload_n 0, 1) := by decide +kernel
theorem dX6_takeWrong_20 : decode cX6_takeWrong 20 = .ok (.iload_n 2, 1) := by decide +kernel
theorem dX6_takeWrong_21 : decode cX6_takeWrong 21 = .ok (.aload_n 1, 1) := by decide +kernel
theorem dX6_takeWrong_22 : decode cX6_takeWrong 22 = .ok (.invokevirtual 70, 3) := by decide +kernel
theorem dX6_takeWrong_25 : decode cX6_takeWrong 25 = .ok (.invokevirtual 56, 3) := by decide +kernel
theorem dX6_takeWrong_28 : decode cX6_takeWrong 28 = .ok (.istore_n 3, 1) := by decide +kernel
theorem dX6_takeWrong_29 : decode cX6_takeWrong 29 = .ok (.iload_n 3, 1) := by decide +kernel
theorem dX6_takeWrong_30 : decode cX6_takeWrong 30 = .ok (.iconst (-1), 1) := by decide +kernel
theorem dX6_takeWrong_31 : decode cX6_takeWrong 31 = .ok (.if_icmp .ne 5, 3) := by decide +kernel
theorem dX6_takeWrong_34 : decode cX6_takeWrong 34 = .ok (.iconst 0, 1) := by decide +kernel
theorem dX6_takeWrong_35 : decode cX6_takeWrong 35 = .ok (.ireturn, 1) := by decide +kernel
theorem dX6_takeWrong_36 : decode cX6_takeWrong 36 = .ok (.aload_n 0, 1) := by decide +kernel
theorem dX6_takeWrong_37 : decode cX6_takeWrong 37 = .ok (.iconst 1, 1) := by decide +kernel
theorem dX6_takeWrong_38 : decode cX6_takeWrong 38 = .ok (.bipush 9, 2) := by decide +kernel
theorem dX6_takeWrong_40 : decode cX6_takeWrong 40 = .ok (.invokevirtual 45, 3) := by decide +kernel
theorem dX6_takeWrong_43 : decode cX6_takeWrong 43 = .ok (.istore 4, 2) := by decide +kernel
theorem dX6_takeWrong_45 : decode cX6_takeWrong 45 = .ok (.iload 4, 2) := by decide +kernel
theorem dX6_takeWrong_47 : decode cX6_takeWrong 47 = .ok (.iconst (-1), 1) := by decide +kernel
theorem dX6_takeWrong_48 : decode cX6_takeWrong 48 = .ok (.if_icmp .ne 5, 3) := by decide +kernel
theorem dX6_takeWrong_51 : decode cX6_takeWrong 51 = .ok (.iconst 0, 1) := by decide +kernel
theorem dX6_takeWrong_52 : decode cX6_takeWrong 52 = .ok (.ireturn, 1) := by decide +kernel
theorem dX6_takeWrong_53 : decode cX6_takeWrong 53 = .ok (.aload_n 1, 1) := by decide +kernel
theorem dX6_takeWrong_54 : decode cX6_takeWrong 54 = .ok (.iload_n 2, 1) := by decide +kernel
theorem dX6_takeWrong_55 : decode cX6_takeWrong 55 = .ok (.iload_n 3, 1) := by decide +kernel
theorem dX6_takeWrong_56 : decode cX6_takeWrong 56 = .ok (.iload 4, 2) := by decide +kernel
theorem dX6_takeWrong_58 : decode cX6_takeWrong 58 = .ok (.invokevirtual 73, 3) := by decide +kernel
theorem dX6_takeWrong_61 : decode cX6_takeWrong 61 = .ok (.iconst 1, 1) := by decide +kernel
theorem dX6_takeWrong_62 : decode cX6_takeWrong 62 = .ok (.ireturn, 1) := by decide +kernel
theorem dX6_takeDay_0 : decode cX6_takeDay 0 = .ok (.aload_n 0, 1) := by decide +kernel
theorem dX6_takeDay_1 : decode cX6_takeDay 1 = .ok (.iconst 0, 1) := by decide +kernel
theorem dX6_takeDay_2 : decode cX6_takeDay 2 = .ok (.iconst 1, 1) := by decide +kernel
theorem dX6_takeDay_3 : decode cX6_takeDay 3 = .ok (.invokevirtual 45, 3) := by decide +kernel
theorem dX6_takeDay_6 : decode cX6_takeDay 6 = .ok (.istore_n 2, 1) := by decide +kernel
theorem dX6_takeDay_7 : decode cX6_takeDay 7 = .ok (.iload_n 2, 1) := by decide +kernel
theorem dX6_takeDay_8 : decode cX6_takeDay 8 = .ok (.iconst (-1), 1) := by decide +kernel
theorem dX6_takeDay_9 : decode cX6_takeDay 9 = .ok (.if_icmp .ne 5, 3) := by decide +kernel
theorem dX6_takeDay_12 : decode cX6_takeDay 12 = .ok (.iconst 0, 1) := by decide +kernel
theorem dX6_takeDay_13 : decode cX6_takeDay 13 = .ok (.ireturn, 1) := by decide +kernel
theorem dX6_takeDay_14 : decode cX6_takeDay 14 = .ok (.aload_n 1, 1) := by decide +kernel
theorem dX6_takeDay_15 : decode cX6_takeDay 15 = .ok (.iload_n 2, 1) := by decide +kernel
theorem dX6_takeDay_16 : decode cX6_takeDay 16 = .ok (.invokevirtual 77, 3) := by decide +kernel
theorem dX6_takeDay_19 : decode cX6_takeDay 19 = .ok (.iconst 1, 1) := by decide +kernel
theorem dX6_takeDay_20 : decode cX6_takeDay 20 = .ok (.ireturn, 1) := by decide +kernel
theorem dJ6_bitCount_0f7a4_0 : decode cJ6_bitCount_0f7a4 0 = .ok (.iload_n 0, 1) := by decide +kernel
theorem dJ6_bitCount_0f7a4_1 : decode cJ6_bitCount_0f7a4 1 = .ok (.iload_n 0, 1) := by decide +kernel
theorem dJ6_bitCount_0f7a4_2 : decode cJ6_bitCount_0f7a4 2 = .ok (.iconst 1, 1) := by decide +kernel
theorem dJ6_bitCount_0f7a4_3 : decode cJ6_bitCount_0f7a4 3 = .ok (.iushr, 1) := by decide +kernel
theorem dJ6_bitCount_0f7a4_4 : decode cJ6_bitCount_0f7a4 4 = .ok (.ldc_w 265, 3) := by decide +kernel
theorem dJ6_bitCount_0f7a4_7 : decode cJ6_bitCount_0f7a4 7 = .ok (.iand, 1) := by decide +kernel
theorem dJ6_bitCount_0f7a4_8 : decode cJ6_bitCount_0f7a4 8 = .ok (.isub, 1) := by decide +kernel
theorem dJ6_bitCount_0f7a4_9 : decode cJ6_bitCount_0f7a4 9 = .ok (.istore_n 0, 1) := by decide +kernel
theorem dJ6_bitCount_0f7a4_10 : decode cJ6_bitCount_0f7a4 10 = .ok (.iload_n 0, 1) := by decide +kernel
theorem dJ6_bitCount_0f7a4_11 : decode cJ6_bitCount_0f7a4 11 = .ok (.ldc_w 266, 3) := by decide +kernel
theorem dJ6_bitCount_0f7a4_14 : decode cJ6_bitCount_0f7a4 14 = .ok (.iand, 1) := by decide +kernel
theorem dJ6_bitCount_0f7a4_15 : decode cJ6_bitCount_0f7a4 15 = .ok (.iload_n 0, 1) := by decide +kernel
theorem dJ6_bitCount_0f7a4_16 : decode cJ6_bitCount_0f7a4 16 = .ok (.iconst 2, 1) := by decide +kernel
theorem dJ6_bitCount_0f7a4_17 : decode cJ6_bitCount_0f7a4 17 = .ok (.iushr, 1) := by decide +kernel
theorem dJ6_bitCount_0f7a4_18 : decode cJ6_bitCount_0f7a4 18 = .ok (.ldc_w 266, 3) := by decide +kernel
theorem dJ6_bitCount_0f7a4_21 : decode cJ6_bitCount_0f7a4 21 = .ok (.iand, 1) := by decide +kernel
theorem dJ6_bitCount_0f7a4_22 : decode cJ6_bitCount_0f7a4 22 = .ok (.iadd, 1) := by decide +kernel
theorem dJ6_bitCount_0f7a4_23 : decode cJ6_bitCount_0f7a4 23 = .ok (.istore_n 0, 1) := by decide +kernel
theorem dJ6_bitCount_0f7a4_24 : decode cJ6_bitCount_0f7a4 24 = .ok (.iload_n 0, 1) := by decide +kernel
theorem dJ6_bitCount_0f7a4_25 : decode cJ6_bitCount_0f7a4 25 = .ok (.iload_n 0, 1) := by decide +kernel
theorem dJ6_bitCount_0f7a4_26 : decode cJ6_bitCount_0f7a4 26 = .ok (.iconst 4, 1) := by decide +kernel
theorem dJ6_bitCount_0f7a4_27 : decode cJ6_bitCount_0f7a4 27 = .ok (.iushr, 1) := by decide +kernel
theorem dJ6_bitCount_0f7a4_28 : decode cJ6_bitCount_0f7a4 28 = .ok (.iadd, 1) := by decide +kernel
theorem dJ6_bitCount_0f7a4_29 : decode cJ6_bitCount_0f7a4 29 = .ok (.ldc_w 267, 3) := by decide +kernel
theorem dJ6_bitCount_0f7a4_32 : decode cJ6_bitCount_0f7a4 32 = .ok (.iand, 1) := by decide +kernel
theorem dJ6_bitCount_0f7a4_33 : decode cJ6_bitCount_0f7a4 33 = .ok (.istore_n 0, 1) := by decide +kernel
theorem dJ6_bitCount_0f7a4_34 : decode cJ6_bitCount_0f7a4 34 = .ok (.iload_n 0, 1) := by decide +kernel
theorem dJ6_bitCount_0f7a4_35 : decode cJ6_bitCount_0f7a4 35 = .ok (.iload_n 0, 1) := by decide +kernel
theorem dJ6_bitCount_0f7a4_36 : decode cJ6_bitCount_0f7a4 36 = .ok (.bipush 8, 2) := by decide +kernel
theorem dJ6_bitCount_0f7a4_38 : decode cJ6_bitCount_0f7a4 38 = .ok (.iushr, 1) := by decide +kernel
theorem dJ6_bitCount_0f7a4_39 : decode cJ6_bitCount_0f7a4 39 = .ok (.iadd, 1) := by decide +kernel
theorem dJ6_bitCount_0f7a4_40 : decode cJ6_bitCount_0f7a4 40 = .ok (.istore_n 0, 1) := by decide +kernel
theorem dJ6_bitCount_0f7a4_41 : decode cJ6_bitCount_0f7a4 41 = .ok (.iload_n 0, 1) := by decide +kernel
theorem dJ6_bitCount_0f7a4_42 : decode cJ6_bitCount_0f7a4 42 = .ok (.iload_n 0, 1) := by decide +kernel
theorem dJ6_bitCount_0f7a4_43 : decode cJ6_bitCount_0f7a4 43 = .ok (.bipush 16, 2) := by decide +kernel
theorem dJ6_bitCount_0f7a4_45 : decode cJ6_bitCount_0f7a4 45 = .ok (.iushr, 1) := by decide +kernel
theorem dJ6_bitCount_0f7a4_46 : decode cJ6_bitCount_0f7a4 46 = .ok (.iadd, 1) := by decide +kernel
theorem dJ6_bitCount_0f7a4_47 : decode cJ6_bitCount_0f7a4 47 = .ok (.istore_n 0, 1) := by decide +kernel
theorem dJ6_bitCount_0f7a4_48 : decode cJ6_bitCount_0f7a4 48 = .ok (.iload_n 0, 1) := by decide +kernel
theorem dJ6_bitCount_0f7a4_49 : decode cJ6_bitCount_0f7a4 49 = .ok (.bipush 63, 2) := by decide +kernel
theorem dJ6_bitCount_0f7a4_51 : decode cJ6_bitCount_0f7a4 51 = .ok (.iand, 1) := by decide +kernel
theorem dJ6_bitCount_0f7a4_52 : decode cJ6_bitCount_0f7a4 52 = .ok (.ireturn, 1) := by decide +kernel
theorem dJ7_fill_d0a16_0 : decode cJ7_fill_d0a16 0 = .ok (.iconst 0, 1) := by decide +kernel
theorem dJ7_fill_d0a16_1 : decode cJ7_fill_d0a16 1 = .ok (.istore_n 3, 1) := by decide +kernel
theorem dJ7_fill_d0a16_2 : decode cJ7_fill_d0a16 2 = .ok (.aload_n 0, 1) := by decide +kernel
theorem dJ7_fill_d0a16_3 : decode cJ7_fill_d0a16 3 = .ok (.arraylength, 1) := by decide +kernel
theorem dJ7_fill_d0a16_4 : decode cJ7_fill_d0a16 4 = .ok (.istore 4, 2) := by decide +kernel
theorem dJ7_fill_d0a16_6 : decode cJ7_fill_d0a16 6 = .ok (.iload_n 3, 1) := by decide +kernel
theorem dJ7_fill_d0a16_7 : decode cJ7_fill_d0a16 7 = .ok (.iload 4, 2) := by decide +kernel
theorem dJ7_fill_d0a16_9 : decode cJ7_fill_d0a16 9 = .ok (.if_icmp .ge 13, 3) := by decide +kernel
theorem dJ7_fill_d0a16_12 : decode cJ7_fill_d0a16 12 = .ok (.aload_n 0, 1) := by decide +kernel
theorem dJ7_fill_d0a16_13 : decode cJ7_fill_d0a16 13 = .ok (.iload_n 3, 1) := by decide +kernel
theorem dJ7_fill_d0a16_14 : decode cJ7_fill_d0a16 14 = .ok (.lload_n 1, 1) := by decide +kernel
theorem dJ7_fill_d0a16_15 : decode cJ7_fill_d0a16 15 = .ok (.lastore, 1) := by decide +kernel
theorem dJ7_fill_d0a16_16 : decode cJ7_fill_d0a16 16 = .ok (.iinc 3 1, 3) := by decide +kernel
theorem dJ7_fill_d0a16_19 : decode cJ7_fill_d0a16 19 = .ok (.goto (-13), 3) := by decide +kernel
theorem dJ7_fill_d0a16_22 : decode cJ7_fill_d0a16 22 = .ok (.return_, 1) := by decide +kernel
theorem dJ7_fill_53178_0 : decode cJ7_fill_53178 0 = .ok (.iconst 0, 1) := by decide +kernel
theorem dJ7_fill_53178_1 : decode cJ7_fill_53178 1 = .ok (.istore_n 2, 1) := by decide +kernel
theorem dJ7_fill_53178_2 : decode cJ7_fill_53178 2 = .ok (.aload_n 0, 1) := by decide +kernel
theorem dJ7_fill_53178_3 : decode cJ7_fill_53178 3 = .ok (.arraylength, 1) := by decide +kernel
theorem dJ7_fill_53178_4 : decode cJ7_fill_53178 4 = .ok (.istore_n 3, 1) := by decide +kernel
theorem dJ7_fill_53178_5 : decode cJ7_fill_53178 5 = .ok (.iload_n 2, 1) := by decide +kernel
theorem dJ7_fill_53178_6 : decode cJ7_fill_53178 6 = .ok (.iload_n 3, 1) := by decide +kernel
theorem dJ7_fill_53178_7 : decode cJ7_fill_53178 7 = .ok (.if_icmp .ge 13, 3) := by decide +kernel
theorem dJ7_fill_53178_10 : decode cJ7_fill_53178 10 = .ok (.aload_n 0, 1) := by decide +kernel
theorem dJ7_fill_53178_11 : decode cJ7_fill_53178 11 = .ok (.iload_n 2, 1) := by decide +kernel
theorem dJ7_fill_53178_12 : decode cJ7_fill_53178 12 = .ok (.iload_n 1, 1) := by decide +kernel
theorem dJ7_fill_53178_13 : decode cJ7_fill_53178 13 = .ok (.iastore, 1) := by decide +kernel
theorem dJ7_fill_53178_14 : decode cJ7_fill_53178 14 = .ok (.iinc 2 1, 3) := by decide +kernel
theorem dJ7_fill_53178_17 : decode cJ7_fill_53178 17 = .ok (.goto (-12), 3) := by decide +kernel
theorem dJ7_fill_53178_20 : decode cJ7_fill_53178 20 = .ok (.return_, 1) := by decide +kernel
theorem dJ9_abs_0f7a4_0 : decode cJ9_abs_0f7a4 0 = .ok (.iload_n 0, 1) := by decide +kernel
theorem dJ9_abs_0f7a4_1 : decode cJ9_abs_0f7a4 1 = .ok (.ifCond .ge 8, 3) := by decide +kernel
theorem dJ9_abs_0f7a4_4 : decode cJ9_abs_0f7a4 4 = .ok (.iload_n 0, 1) := by decide +kernel
theorem dJ9_abs_0f7a4_5 : decode cJ9_abs_0f7a4 5 = .ok (.ineg, 1) := by decide +kernel
theorem dJ9_abs_0f7a4_6 : decode cJ9_abs_0f7a4 6 = .ok (.goto 4, 3) := by decide +kernel
theorem dJ9_abs_0f7a4_9 : decode cJ9_abs_0f7a4 9 = .ok (.iload_n 0, 1) := by decide +kernel
theorem dJ9_abs_0f7a4_10 : decode cJ9_abs_0f7a4 10 = .ok (.ireturn, 1) := by decide +kernel
theorem dJ9_max_7cf53_0 : decode cJ9_max_7cf53 0 = .ok (.iload_n 0, 1) := by decide +kernel
theorem dJ9_max_7cf53_1 : decode cJ9_max_7cf53 1 = .ok (.iload_n 1, 1) := by decide +kernel
theorem dJ9_max_7cf53_2 : decode cJ9_max_7cf53 2 = .ok (.if_icmp .lt 7, 3) := by decide +kernel
theorem dJ9_max_7cf53_5 : decode cJ9_max_7cf53 5 = .ok (.iload_n 0, 1) := by decide +kernel
theorem dJ9_max_7cf53_6 : decode cJ9_max_7cf53 6 = .ok (.goto 4, 3) := by decide +kernel
theorem dJ9_max_7cf53_9 : decode cJ9_max_7cf53 9 = .ok (.iload_n 1, 1) := by decide +kernel
theorem dJ9_max_7cf53_10 : decode cJ9_max_7cf53 10 = .ok (.ireturn, 1) := by decide +kernel
theorem dJ9_min_7cf53_0 : decode cJ9_min_7cf53 0 = .ok (.iload_n 0, 1) := by decide +kernel
theorem dJ9_min_7cf53_1 : decode cJ9_min_7cf53 1 = .ok (.iload_n 1, 1) := by decide +kernel
theorem dJ9_min_7cf53_2 : decode cJ9_min_7cf53 2 = .ok (.if_icmp .gt 7, 3) := by decide +kernel
theorem dJ9_min_7cf53_5 : decode cJ9_min_7cf53 5 = .ok (.iload_n 0, 1) := by decide +kernel
theorem dJ9_min_7cf53_6 : decode cJ9_min_7cf53 6 = .ok (.goto 4, 3) := by decide +kernel
theorem dJ9_min_7cf53_9 : decode cJ9_min_7cf53 9 = .ok (.iload_n 1, 1) := by decide +kernel
theorem dJ9_min_7cf53_10 : decode cJ9_min_7cf53 10 = .ok (.ireturn, 1) := by decide +kernel

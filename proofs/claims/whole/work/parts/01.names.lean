/-- a private method of a class that the tables say can be made, by its rows of tables_1 -/
def lw_okq (q : MethodName × Nat) : Prop := (q.1.cls ≠ "java/lang/invoke/MethodHandle" ∧ q.1.cls ≠ "java/lang/invoke/VarHandle") ∧ Cond.instantiable q.1.cls q.2 ∈ tables_1 ∧ Cond.privateMethod q.1 ∈ tables_1 ∧ Cond.instanceMethod q.1 ∈ tables_1
theorem lw_p0 : lw_okq (⟨"RivalSorry$Tape", "takeSign", "(I)Z"⟩, 3) := ⟨⟨by decide +kernel, by decide +kernel⟩, List.mem_of_getElem? (i := 23) (by decide +kernel), List.mem_of_getElem? (i := 201) (by decide +kernel), List.mem_of_getElem? (i := 202) (by decide +kernel)⟩
theorem lw_p1 : lw_okq (⟨"RivalSorry$Tape", "peek", "()I"⟩, 3) := ⟨⟨by decide +kernel, by decide +kernel⟩, List.mem_of_getElem? (i := 23) (by decide +kernel), List.mem_of_getElem? (i := 205) (by decide +kernel), List.mem_of_getElem? (i := 206) (by decide +kernel)⟩
theorem lw_p2 : lw_okq (⟨"RivalSorry$Tape", "takePeople", "(LRivalSorry$Coast;)Z"⟩, 3) := ⟨⟨by decide +kernel, by decide +kernel⟩, List.mem_of_getElem? (i := 23) (by decide +kernel), List.mem_of_getElem? (i := 209) (by decide +kernel), List.mem_of_getElem? (i := 210) (by decide +kernel)⟩
theorem lw_p3 : lw_okq (⟨"RivalSorry$Tape", "takeFigure", "(II)I"⟩, 3) := ⟨⟨by decide +kernel, by decide +kernel⟩, List.mem_of_getElem? (i := 23) (by decide +kernel), List.mem_of_getElem? (i := 213) (by decide +kernel), List.mem_of_getElem? (i := 214) (by decide +kernel)⟩
theorem lw_p4 : lw_okq (⟨"RivalSorry$Tape", "takePerson", "(LRivalSorry$Coast;II)Z"⟩, 3) := ⟨⟨by decide +kernel, by decide +kernel⟩, List.mem_of_getElem? (i := 23) (by decide +kernel), List.mem_of_getElem? (i := 217) (by decide +kernel), List.mem_of_getElem? (i := 218) (by decide +kernel)⟩
theorem lw_p5 : lw_okq (⟨"RivalSorry$Tape", "takeKind", "()I"⟩, 3) := ⟨⟨by decide +kernel, by decide +kernel⟩, List.mem_of_getElem? (i := 23) (by decide +kernel), List.mem_of_getElem? (i := 221) (by decide +kernel), List.mem_of_getElem? (i := 222) (by decide +kernel)⟩
theorem lw_p6 : lw_okq (⟨"RivalSorry$Tape", "takeOther", "(II)I"⟩, 3) := ⟨⟨by decide +kernel, by decide +kernel⟩, List.mem_of_getElem? (i := 23) (by decide +kernel), List.mem_of_getElem? (i := 228) (by decide +kernel), List.mem_of_getElem? (i := 229) (by decide +kernel)⟩
theorem lw_p7 : lw_okq (⟨"RivalSorry$Tape", "takeWrongs", "(LRivalSorry$Coast;)Z"⟩, 3) := ⟨⟨by decide +kernel, by decide +kernel⟩, List.mem_of_getElem? (i := 23) (by decide +kernel), List.mem_of_getElem? (i := 240) (by decide +kernel), List.mem_of_getElem? (i := 241) (by decide +kernel)⟩
theorem lw_p8 : lw_okq (⟨"RivalSorry$Tape", "takeWrong", "(LRivalSorry$Coast;)Z"⟩, 3) := ⟨⟨by decide +kernel, by decide +kernel⟩, List.mem_of_getElem? (i := 23) (by decide +kernel), List.mem_of_getElem? (i := 244) (by decide +kernel), List.mem_of_getElem? (i := 245) (by decide +kernel)⟩
theorem lw_p9 : lw_okq (⟨"RivalSorry$Tape", "takeDay", "(LRivalSorry$Coast;)Z"⟩, 3) := ⟨⟨by decide +kernel, by decide +kernel⟩, List.mem_of_getElem? (i := 23) (by decide +kernel), List.mem_of_getElem? (i := 260) (by decide +kernel), List.mem_of_getElem? (i := 261) (by decide +kernel)⟩
theorem lw_p10 : lw_okq (⟨"RivalSorry", "refuseCarrying", "(II)I"⟩, 9) := ⟨⟨by decide +kernel, by decide +kernel⟩, List.mem_of_getElem? (i := 15) (by decide +kernel), List.mem_of_getElem? (i := 330) (by decide +kernel), List.mem_of_getElem? (i := 331) (by decide +kernel)⟩
theorem lw_p11 : lw_okq (⟨"RivalSorry$Past", "at", "(I)LRivalSorry$Coast;"⟩, 3) := ⟨⟨by decide +kernel, by decide +kernel⟩, List.mem_of_getElem? (i := 62) (by decide +kernel), List.mem_of_getElem? (i := 355) (by decide +kernel), List.mem_of_getElem? (i := 356) (by decide +kernel)⟩
theorem lw_p12 : lw_okq (⟨"RivalSorry$Coast", "milesOf", "(II)I"⟩, 5) := ⟨⟨by decide +kernel, by decide +kernel⟩, List.mem_of_getElem? (i := 40) (by decide +kernel), List.mem_of_getElem? (i := 375) (by decide +kernel), List.mem_of_getElem? (i := 376) (by decide +kernel)⟩
theorem lw_p13 : lw_okq (⟨"RivalSorry", "change", "(III)I"⟩, 9) := ⟨⟨by decide +kernel, by decide +kernel⟩, List.mem_of_getElem? (i := 15) (by decide +kernel), List.mem_of_getElem? (i := 398) (by decide +kernel), List.mem_of_getElem? (i := 399) (by decide +kernel)⟩
theorem lw_p14 : lw_okq (⟨"RivalSorry", "imageAt", "(I)LRivalSorry$Coast;"⟩, 9) := ⟨⟨by decide +kernel, by decide +kernel⟩, List.mem_of_getElem? (i := 15) (by decide +kernel), List.mem_of_getElem? (i := 437) (by decide +kernel), List.mem_of_getElem? (i := 438) (by decide +kernel)⟩
theorem lw_p15 : lw_okq (⟨"RivalSorry$Matching", "weigh", "(LRivalSorry$Coast;)V"⟩, 4) := ⟨⟨by decide +kernel, by decide +kernel⟩, List.mem_of_getElem? (i := 99) (by decide +kernel), List.mem_of_getElem? (i := 471) (by decide +kernel), List.mem_of_getElem? (i := 472) (by decide +kernel)⟩
def lw_privs_1 : List (MethodName × Nat) := [(⟨"RivalSorry$Tape", "takeSign", "(I)Z"⟩, 3), (⟨"RivalSorry$Tape", "peek", "()I"⟩, 3), (⟨"RivalSorry$Tape", "takePeople", "(LRivalSorry$Coast;)Z"⟩, 3), (⟨"RivalSorry$Tape", "takeFigure", "(II)I"⟩, 3), (⟨"RivalSorry$Tape", "takePerson", "(LRivalSorry$Coast;II)Z"⟩, 3), (⟨"RivalSorry$Tape", "takeKind", "()I"⟩, 3), (⟨"RivalSorry$Tape", "takeOther", "(II)I"⟩, 3), (⟨"RivalSorry$Tape", "takeWrongs", "(LRivalSorry$Coast;)Z"⟩, 3), (⟨"RivalSorry$Tape", "takeWrong", "(LRivalSorry$Coast;)Z"⟩, 3), (⟨"RivalSorry$Tape", "takeDay", "(LRivalSorry$Coast;)Z"⟩, 3), (⟨"RivalSorry", "refuseCarrying", "(II)I"⟩, 9), (⟨"RivalSorry$Past", "at", "(I)LRivalSorry$Coast;"⟩, 3), (⟨"RivalSorry$Coast", "milesOf", "(II)I"⟩, 5), (⟨"RivalSorry", "change", "(III)I"⟩, 9), (⟨"RivalSorry", "imageAt", "(I)LRivalSorry$Coast;"⟩, 9), (⟨"RivalSorry$Matching", "weigh", "(LRivalSorry$Coast;)V"⟩, 4)]
theorem lw_r1 : ∀ q ∈ lw_privs_1, lw_okq q := List.forall_mem_cons.mpr ⟨lw_p0, List.forall_mem_cons.mpr ⟨lw_p1, List.forall_mem_cons.mpr ⟨lw_p2, List.forall_mem_cons.mpr ⟨lw_p3, List.forall_mem_cons.mpr ⟨lw_p4, List.forall_mem_cons.mpr ⟨lw_p5, List.forall_mem_cons.mpr ⟨lw_p6, List.forall_mem_cons.mpr ⟨lw_p7, List.forall_mem_cons.mpr ⟨lw_p8, List.forall_mem_cons.mpr ⟨lw_p9, List.forall_mem_cons.mpr ⟨lw_p10, List.forall_mem_cons.mpr ⟨lw_p11, List.forall_mem_cons.mpr ⟨lw_p12, List.forall_mem_cons.mpr ⟨lw_p13, List.forall_mem_cons.mpr ⟨lw_p14, List.forall_mem_cons.mpr ⟨lw_p15, fun _ h => absurd h List.not_mem_nil⟩⟩⟩⟩⟩⟩⟩⟩⟩⟩⟩⟩⟩⟩⟩⟩
theorem lw_p16 : lw_okq (⟨"RivalSorry$Matching", "firstCarrier", "(II)I"⟩, 4) := ⟨⟨by decide +kernel, by decide +kernel⟩, List.mem_of_getElem? (i := 99) (by decide +kernel), List.mem_of_getElem? (i := 481) (by decide +kernel), List.mem_of_getElem? (i := 482) (by decide +kernel)⟩
theorem lw_p17 : lw_okq (⟨"RivalSorry$Matching", "pairWorth", "(II)I"⟩, 4) := ⟨⟨by decide +kernel, by decide +kernel⟩, List.mem_of_getElem? (i := 99) (by decide +kernel), List.mem_of_getElem? (i := 485) (by decide +kernel), List.mem_of_getElem? (i := 486) (by decide +kernel)⟩
theorem lw_p18 : lw_okq (⟨"RivalSorry$Matching", "worthOf", "(III)I"⟩, 4) := ⟨⟨by decide +kernel, by decide +kernel⟩, List.mem_of_getElem? (i := 99) (by decide +kernel), List.mem_of_getElem? (i := 489) (by decide +kernel), List.mem_of_getElem? (i := 490) (by decide +kernel)⟩
theorem lw_p19 : lw_okq (⟨"RivalSorry$Matching", "bestAt", "(II)I"⟩, 4) := ⟨⟨by decide +kernel, by decide +kernel⟩, List.mem_of_getElem? (i := 99) (by decide +kernel), List.mem_of_getElem? (i := 493) (by decide +kernel), List.mem_of_getElem? (i := 494) (by decide +kernel)⟩
theorem lw_p20 : lw_okq (⟨"RivalSorry$Matching", "setBest", "(III)V"⟩, 4) := ⟨⟨by decide +kernel, by decide +kernel⟩, List.mem_of_getElem? (i := 99) (by decide +kernel), List.mem_of_getElem? (i := 497) (by decide +kernel), List.mem_of_getElem? (i := 498) (by decide +kernel)⟩
theorem lw_p21 : lw_okq (⟨"RivalSorry$Matching", "choose", "(I)V"⟩, 4) := ⟨⟨by decide +kernel, by decide +kernel⟩, List.mem_of_getElem? (i := 99) (by decide +kernel), List.mem_of_getElem? (i := 501) (by decide +kernel), List.mem_of_getElem? (i := 502) (by decide +kernel)⟩
theorem lw_p22 : lw_okq (⟨"RivalSorry$Coast", "wantedAfter", "(II)I"⟩, 5) := ⟨⟨by decide +kernel, by decide +kernel⟩, List.mem_of_getElem? (i := 40) (by decide +kernel), List.mem_of_getElem? (i := 525) (by decide +kernel), List.mem_of_getElem? (i := 526) (by decide +kernel)⟩
theorem lw_p23 : lw_okq (⟨"RivalSorry$Planner", "bestBehind", "(LRivalSorry$Coast;III)I"⟩, 2) := ⟨⟨by decide +kernel, by decide +kernel⟩, List.mem_of_getElem? (i := 118) (by decide +kernel), List.mem_of_getElem? (i := 558) (by decide +kernel), List.mem_of_getElem? (i := 559) (by decide +kernel)⟩
theorem lw_p24 : lw_okq (⟨"RivalSorry$Planner", "keep", "(II)V"⟩, 2) := ⟨⟨by decide +kernel, by decide +kernel⟩, List.mem_of_getElem? (i := 118) (by decide +kernel), List.mem_of_getElem? (i := 566) (by decide +kernel), List.mem_of_getElem? (i := 567) (by decide +kernel)⟩
theorem lw_p25 : lw_okq (⟨"RivalSorry", "sheetAt", "(I)LRivalSorry$Sheet;"⟩, 9) := ⟨⟨by decide +kernel, by decide +kernel⟩, List.mem_of_getElem? (i := 15) (by decide +kernel), List.mem_of_getElem? (i := 619) (by decide +kernel), List.mem_of_getElem? (i := 620) (by decide +kernel)⟩
theorem lw_p26 : lw_okq (⟨"RivalSorry$Sheet", "lowestBits", "(J)J"⟩, 3) := ⟨⟨by decide +kernel, by decide +kernel⟩, List.mem_of_getElem? (i := 82) (by decide +kernel), List.mem_of_getElem? (i := 666) (by decide +kernel), List.mem_of_getElem? (i := 667) (by decide +kernel)⟩
theorem lw_p27 : lw_okq (⟨"RivalSorry", "refusePairs", "(IIIIII)I"⟩, 9) := ⟨⟨by decide +kernel, by decide +kernel⟩, List.mem_of_getElem? (i := 15) (by decide +kernel), List.mem_of_getElem? (i := 692) (by decide +kernel), List.mem_of_getElem? (i := 693) (by decide +kernel)⟩
theorem lw_p28 : lw_okq (⟨"RivalSorry$Guess", "fitting", "(LRivalSorry$Sheet;II)I"⟩, 3) := ⟨⟨by decide +kernel, by decide +kernel⟩, List.mem_of_getElem? (i := 133) (by decide +kernel), List.mem_of_getElem? (i := 707) (by decide +kernel), List.mem_of_getElem? (i := 708) (by decide +kernel)⟩
theorem lw_p29 : lw_okq (⟨"RivalSorry$Guess", "fits", "(ILRivalSorry$Sheet;II)Z"⟩, 3) := ⟨⟨by decide +kernel, by decide +kernel⟩, List.mem_of_getElem? (i := 133) (by decide +kernel), List.mem_of_getElem? (i := 711) (by decide +kernel), List.mem_of_getElem? (i := 712) (by decide +kernel)⟩
theorem lw_p30 : lw_okq (⟨"RivalSorry$Guess", "sayingAt", "(II)I"⟩, 3) := ⟨⟨by decide +kernel, by decide +kernel⟩, List.mem_of_getElem? (i := 133) (by decide +kernel), List.mem_of_getElem? (i := 716) (by decide +kernel), List.mem_of_getElem? (i := 717) (by decide +kernel)⟩
theorem lw_p31 : lw_okq (⟨"RivalSorry$Guess", "bestTry", "(I)I"⟩, 3) := ⟨⟨by decide +kernel, by decide +kernel⟩, List.mem_of_getElem? (i := 133) (by decide +kernel), List.mem_of_getElem? (i := 720) (by decide +kernel), List.mem_of_getElem? (i := 721) (by decide +kernel)⟩
def lw_privs_2 : List (MethodName × Nat) := [(⟨"RivalSorry$Matching", "firstCarrier", "(II)I"⟩, 4), (⟨"RivalSorry$Matching", "pairWorth", "(II)I"⟩, 4), (⟨"RivalSorry$Matching", "worthOf", "(III)I"⟩, 4), (⟨"RivalSorry$Matching", "bestAt", "(II)I"⟩, 4), (⟨"RivalSorry$Matching", "setBest", "(III)V"⟩, 4), (⟨"RivalSorry$Matching", "choose", "(I)V"⟩, 4), (⟨"RivalSorry$Coast", "wantedAfter", "(II)I"⟩, 5), (⟨"RivalSorry$Planner", "bestBehind", "(LRivalSorry$Coast;III)I"⟩, 2), (⟨"RivalSorry$Planner", "keep", "(II)V"⟩, 2), (⟨"RivalSorry", "sheetAt", "(I)LRivalSorry$Sheet;"⟩, 9), (⟨"RivalSorry$Sheet", "lowestBits", "(J)J"⟩, 3), (⟨"RivalSorry", "refusePairs", "(IIIIII)I"⟩, 9), (⟨"RivalSorry$Guess", "fitting", "(LRivalSorry$Sheet;II)I"⟩, 3), (⟨"RivalSorry$Guess", "fits", "(ILRivalSorry$Sheet;II)Z"⟩, 3), (⟨"RivalSorry$Guess", "sayingAt", "(II)I"⟩, 3), (⟨"RivalSorry$Guess", "bestTry", "(I)I"⟩, 3)]
theorem lw_r2 : ∀ q ∈ lw_privs_2, lw_okq q := List.forall_mem_cons.mpr ⟨lw_p16, List.forall_mem_cons.mpr ⟨lw_p17, List.forall_mem_cons.mpr ⟨lw_p18, List.forall_mem_cons.mpr ⟨lw_p19, List.forall_mem_cons.mpr ⟨lw_p20, List.forall_mem_cons.mpr ⟨lw_p21, List.forall_mem_cons.mpr ⟨lw_p22, List.forall_mem_cons.mpr ⟨lw_p23, List.forall_mem_cons.mpr ⟨lw_p24, List.forall_mem_cons.mpr ⟨lw_p25, List.forall_mem_cons.mpr ⟨lw_p26, List.forall_mem_cons.mpr ⟨lw_p27, List.forall_mem_cons.mpr ⟨lw_p28, List.forall_mem_cons.mpr ⟨lw_p29, List.forall_mem_cons.mpr ⟨lw_p30, List.forall_mem_cons.mpr ⟨lw_p31, fun _ h => absurd h List.not_mem_nil⟩⟩⟩⟩⟩⟩⟩⟩⟩⟩⟩⟩⟩⟩⟩⟩
theorem lw_p32 : lw_okq (⟨"RivalSorry$Guess", "greatestPart", "(II)I"⟩, 3) := ⟨⟨by decide +kernel, by decide +kernel⟩, List.mem_of_getElem? (i := 133) (by decide +kernel), List.mem_of_getElem? (i := 725) (by decide +kernel), List.mem_of_getElem? (i := 726) (by decide +kernel)⟩
theorem lw_p33 : lw_okq (⟨"RivalSorry$Guess", "partLike", "(III)I"⟩, 3) := ⟨⟨by decide +kernel, by decide +kernel⟩, List.mem_of_getElem? (i := 133) (by decide +kernel), List.mem_of_getElem? (i := 729) (by decide +kernel), List.mem_of_getElem? (i := 730) (by decide +kernel)⟩
theorem lw_p34 : lw_okq (⟨"RivalSorryModel", "isRead", "()Z"⟩, 19) := ⟨⟨by decide +kernel, by decide +kernel⟩, List.mem_of_getElem? (i := 755) (by decide +kernel), List.mem_of_getElem? (i := 831) (by decide +kernel), List.mem_of_getElem? (i := 832) (by decide +kernel)⟩
theorem lw_p35 : lw_okq (⟨"RivalSorryModel", "isSign", "(I)Z"⟩, 19) := ⟨⟨by decide +kernel, by decide +kernel⟩, List.mem_of_getElem? (i := 755) (by decide +kernel), List.mem_of_getElem? (i := 835) (by decide +kernel), List.mem_of_getElem? (i := 836) (by decide +kernel)⟩
theorem lw_p36 : lw_okq (⟨"RivalSorryModel", "peek", "()I"⟩, 19) := ⟨⟨by decide +kernel, by decide +kernel⟩, List.mem_of_getElem? (i := 755) (by decide +kernel), List.mem_of_getElem? (i := 839) (by decide +kernel), List.mem_of_getElem? (i := 840) (by decide +kernel)⟩
theorem lw_p37 : lw_okq (⟨"RivalSorryModel", "figure", "(III)I"⟩, 19) := ⟨⟨by decide +kernel, by decide +kernel⟩, List.mem_of_getElem? (i := 755) (by decide +kernel), List.mem_of_getElem? (i := 843) (by decide +kernel), List.mem_of_getElem? (i := 844) (by decide +kernel)⟩
theorem lw_p38 : lw_okq (⟨"RivalSorryModel", "isPerson", "(I)Z"⟩, 19) := ⟨⟨by decide +kernel, by decide +kernel⟩, List.mem_of_getElem? (i := 755) (by decide +kernel), List.mem_of_getElem? (i := 847) (by decide +kernel), List.mem_of_getElem? (i := 848) (by decide +kernel)⟩
theorem lw_p39 : lw_okq (⟨"RivalSorryModel", "isWrongItem", "()Z"⟩, 19) := ⟨⟨by decide +kernel, by decide +kernel⟩, List.mem_of_getElem? (i := 755) (by decide +kernel), List.mem_of_getElem? (i := 854) (by decide +kernel), List.mem_of_getElem? (i := 855) (by decide +kernel)⟩
theorem lw_p40 : lw_okq (⟨"RivalSorryModel", "isOne", "(I)Z"⟩, 19) := ⟨⟨by decide +kernel, by decide +kernel⟩, List.mem_of_getElem? (i := 755) (by decide +kernel), List.mem_of_getElem? (i := 868) (by decide +kernel), List.mem_of_getElem? (i := 869) (by decide +kernel)⟩
theorem lw_p41 : lw_okq (⟨"RivalSorryModel", "isWrong", "(I)Z"⟩, 19) := ⟨⟨by decide +kernel, by decide +kernel⟩, List.mem_of_getElem? (i := 755) (by decide +kernel), List.mem_of_getElem? (i := 880) (by decide +kernel), List.mem_of_getElem? (i := 881) (by decide +kernel)⟩
theorem lw_p42 : lw_okq (⟨"RivalSorryModel", "whyNot", "(II)I"⟩, 19) := ⟨⟨by decide +kernel, by decide +kernel⟩, List.mem_of_getElem? (i := 755) (by decide +kernel), List.mem_of_getElem? (i := 891) (by decide +kernel), List.mem_of_getElem? (i := 892) (by decide +kernel)⟩
theorem lw_p43 : lw_okq (⟨"RivalSorryModel", "note", "()V"⟩, 19) := ⟨⟨by decide +kernel, by decide +kernel⟩, List.mem_of_getElem? (i := 755) (by decide +kernel), List.mem_of_getElem? (i := 901) (by decide +kernel), List.mem_of_getElem? (i := 902) (by decide +kernel)⟩
theorem lw_p44 : lw_okq (⟨"RivalSorryModel", "isThere", "()Z"⟩, 19) := ⟨⟨by decide +kernel, by decide +kernel⟩, List.mem_of_getElem? (i := 755) (by decide +kernel), List.mem_of_getElem? (i := 939) (by decide +kernel), List.mem_of_getElem? (i := 940) (by decide +kernel)⟩
theorem lw_p45 : lw_okq (⟨"RivalSorryModel", "begin", "()V"⟩, 19) := ⟨⟨by decide +kernel, by decide +kernel⟩, List.mem_of_getElem? (i := 755) (by decide +kernel), List.mem_of_getElem? (i := 967) (by decide +kernel), List.mem_of_getElem? (i := 968) (by decide +kernel)⟩
theorem lw_p46 : lw_okq (⟨"RivalSorryModel", "layMatch", "()V"⟩, 19) := ⟨⟨by decide +kernel, by decide +kernel⟩, List.mem_of_getElem? (i := 755) (by decide +kernel), List.mem_of_getElem? (i := 975) (by decide +kernel), List.mem_of_getElem? (i := 976) (by decide +kernel)⟩
theorem lw_p47 : lw_okq (⟨"RivalSorryModel", "worth", "(II)I"⟩, 19) := ⟨⟨by decide +kernel, by decide +kernel⟩, List.mem_of_getElem? (i := 755) (by decide +kernel), List.mem_of_getElem? (i := 982) (by decide +kernel), List.mem_of_getElem? (i := 983) (by decide +kernel)⟩
def lw_privs_3 : List (MethodName × Nat) := [(⟨"RivalSorry$Guess", "greatestPart", "(II)I"⟩, 3), (⟨"RivalSorry$Guess", "partLike", "(III)I"⟩, 3), (⟨"RivalSorryModel", "isRead", "()Z"⟩, 19), (⟨"RivalSorryModel", "isSign", "(I)Z"⟩, 19), (⟨"RivalSorryModel", "peek", "()I"⟩, 19), (⟨"RivalSorryModel", "figure", "(III)I"⟩, 19), (⟨"RivalSorryModel", "isPerson", "(I)Z"⟩, 19), (⟨"RivalSorryModel", "isWrongItem", "()Z"⟩, 19), (⟨"RivalSorryModel", "isOne", "(I)Z"⟩, 19), (⟨"RivalSorryModel", "isWrong", "(I)Z"⟩, 19), (⟨"RivalSorryModel", "whyNot", "(II)I"⟩, 19), (⟨"RivalSorryModel", "note", "()V"⟩, 19), (⟨"RivalSorryModel", "isThere", "()Z"⟩, 19), (⟨"RivalSorryModel", "begin", "()V"⟩, 19), (⟨"RivalSorryModel", "layMatch", "()V"⟩, 19), (⟨"RivalSorryModel", "worth", "(II)I"⟩, 19)]
theorem lw_r3 : ∀ q ∈ lw_privs_3, lw_okq q := List.forall_mem_cons.mpr ⟨lw_p32, List.forall_mem_cons.mpr ⟨lw_p33, List.forall_mem_cons.mpr ⟨lw_p34, List.forall_mem_cons.mpr ⟨lw_p35, List.forall_mem_cons.mpr ⟨lw_p36, List.forall_mem_cons.mpr ⟨lw_p37, List.forall_mem_cons.mpr ⟨lw_p38, List.forall_mem_cons.mpr ⟨lw_p39, List.forall_mem_cons.mpr ⟨lw_p40, List.forall_mem_cons.mpr ⟨lw_p41, List.forall_mem_cons.mpr ⟨lw_p42, List.forall_mem_cons.mpr ⟨lw_p43, List.forall_mem_cons.mpr ⟨lw_p44, List.forall_mem_cons.mpr ⟨lw_p45, List.forall_mem_cons.mpr ⟨lw_p46, List.forall_mem_cons.mpr ⟨lw_p47, fun _ h => absurd h List.not_mem_nil⟩⟩⟩⟩⟩⟩⟩⟩⟩⟩⟩⟩⟩⟩⟩⟩
theorem lw_p48 : lw_okq (⟨"RivalSorryModel", "matched", "(I)I"⟩, 19) := ⟨⟨by decide +kernel, by decide +kernel⟩, List.mem_of_getElem? (i := 755) (by decide +kernel), List.mem_of_getElem? (i := 986) (by decide +kernel), List.mem_of_getElem? (i := 987) (by decide +kernel)⟩
theorem lw_p49 : lw_okq (⟨"RivalSorryModel", "stepsTo", "(II)I"⟩, 19) := ⟨⟨by decide +kernel, by decide +kernel⟩, List.mem_of_getElem? (i := 755) (by decide +kernel), List.mem_of_getElem? (i := 994) (by decide +kernel), List.mem_of_getElem? (i := 995) (by decide +kernel)⟩
theorem lw_p50 : lw_okq (⟨"RivalSorryModel", "layPlan", "(I)V"⟩, 19) := ⟨⟨by decide +kernel, by decide +kernel⟩, List.mem_of_getElem? (i := 755) (by decide +kernel), List.mem_of_getElem? (i := 1006) (by decide +kernel), List.mem_of_getElem? (i := 1007) (by decide +kernel)⟩
theorem lw_p51 : lw_okq (⟨"RivalSorryModel", "planned", "(IIII)I"⟩, 19) := ⟨⟨by decide +kernel, by decide +kernel⟩, List.mem_of_getElem? (i := 755) (by decide +kernel), List.mem_of_getElem? (i := 1010) (by decide +kernel), List.mem_of_getElem? (i := 1011) (by decide +kernel)⟩
theorem lw_p52 : lw_okq (⟨"RivalSorryModel", "does", "(I)I"⟩, 19) := ⟨⟨by decide +kernel, by decide +kernel⟩, List.mem_of_getElem? (i := 755) (by decide +kernel), List.mem_of_getElem? (i := 1014) (by decide +kernel), List.mem_of_getElem? (i := 1015) (by decide +kernel)⟩
theorem lw_p53 : lw_okq (⟨"RivalSorryModel", "laySecond", "(II)V"⟩, 19) := ⟨⟨by decide +kernel, by decide +kernel⟩, List.mem_of_getElem? (i := 755) (by decide +kernel), List.mem_of_getElem? (i := 1018) (by decide +kernel), List.mem_of_getElem? (i := 1019) (by decide +kernel)⟩
theorem lw_p54 : lw_okq (⟨"RivalSorryModel", "layLast", "(III)V"⟩, 19) := ⟨⟨by decide +kernel, by decide +kernel⟩, List.mem_of_getElem? (i := 755) (by decide +kernel), List.mem_of_getElem? (i := 1022) (by decide +kernel), List.mem_of_getElem? (i := 1023) (by decide +kernel)⟩
theorem lw_p55 : lw_okq (⟨"RivalSorryModel", "take", "(IIII)V"⟩, 19) := ⟨⟨by decide +kernel, by decide +kernel⟩, List.mem_of_getElem? (i := 755) (by decide +kernel), List.mem_of_getElem? (i := 1026) (by decide +kernel), List.mem_of_getElem? (i := 1027) (by decide +kernel)⟩
theorem lw_p56 : lw_okq (⟨"RivalSorryModel", "nextCode", "(I)I"⟩, 19) := ⟨⟨by decide +kernel, by decide +kernel⟩, List.mem_of_getElem? (i := 755) (by decide +kernel), List.mem_of_getElem? (i := 1030) (by decide +kernel), List.mem_of_getElem? (i := 1031) (by decide +kernel)⟩
theorem lw_p57 : lw_okq (⟨"RivalSorryModel", "badRow", "(IIII)I"⟩, 19) := ⟨⟨by decide +kernel, by decide +kernel⟩, List.mem_of_getElem? (i := 755) (by decide +kernel), List.mem_of_getElem? (i := 1068) (by decide +kernel), List.mem_of_getElem? (i := 1069) (by decide +kernel)⟩
theorem lw_p58 : lw_okq (⟨"RivalSorryModel", "partsBy", "(IZIIIII)I"⟩, 19) := ⟨⟨by decide +kernel, by decide +kernel⟩, List.mem_of_getElem? (i := 755) (by decide +kernel), List.mem_of_getElem? (i := 1090) (by decide +kernel), List.mem_of_getElem? (i := 1091) (by decide +kernel)⟩
theorem lw_p59 : lw_okq (⟨"RivalSorryModel", "foundBy", "(IZIII)I"⟩, 19) := ⟨⟨by decide +kernel, by decide +kernel⟩, List.mem_of_getElem? (i := 755) (by decide +kernel), List.mem_of_getElem? (i := 1094) (by decide +kernel), List.mem_of_getElem? (i := 1095) (by decide +kernel)⟩
theorem lw_p60 : lw_okq (⟨"RivalSorryModel", "fitBy", "(IZII)I"⟩, 19) := ⟨⟨by decide +kernel, by decide +kernel⟩, List.mem_of_getElem? (i := 755) (by decide +kernel), List.mem_of_getElem? (i := 1099) (by decide +kernel), List.mem_of_getElem? (i := 1100) (by decide +kernel)⟩
theorem lw_p61 : lw_okq (⟨"RivalSorryModel", "saidAs", "(IZII)I"⟩, 19) := ⟨⟨by decide +kernel, by decide +kernel⟩, List.mem_of_getElem? (i := 755) (by decide +kernel), List.mem_of_getElem? (i := 1103) (by decide +kernel), List.mem_of_getElem? (i := 1104) (by decide +kernel)⟩
theorem lw_p62 : lw_okq (⟨"RivalSorryModel", "bestMiles", "(IZI)I"⟩, 19) := ⟨⟨by decide +kernel, by decide +kernel⟩, List.mem_of_getElem? (i := 755) (by decide +kernel), List.mem_of_getElem? (i := 1107) (by decide +kernel), List.mem_of_getElem? (i := 1108) (by decide +kernel)⟩
def lw_privs_4 : List (MethodName × Nat) := [(⟨"RivalSorryModel", "matched", "(I)I"⟩, 19), (⟨"RivalSorryModel", "stepsTo", "(II)I"⟩, 19), (⟨"RivalSorryModel", "layPlan", "(I)V"⟩, 19), (⟨"RivalSorryModel", "planned", "(IIII)I"⟩, 19), (⟨"RivalSorryModel", "does", "(I)I"⟩, 19), (⟨"RivalSorryModel", "laySecond", "(II)V"⟩, 19), (⟨"RivalSorryModel", "layLast", "(III)V"⟩, 19), (⟨"RivalSorryModel", "take", "(IIII)V"⟩, 19), (⟨"RivalSorryModel", "nextCode", "(I)I"⟩, 19), (⟨"RivalSorryModel", "badRow", "(IIII)I"⟩, 19), (⟨"RivalSorryModel", "partsBy", "(IZIIIII)I"⟩, 19), (⟨"RivalSorryModel", "foundBy", "(IZIII)I"⟩, 19), (⟨"RivalSorryModel", "fitBy", "(IZII)I"⟩, 19), (⟨"RivalSorryModel", "saidAs", "(IZII)I"⟩, 19), (⟨"RivalSorryModel", "bestMiles", "(IZI)I"⟩, 19)]
theorem lw_r4 : ∀ q ∈ lw_privs_4, lw_okq q := List.forall_mem_cons.mpr ⟨lw_p48, List.forall_mem_cons.mpr ⟨lw_p49, List.forall_mem_cons.mpr ⟨lw_p50, List.forall_mem_cons.mpr ⟨lw_p51, List.forall_mem_cons.mpr ⟨lw_p52, List.forall_mem_cons.mpr ⟨lw_p53, List.forall_mem_cons.mpr ⟨lw_p54, List.forall_mem_cons.mpr ⟨lw_p55, List.forall_mem_cons.mpr ⟨lw_p56, List.forall_mem_cons.mpr ⟨lw_p57, List.forall_mem_cons.mpr ⟨lw_p58, List.forall_mem_cons.mpr ⟨lw_p59, List.forall_mem_cons.mpr ⟨lw_p60, List.forall_mem_cons.mpr ⟨lw_p61, List.forall_mem_cons.mpr ⟨lw_p62, fun _ h => absurd h List.not_mem_nil⟩⟩⟩⟩⟩⟩⟩⟩⟩⟩⟩⟩⟩⟩⟩
def lw_privs : List (MethodName × Nat) := lw_privs_1 ++ (lw_privs_2 ++ (lw_privs_3 ++ (lw_privs_4)))
def lw_tbl : List Cond := k2_sels lw_privs ++ tables_1
theorem lw_privs_ok : ∀ q ∈ lw_privs, lw_okq q := by
  show ∀ q ∈ lw_privs_1 ++ (lw_privs_2 ++ (lw_privs_3 ++ (lw_privs_4))), lw_okq q
  exact List.forall_mem_append.mpr ⟨lw_r1, List.forall_mem_append.mpr ⟨lw_r2, List.forall_mem_append.mpr ⟨lw_r3, lw_r4⟩⟩⟩

def RX0 : String := "RivalSorry$Coast"
def TX0 : u_T := fun k => match k with
  | 0 => ("RivalSorry$Coast", "traits", "[I", true)
  | 1 => ("RivalSorry$Coast", "parts", "[I", true)
  | 2 => ("RivalSorry$Coast", "people", "I", false)
  | 3 => ("RivalSorry$Coast", "wrongs", "I", false)
  | _ => ("RivalSorry$Coast", "day", "I", false)
def tyX0 : Nat → FieldType := fun k => match k with
  | 0 => .array .int
  | 1 => .array .int
  | 2 => .int
  | 3 => .int
  | _ => .int
abbrev wsX00 : List Cond := u_ws RX0 TX0 5
theorem nmX0 : ∀ a, a < 5 → ∀ b, b < 5 → a ≠ b → (TX0 a).2.1 ≠ (TX0 b).2.1 := by decide +kernel
theorem tyX0_ok : ∀ k, k < 5 → parseFieldDescriptor (TX0 k).2.2.1 = some (tyX0 k) := by decide +kernel
abbrev cX0_init : ByteArray := prog_2_method_1_code
def yX0_init : MethodName := ⟨RX0, "<init>", "()V"⟩
abbrev cX0_clear : ByteArray := prog_2_method_2_code
def yX0_clear : MethodName := ⟨RX0, "clear", "()V"⟩
abbrev cX0_copyFrom : ByteArray := prog_2_method_3_code
def yX0_copyFrom : MethodName := ⟨RX0, "copyFrom", "(LRivalSorry$Coast;)V"⟩
abbrev cX0_stands : ByteArray := prog_2_method_4_code
def yX0_stands : MethodName := ⟨RX0, "stands", "()Z"⟩
abbrev cX0_people : ByteArray := prog_2_method_5_code
def yX0_people : MethodName := ⟨RX0, "people", "()I"⟩
abbrev cX0_wrongs : ByteArray := prog_2_method_6_code
def yX0_wrongs : MethodName := ⟨RX0, "wrongs", "()I"⟩
abbrev cX0_day : ByteArray := prog_2_method_7_code
def yX0_day : MethodName := ⟨RX0, "day", "()I"⟩
abbrev cX0_setDay : ByteArray := prog_2_method_8_code
def yX0_setDay : MethodName := ⟨RX0, "setDay", "(I)V"⟩
abbrev cX0_nextDay : ByteArray := prog_2_method_9_code
def yX0_nextDay : MethodName := ⟨RX0, "nextDay", "()V"⟩
abbrev cX0_hasPerson : ByteArray := prog_2_method_10_code
def yX0_hasPerson : MethodName := ⟨RX0, "hasPerson", "(I)Z"⟩
abbrev cX0_hasWrong : ByteArray := prog_2_method_11_code
def yX0_hasWrong : MethodName := ⟨RX0, "hasWrong", "(I)Z"⟩
abbrev cX0_trait : ByteArray := prog_2_method_12_code
def yX0_trait : MethodName := ⟨RX0, "trait", "(II)I"⟩
abbrev cX0_setTrait : ByteArray := prog_2_method_13_code
def yX0_setTrait : MethodName := ⟨RX0, "setTrait", "(III)V"⟩
abbrev cX0_part : ByteArray := prog_2_method_14_code
def yX0_part : MethodName := ⟨RX0, "part", "(II)I"⟩
abbrev cX0_setPart : ByteArray := prog_2_method_15_code
def yX0_setPart : MethodName := ⟨RX0, "setPart", "(III)V"⟩
abbrev cX0_addPerson : ByteArray := prog_2_method_16_code
def yX0_addPerson : MethodName := ⟨RX0, "addPerson", "(IIIII)V"⟩
abbrev cX0_addWrong : ByteArray := prog_2_method_17_code
def yX0_addWrong : MethodName := ⟨RX0, "addWrong", "(III)V"⟩
abbrev cX0_isOpen : ByteArray := prog_2_method_18_code
def yX0_isOpen : MethodName := ⟨RX0, "isOpen", "(I)Z"⟩
abbrev cX0_need : ByteArray := prog_2_method_19_code
def yX0_need : MethodName := ⟨RX0, "need", "(I)I"⟩
abbrev cX0_milesOf : ByteArray := prog_2_method_20_code
def yX0_milesOf : MethodName := ⟨RX0, "milesOf", "(II)I"⟩
abbrev cX0_saying : ByteArray := prog_2_method_21_code
def yX0_saying : MethodName := ⟨RX0, "saying", "(II)I"⟩
abbrev cX0_mayCarry : ByteArray := prog_2_method_22_code
def yX0_mayCarry : MethodName := ⟨RX0, "mayCarry", "(II)Z"⟩
abbrev cX0_outcome : ByteArray := prog_2_method_23_code
def yX0_outcome : MethodName := ⟨RX0, "outcome", "(II)I"⟩
abbrev cX0_deliver : ByteArray := prog_2_method_24_code
def yX0_deliver : MethodName := ⟨RX0, "deliver", "(II)I"⟩
abbrev cX0_leastSkill : ByteArray := prog_2_method_25_code
def yX0_leastSkill : MethodName := ⟨RX0, "leastSkill", "(II)I"⟩
abbrev cX0_wantedAfter : ByteArray := prog_2_method_26_code
def yX0_wantedAfter : MethodName := ⟨RX0, "wantedAfter", "(II)I"⟩
abbrev cX0_chainRound : ByteArray := prog_2_method_27_code
def yX0_chainRound : MethodName := ⟨RX0, "chainRound", "(I)I"⟩
abbrev cX0_chainAhead : ByteArray := prog_2_method_28_code
def yX0_chainAhead : MethodName := ⟨RX0, "chainAhead", "(I)I"⟩
abbrev cX0_forgiven : ByteArray := prog_2_method_29_code
def yX0_forgiven : MethodName := ⟨RX0, "forgiven", "()I"⟩
abbrev cX0_openSet : ByteArray := prog_2_method_30_code
def yX0_openSet : MethodName := ⟨RX0, "openSet", "()I"⟩
abbrev cX0_openWeight : ByteArray := prog_2_method_31_code
def yX0_openWeight : MethodName := ⟨RX0, "openWeight", "()I"⟩
abbrev cX0_wonSet : ByteArray := prog_2_method_32_code
def yX0_wonSet : MethodName := ⟨RX0, "wonSet", "()I"⟩
abbrev cX0_carriedByAll : ByteArray := prog_2_method_33_code
def yX0_carriedByAll : MethodName := ⟨RX0, "carriedByAll", "()I"⟩
def RX1 : String := "RivalSorry$Guess"
def TX1 : u_T := fun k => match k with
  | 0 => ("RivalSorry$Guess", "sayings", "[I", true)
  | 1 => ("RivalSorry$Guess", "first", "I", false)
  | _ => ("RivalSorry$Guess", "last", "I", false)
def tyX1 : Nat → FieldType := fun k => match k with
  | 0 => .array .int
  | 1 => .int
  | _ => .int
abbrev wsX10 : List Cond := u_ws RX1 TX1 3
theorem nmX1 : ∀ a, a < 3 → ∀ b, b < 3 → a ≠ b → (TX1 a).2.1 ≠ (TX1 b).2.1 := by decide +kernel
theorem tyX1_ok : ∀ k, k < 3 → parseFieldDescriptor (TX1 k).2.2.1 = some (tyX1 k) := by decide +kernel
abbrev cX1_init : ByteArray := prog_3_method_1_code
def yX1_init : MethodName := ⟨RX1, "<init>", "()V"⟩
abbrev cX1_amongSkills : ByteArray := prog_3_method_2_code
def yX1_amongSkills : MethodName := ⟨RX1, "amongSkills", "(LRivalSorry$Coast;I)V"⟩
abbrev cX1_amongKinds : ByteArray := prog_3_method_3_code
def yX1_amongKinds : MethodName := ⟨RX1, "amongKinds", "(LRivalSorry$Coast;I)V"⟩
abbrev cX1_answer : ByteArray := prog_3_method_4_code
def yX1_answer : MethodName := ⟨RX1, "answer", "(LRivalSorry$Sheet;III)I"⟩
abbrev cX1_fitting : ByteArray := prog_3_method_5_code
def yX1_fitting : MethodName := ⟨RX1, "fitting", "(LRivalSorry$Sheet;II)I"⟩
abbrev cX1_fits : ByteArray := prog_3_method_6_code
def yX1_fits : MethodName := ⟨RX1, "fits", "(ILRivalSorry$Sheet;II)Z"⟩
abbrev cX1_sayingAt : ByteArray := prog_3_method_7_code
def yX1_sayingAt : MethodName := ⟨RX1, "sayingAt", "(II)I"⟩
abbrev cX1_bestTry : ByteArray := prog_3_method_8_code
def yX1_bestTry : MethodName := ⟨RX1, "bestTry", "(I)I"⟩
abbrev cX1_greatestPart : ByteArray := prog_3_method_9_code
def yX1_greatestPart : MethodName := ⟨RX1, "greatestPart", "(II)I"⟩
abbrev cX1_partLike : ByteArray := prog_3_method_10_code
def yX1_partLike : MethodName := ⟨RX1, "partLike", "(III)I"⟩
def RX2 : String := "RivalSorry$Matching"
def TX2 : u_T := fun k => match k with
  | 0 => ("RivalSorry$Matching", "worth", "[I", true)
  | 1 => ("RivalSorry$Matching", "best", "[I", true)
  | 2 => ("RivalSorry$Matching", "carriers", "[I", true)
  | _ => ("RivalSorry$Matching", "forgiven", "I", false)
def tyX2 : Nat → FieldType := fun k => match k with
  | 0 => .array .int
  | 1 => .array .int
  | 2 => .array .int
  | _ => .int
abbrev wsX20 : List Cond := u_ws RX2 TX2 4
theorem nmX2 : ∀ a, a < 4 → ∀ b, b < 4 → a ≠ b → (TX2 a).2.1 ≠ (TX2 b).2.1 := by decide +kernel
theorem tyX2_ok : ∀ k, k < 4 → parseFieldDescriptor (TX2 k).2.2.1 = some (tyX2 k) := by decide +kernel
abbrev cX2_init : ByteArray := prog_4_method_1_code
def yX2_init : MethodName := ⟨RX2, "<init>", "()V"⟩
abbrev cX2_forgiven : ByteArray := prog_4_method_2_code
def yX2_forgiven : MethodName := ⟨RX2, "forgiven", "()I"⟩
abbrev cX2_carrierOf : ByteArray := prog_4_method_3_code
def yX2_carrierOf : MethodName := ⟨RX2, "carrierOf", "(I)I"⟩
abbrev cX2_settle : ByteArray := prog_4_method_4_code
def yX2_settle : MethodName := ⟨RX2, "settle", "(LRivalSorry$Coast;)V"⟩
abbrev cX2_weigh : ByteArray := prog_4_method_5_code
def yX2_weigh : MethodName := ⟨RX2, "weigh", "(LRivalSorry$Coast;)V"⟩
abbrev cX2_firstCarrier : ByteArray := prog_4_method_6_code
def yX2_firstCarrier : MethodName := ⟨RX2, "firstCarrier", "(II)I"⟩
abbrev cX2_worthOf : ByteArray := prog_4_method_7_code
def yX2_worthOf : MethodName := ⟨RX2, "worthOf", "(III)I"⟩
abbrev cX2_pairWorth : ByteArray := prog_4_method_8_code
def yX2_pairWorth : MethodName := ⟨RX2, "pairWorth", "(II)I"⟩
abbrev cX2_bestAt : ByteArray := prog_4_method_9_code
def yX2_bestAt : MethodName := ⟨RX2, "bestAt", "(II)I"⟩
abbrev cX2_setBest : ByteArray := prog_4_method_10_code
def yX2_setBest : MethodName := ⟨RX2, "setBest", "(III)V"⟩
abbrev cX2_choose : ByteArray := prog_4_method_11_code
def yX2_choose : MethodName := ⟨RX2, "choose", "(I)V"⟩
def RX3 : String := "RivalSorry$Past"
def TX3 : u_T := fun k => match k with
  | 0 => ("RivalSorry$Past", "ring", "[LRivalSorry$Coast;", true)
  | 1 => ("RivalSorry$Past", "next", "I", false)
  | _ => ("RivalSorry$Past", "acts", "I", false)
def tyX3 : Nat → FieldType := fun k => match k with
  | 0 => .array (.object "RivalSorry$Coast")
  | 1 => .int
  | _ => .int
abbrev wsX30 : List Cond := u_ws RX3 TX3 3
theorem nmX3 : ∀ a, a < 3 → ∀ b, b < 3 → a ≠ b → (TX3 a).2.1 ≠ (TX3 b).2.1 := by decide +kernel
theorem tyX3_ok : ∀ k, k < 3 → parseFieldDescriptor (TX3 k).2.2.1 = some (tyX3 k) := by decide +kernel
abbrev cX3_init : ByteArray := prog_5_method_1_code
def yX3_init : MethodName := ⟨RX3, "<init>", "()V"⟩
abbrev cX3_acts : ByteArray := prog_5_method_2_code
def yX3_acts : MethodName := ⟨RX3, "acts", "()I"⟩
abbrev cX3_forget : ByteArray := prog_5_method_3_code
def yX3_forget : MethodName := ⟨RX3, "forget", "()V"⟩
abbrev cX3_keep : ByteArray := prog_5_method_4_code
def yX3_keep : MethodName := ⟨RX3, "keep", "(LRivalSorry$Coast;)V"⟩
abbrev cX3_takeBack : ByteArray := prog_5_method_5_code
def yX3_takeBack : MethodName := ⟨RX3, "takeBack", "(LRivalSorry$Coast;)Z"⟩
abbrev cX3_at : ByteArray := prog_5_method_6_code
def yX3_at : MethodName := ⟨RX3, "at", "(I)LRivalSorry$Coast;"⟩
def RX4 : String := "RivalSorry$Planner"
def TX4 : u_T := fun k => match k with
  | 0 => ("RivalSorry$Planner", "tomorrows", "[LRivalSorry$Coast;", true)
  | _ => ("RivalSorry$Planner", "steps", "[I", true)
def tyX4 : Nat → FieldType := fun k => match k with
  | 0 => .array (.object "RivalSorry$Coast")
  | _ => .array .int
abbrev wsX40 : List Cond := u_ws RX4 TX4 2
theorem nmX4 : ∀ a, a < 2 → ∀ b, b < 2 → a ≠ b → (TX4 a).2.1 ≠ (TX4 b).2.1 := by decide +kernel
theorem tyX4_ok : ∀ k, k < 2 → parseFieldDescriptor (TX4 k).2.2.1 = some (tyX4 k) := by decide +kernel
abbrev cX4_init : ByteArray := prog_6_method_1_code
def yX4_init : MethodName := ⟨RX4, "<init>", "()V"⟩
abbrev cX4_step : ByteArray := prog_6_method_2_code
def yX4_step : MethodName := ⟨RX4, "step", "(I)I"⟩
abbrev cX4_bestFrom : ByteArray := prog_6_method_3_code
def yX4_bestFrom : MethodName := ⟨RX4, "bestFrom", "(LRivalSorry$Coast;II)I"⟩
abbrev cX4_bestBehind : ByteArray := prog_6_method_4_code
def yX4_bestBehind : MethodName := ⟨RX4, "bestBehind", "(LRivalSorry$Coast;III)I"⟩
abbrev cX4_gainOf : ByteArray := prog_6_method_5_code
def yX4_gainOf : MethodName := ⟨RX4, "gainOf", "(LRivalSorry$Coast;I)I"⟩
abbrev cX4_keep : ByteArray := prog_6_method_6_code
def yX4_keep : MethodName := ⟨RX4, "keep", "(II)V"⟩
def RX5 : String := "RivalSorry$Sheet"
def TX5 : u_T := fun k => match k with
  | 0 => ("RivalSorry$Sheet", "items", "[J", true)
  | 1 => ("RivalSorry$Sheet", "lane", "I", false)
  | _ => ("RivalSorry$Sheet", "size", "I", false)
def tyX5 : Nat → FieldType := fun k => match k with
  | 0 => .array .long
  | 1 => .int
  | _ => .int
abbrev wsX50 : List Cond := u_ws RX5 TX5 3
theorem nmX5 : ∀ a, a < 3 → ∀ b, b < 3 → a ≠ b → (TX5 a).2.1 ≠ (TX5 b).2.1 := by decide +kernel
theorem tyX5_ok : ∀ k, k < 3 → parseFieldDescriptor (TX5 k).2.2.1 = some (tyX5 k) := by decide +kernel
abbrev cX5_init : ByteArray := prog_7_method_1_code
def yX5_init : MethodName := ⟨RX5, "<init>", "()V"⟩
abbrev cX5_isNothing : ByteArray := prog_7_method_2_code
def yX5_isNothing : MethodName := ⟨RX5, "isNothing", "()Z"⟩
abbrev cX5_lane : ByteArray := prog_7_method_3_code
def yX5_lane : MethodName := ⟨RX5, "lane", "()I"⟩
abbrev cX5_lay : ByteArray := prog_7_method_4_code
def yX5_lay : MethodName := ⟨RX5, "lay", "(II)V"⟩
abbrev cX5_clear : ByteArray := prog_7_method_5_code
def yX5_clear : MethodName := ⟨RX5, "clear", "()I"⟩
abbrev cX5_holds : ByteArray := prog_7_method_6_code
def yX5_holds : MethodName := ⟨RX5, "holds", "(II)Z"⟩
abbrev cX5_get : ByteArray := prog_7_method_7_code
def yX5_get : MethodName := ⟨RX5, "get", "(I)J"⟩
abbrev cX5_put : ByteArray := prog_7_method_8_code
def yX5_put : MethodName := ⟨RX5, "put", "(IJ)V"⟩
abbrev cX5_take : ByteArray := prog_7_method_9_code
def yX5_take : MethodName := ⟨RX5, "take", "(LRivalSorry$Sheet;III)V"⟩
abbrev cX5_lowestBits : ByteArray := prog_7_method_10_code
def yX5_lowestBits : MethodName := ⟨RX5, "lowestBits", "(J)J"⟩
def RX6 : String := "RivalSorry$Tape"
def TX6 : u_T := fun k => match k with
  | 0 => ("RivalSorry$Tape", "bytes", "[I", true)
  | 1 => ("RivalSorry$Tape", "length", "I", false)
  | _ => ("RivalSorry$Tape", "place", "I", false)
def tyX6 : Nat → FieldType := fun k => match k with
  | 0 => .array .int
  | 1 => .int
  | _ => .int
abbrev wsX60 : List Cond := u_ws RX6 TX6 3
theorem nmX6 : ∀ a, a < 3 → ∀ b, b < 3 → a ≠ b → (TX6 a).2.1 ≠ (TX6 b).2.1 := by decide +kernel
theorem tyX6_ok : ∀ k, k < 3 → parseFieldDescriptor (TX6 k).2.2.1 = some (tyX6 k) := by decide +kernel
abbrev cX6_init : ByteArray := prog_8_method_1_code
def yX6_init : MethodName := ⟨RX6, "<init>", "()V"⟩
abbrev cX6_length : ByteArray := prog_8_method_2_code
def yX6_length : MethodName := ⟨RX6, "length", "()I"⟩
abbrev cX6_add : ByteArray := prog_8_method_3_code
def yX6_add : MethodName := ⟨RX6, "add", "(I)Z"⟩
abbrev cX6_clear : ByteArray := prog_8_method_4_code
def yX6_clear : MethodName := ⟨RX6, "clear", "()V"⟩
abbrev cX6_readInto : ByteArray := prog_8_method_5_code
def yX6_readInto : MethodName := ⟨RX6, "readInto", "(LRivalSorry$Coast;)I"⟩
abbrev cX6_peek : ByteArray := prog_8_method_6_code
def yX6_peek : MethodName := ⟨RX6, "peek", "()I"⟩
abbrev cX6_takeSign : ByteArray := prog_8_method_7_code
def yX6_takeSign : MethodName := ⟨RX6, "takeSign", "(I)Z"⟩
abbrev cX6_takeFigure : ByteArray := prog_8_method_8_code
def yX6_takeFigure : MethodName := ⟨RX6, "takeFigure", "(II)I"⟩
abbrev cX6_takeOther : ByteArray := prog_8_method_9_code
def yX6_takeOther : MethodName := ⟨RX6, "takeOther", "(II)I"⟩
abbrev cX6_takePeople : ByteArray := prog_8_method_10_code
def yX6_takePeople : MethodName := ⟨RX6, "takePeople", "(LRivalSorry$Coast;)Z"⟩
abbrev cX6_takePerson : ByteArray := prog_8_method_11_code
def yX6_takePerson : MethodName := ⟨RX6, "takePerson", "(LRivalSorry$Coast;II)Z"⟩
abbrev cX6_takeKind : ByteArray := prog_8_method_12_code
def yX6_takeKind : MethodName := ⟨RX6, "takeKind", "()I"⟩
abbrev cX6_kindOf : ByteArray := prog_8_method_13_code
def yX6_kindOf : MethodName := ⟨RX6, "kindOf", "(I)I"⟩
abbrev cX6_takeWrongs : ByteArray := prog_8_method_14_code
def yX6_takeWrongs : MethodName := ⟨RX6, "takeWrongs", "(LRivalSorry$Coast;)Z"⟩
abbrev cX6_takeWrong : ByteArray := prog_8_method_15_code
def yX6_takeWrong : MethodName := ⟨RX6, "takeWrong", "(LRivalSorry$Coast;)Z"⟩
abbrev cX6_takeDay : ByteArray := prog_8_method_16_code
def yX6_takeDay : MethodName := ⟨RX6, "takeDay", "(LRivalSorry$Coast;)Z"⟩
def RX7 : String := "RivalSorry"
def TX7 : u_T := fun k => match k with
  | 0 => ("RivalSorry", "tape", "LRivalSorry$Tape;", true)
  | 1 => ("RivalSorry", "coast", "LRivalSorry$Coast;", true)
  | 2 => ("RivalSorry", "scratch", "LRivalSorry$Coast;", true)
  | 3 => ("RivalSorry", "past", "LRivalSorry$Past;", true)
  | 4 => ("RivalSorry", "images", "[LRivalSorry$Coast;", true)
  | 5 => ("RivalSorry", "sheets", "[LRivalSorry$Sheet;", true)
  | 6 => ("RivalSorry", "matching", "LRivalSorry$Matching;", true)
  | 7 => ("RivalSorry", "planner", "LRivalSorry$Planner;", true)
  | _ => ("RivalSorry", "guess", "LRivalSorry$Guess;", true)
def tyX7 : Nat → FieldType := fun k => match k with
  | 0 => .object "RivalSorry$Tape"
  | 1 => .object "RivalSorry$Coast"
  | 2 => .object "RivalSorry$Coast"
  | 3 => .object "RivalSorry$Past"
  | 4 => .array (.object "RivalSorry$Coast")
  | 5 => .array (.object "RivalSorry$Sheet")
  | 6 => .object "RivalSorry$Matching"
  | 7 => .object "RivalSorry$Planner"
  | _ => .object "RivalSorry$Guess"
abbrev wsX70 : List Cond := u_ws RX7 TX7 9
theorem nmX7 : ∀ a, a < 9 → ∀ b, b < 9 → a ≠ b → (TX7 a).2.1 ≠ (TX7 b).2.1 := by decide +kernel
theorem tyX7_ok : ∀ k, k < 9 → parseFieldDescriptor (TX7 k).2.2.1 = some (tyX7 k) := by decide +kernel
abbrev cX7_init : ByteArray := prog_1_method_1_code
def yX7_init : MethodName := ⟨RX7, "<init>", "()V"⟩
abbrev cX7_feed : ByteArray := prog_1_method_2_code
def yX7_feed : MethodName := ⟨RX7, "feed", "(I)I"⟩
abbrev cX7_coast : ByteArray := prog_1_method_3_code
def yX7_coast : MethodName := ⟨RX7, "coast", "()I"⟩
abbrev cX7_person : ByteArray := prog_1_method_4_code
def yX7_person : MethodName := ⟨RX7, "person", "(II)I"⟩
abbrev cX7_as : ByteArray := prog_1_method_5_code
def yX7_as : MethodName := ⟨RX7, "as", "(II)I"⟩
abbrev cX7_wrong : ByteArray := prog_1_method_6_code
def yX7_wrong : MethodName := ⟨RX7, "wrong", "(II)I"⟩
abbrev cX7_carry : ByteArray := prog_1_method_7_code
def yX7_carry : MethodName := ⟨RX7, "carry", "(II)I"⟩
abbrev cX7_lend : ByteArray := prog_1_method_8_code
def yX7_lend : MethodName := ⟨RX7, "lend", "(II)I"⟩
abbrev cX7_sin : ByteArray := prog_1_method_9_code
def yX7_sin : MethodName := ⟨RX7, "sin", "(III)I"⟩
abbrev cX7_harden : ByteArray := prog_1_method_10_code
def yX7_harden : MethodName := ⟨RX7, "harden", "(II)I"⟩
abbrev cX7_pass : ByteArray := prog_1_method_11_code
def yX7_pass : MethodName := ⟨RX7, "pass", "()I"⟩
abbrev cX7_undo : ByteArray := prog_1_method_12_code
def yX7_undo : MethodName := ⟨RX7, "undo", "()I"⟩
abbrev cX7_image : ByteArray := prog_1_method_13_code
def yX7_image : MethodName := ⟨RX7, "image", "(I)I"⟩
abbrev cX7_restore : ByteArray := prog_1_method_14_code
def yX7_restore : MethodName := ⟨RX7, "restore", "(I)I"⟩
abbrev cX7_said : ByteArray := prog_1_method_15_code
def yX7_said : MethodName := ⟨RX7, "said", "(II)I"⟩
abbrev cX7_comes : ByteArray := prog_1_method_16_code
def yX7_comes : MethodName := ⟨RX7, "comes", "(II)I"⟩
abbrev cX7_least : ByteArray := prog_1_method_17_code
def yX7_least : MethodName := ⟨RX7, "least", "(II)I"⟩
abbrev cX7_match : ByteArray := prog_1_method_18_code
def yX7_match : MethodName := ⟨RX7, "match", "(I)I"⟩
abbrev cX7_chain : ByteArray := prog_1_method_19_code
def yX7_chain : MethodName := ⟨RX7, "chain", "(II)I"⟩
abbrev cX7_reach : ByteArray := prog_1_method_20_code
def yX7_reach : MethodName := ⟨RX7, "reach", "(II)I"⟩
abbrev cX7_plan : ByteArray := prog_1_method_21_code
def yX7_plan : MethodName := ⟨RX7, "plan", "(II)I"⟩
abbrev cX7_gusts : ByteArray := prog_1_method_22_code
def yX7_gusts : MethodName := ⟨RX7, "gusts", "(IIII)I"⟩
abbrev cX7_decades : ByteArray := prog_1_method_23_code
def yX7_decades : MethodName := ⟨RX7, "decades", "(III)I"⟩
abbrev cX7_sheet : ByteArray := prog_1_method_24_code
def yX7_sheet : MethodName := ⟨RX7, "sheet", "(III)I"⟩
abbrev cX7_drop : ByteArray := prog_1_method_25_code
def yX7_drop : MethodName := ⟨RX7, "drop", "(I)I"⟩
abbrev cX7_item : ByteArray := prog_1_method_26_code
def yX7_item : MethodName := ⟨RX7, "item", "(IIIJ)J"⟩
abbrev cX7_copy : ByteArray := prog_1_method_27_code
def yX7_copy : MethodName := ⟨RX7, "copy", "(IIIII)I"⟩
abbrev cX7_log : ByteArray := prog_1_method_28_code
def yX7_log : MethodName := ⟨RX7, "log", "(IIII)I"⟩
abbrev cX7_skills : ByteArray := prog_1_method_29_code
def yX7_skills : MethodName := ⟨RX7, "skills", "(IIIIII)I"⟩
abbrev cX7_kinds : ByteArray := prog_1_method_30_code
def yX7_kinds : MethodName := ⟨RX7, "kinds", "(IIIIII)I"⟩
abbrev cX7_count : ByteArray := prog_1_method_31_code
def yX7_count : MethodName := ⟨RX7, "count", "(I)I"⟩
abbrev cX7_refuseCarrying : ByteArray := prog_1_method_32_code
def yX7_refuseCarrying : MethodName := ⟨RX7, "refuseCarrying", "(II)I"⟩
abbrev cX7_change : ByteArray := prog_1_method_33_code
def yX7_change : MethodName := ⟨RX7, "change", "(III)I"⟩
abbrev cX7_imageAt : ByteArray := prog_1_method_34_code
def yX7_imageAt : MethodName := ⟨RX7, "imageAt", "(I)LRivalSorry$Coast;"⟩
abbrev cX7_sheetAt : ByteArray := prog_1_method_35_code
def yX7_sheetAt : MethodName := ⟨RX7, "sheetAt", "(I)LRivalSorry$Sheet;"⟩
abbrev cX7_isLane : ByteArray := prog_1_method_36_code
def yX7_isLane : MethodName := ⟨RX7, "isLane", "(I)Z"⟩
abbrev cX7_refuseRow : ByteArray := prog_1_method_37_code
def yX7_refuseRow : MethodName := ⟨RX7, "refuseRow", "(LRivalSorry$Sheet;I)I"⟩
abbrev cX7_refusePairs : ByteArray := prog_1_method_38_code
def yX7_refusePairs : MethodName := ⟨RX7, "refusePairs", "(IIIIII)I"⟩
abbrev cX7_isUnder : ByteArray := prog_1_method_39_code
def yX7_isUnder : MethodName := ⟨RX7, "isUnder", "(II)Z"⟩
abbrev cX7_sayingOf : ByteArray := prog_1_method_40_code
def yX7_sayingOf : MethodName := ⟨RX7, "sayingOf", "(IIII)I"⟩
abbrev cX7_stingOf : ByteArray := prog_1_method_41_code
def yX7_stingOf : MethodName := ⟨RX7, "stingOf", "(I)I"⟩
abbrev cX7_isBarred : ByteArray := prog_1_method_42_code
def yX7_isBarred : MethodName := ⟨RX7, "isBarred", "(III)Z"⟩
abbrev cX7_daysToReach : ByteArray := prog_1_method_43_code
def yX7_daysToReach : MethodName := ⟨RX7, "daysToReach", "(III)I"⟩
abbrev cX7_reachedNext : ByteArray := prog_1_method_44_code
def yX7_reachedNext : MethodName := ⟨RX7, "reachedNext", "(II)I"⟩
abbrev cX7_waysOfGusts : ByteArray := prog_1_method_45_code
def yX7_waysOfGusts : MethodName := ⟨RX7, "waysOfGusts", "(II)I"⟩
abbrev cX7_commonDivisor : ByteArray := prog_1_method_46_code
def yX7_commonDivisor : MethodName := ⟨RX7, "commonDivisor", "(II)I"⟩
abbrev cX7_drawDays : ByteArray := prog_1_method_47_code
def yX7_drawDays : MethodName := ⟨RX7, "drawDays", "(LRivalSorry$Coast;II)V"⟩
def RX8 : String := "RivalSorryModel"
def TX8 : u_T := fun k => match k with
  | 0 => ("RivalSorryModel", "lane", "[I", true)
  | 1 => ("RivalSorryModel", "size", "[I", true)
  | 2 => ("RivalSorryModel", "item", "[J", true)
  | 3 => ("RivalSorryModel", "letters", "I", false)
  | 4 => ("RivalSorryModel", "tape", "[I", true)
  | 5 => ("RivalSorryModel", "position", "I", false)
  | 6 => ("RivalSorryModel", "now", "[I", true)
  | 7 => ("RivalSorryModel", "read", "[I", true)
  | 8 => ("RivalSorryModel", "tried", "[I", true)
  | 9 => ("RivalSorryModel", "image", "[I", true)
  | 10 => ("RivalSorryModel", "isKept", "[Z", true)
  | 11 => ("RivalSorryModel", "actOf", "[I", true)
  | 12 => ("RivalSorryModel", "acts", "I", false)
  | 13 => ("RivalSorryModel", "best", "[I", true)
  | 14 => ("RivalSorryModel", "reached", "[I", true)
  | 15 => ("RivalSorryModel", "then", "[I", true)
  | 16 => ("RivalSorryModel", "plan", "[I", true)
  | 17 => ("RivalSorryModel", "planMany", "I", false)
  | _ => ("RivalSorryModel", "parted", "[I", true)
def tyX8 : Nat → FieldType := fun k => match k with
  | 0 => .array .int
  | 1 => .array .int
  | 2 => .array .long
  | 3 => .int
  | 4 => .array .int
  | 5 => .int
  | 6 => .array .int
  | 7 => .array .int
  | 8 => .array .int
  | 9 => .array .int
  | 10 => .array .boolean
  | 11 => .array .int
  | 12 => .int
  | 13 => .array .int
  | 14 => .array .int
  | 15 => .array .int
  | 16 => .array .int
  | 17 => .int
  | _ => .array .int
abbrev wsX80 : List Cond := u_ws RX8 TX8 19
theorem nmX8 : ∀ a, a < 19 → ∀ b, b < 19 → a ≠ b → (TX8 a).2.1 ≠ (TX8 b).2.1 := by decide +kernel
theorem tyX8_ok : ∀ k, k < 19 → parseFieldDescriptor (TX8 k).2.2.1 = some (tyX8 k) := by decide +kernel
abbrev cX8_init : ByteArray := prog_10_method_1_code
def yX8_init : MethodName := ⟨RX8, "<init>", "()V"⟩
abbrev cX8_in : ByteArray := prog_10_method_2_code
def yX8_in : MethodName := ⟨RX8, "in", "(III)Z"⟩
abbrev cX8_has : ByteArray := prog_10_method_3_code
def yX8_has : MethodName := ⟨RX8, "has", "(II)Z"⟩
abbrev cX8_bring : ByteArray := prog_10_method_4_code
def yX8_bring : MethodName := ⟨RX8, "bring", "([II[III)V"⟩
abbrev cX8_isThere : ByteArray := prog_10_method_5_code
def yX8_isThere : MethodName := ⟨RX8, "isThere", "()Z"⟩
abbrev cX8_isOne : ByteArray := prog_10_method_6_code
def yX8_isOne : MethodName := ⟨RX8, "isOne", "(I)Z"⟩
abbrev cX8_isWrong : ByteArray := prog_10_method_7_code
def yX8_isWrong : MethodName := ⟨RX8, "isWrong", "(I)Z"⟩
abbrev cX8_feed : ByteArray := prog_10_method_8_code
def yX8_feed : MethodName := ⟨RX8, "feed", "(I)I"⟩
abbrev cX8_peek : ByteArray := prog_10_method_9_code
def yX8_peek : MethodName := ⟨RX8, "peek", "()I"⟩
abbrev cX8_isSign : ByteArray := prog_10_method_10_code
def yX8_isSign : MethodName := ⟨RX8, "isSign", "(I)Z"⟩
abbrev cX8_kindBy : ByteArray := prog_10_method_11_code
def yX8_kindBy : MethodName := ⟨RX8, "kindBy", "(I)I"⟩
abbrev cX8_figure : ByteArray := prog_10_method_12_code
def yX8_figure : MethodName := ⟨RX8, "figure", "(III)I"⟩
abbrev cX8_isPerson : ByteArray := prog_10_method_13_code
def yX8_isPerson : MethodName := ⟨RX8, "isPerson", "(I)Z"⟩
abbrev cX8_addWrong : ByteArray := prog_10_method_14_code
def yX8_addWrong : MethodName := ⟨RX8, "addWrong", "([IIII)I"⟩
abbrev cX8_isWrongItem : ByteArray := prog_10_method_15_code
def yX8_isWrongItem : MethodName := ⟨RX8, "isWrongItem", "()Z"⟩
abbrev cX8_isRead : ByteArray := prog_10_method_16_code
def yX8_isRead : MethodName := ⟨RX8, "isRead", "()Z"⟩
abbrev cX8_coast : ByteArray := prog_10_method_17_code
def yX8_coast : MethodName := ⟨RX8, "coast", "()I"⟩
abbrev cX8_person : ByteArray := prog_10_method_18_code
def yX8_person : MethodName := ⟨RX8, "person", "(II)I"⟩
abbrev cX8_as : ByteArray := prog_10_method_19_code
def yX8_as : MethodName := ⟨RX8, "as", "(II)I"⟩
abbrev cX8_needOf : ByteArray := prog_10_method_20_code
def yX8_needOf : MethodName := ⟨RX8, "needOf", "([II)I"⟩
abbrev cX8_wrong : ByteArray := prog_10_method_21_code
def yX8_wrong : MethodName := ⟨RX8, "wrong", "(II)I"⟩
abbrev cX8_milesOf : ByteArray := prog_10_method_22_code
def yX8_milesOf : MethodName := ⟨RX8, "milesOf", "(II)I"⟩
abbrev cX8_isOverSands : ByteArray := prog_10_method_23_code
def yX8_isOverSands : MethodName := ⟨RX8, "isOverSands", "(II)Z"⟩
abbrev cX8_isMay : ByteArray := prog_10_method_24_code
def yX8_isMay : MethodName := ⟨RX8, "isMay", "([III)Z"⟩
abbrev cX8_saidBy : ByteArray := prog_10_method_25_code
def yX8_saidBy : MethodName := ⟨RX8, "saidBy", "(IIII)I"⟩
abbrev cX8_saidOf : ByteArray := prog_10_method_26_code
def yX8_saidOf : MethodName := ⟨RX8, "saidOf", "([III)I"⟩
abbrev cX8_stings : ByteArray := prog_10_method_27_code
def yX8_stings : MethodName := ⟨RX8, "stings", "(I)I"⟩
abbrev cX8_comesOf : ByteArray := prog_10_method_28_code
def yX8_comesOf : MethodName := ⟨RX8, "comesOf", "([III)I"⟩
abbrev cX8_carries : ByteArray := prog_10_method_29_code
def yX8_carries : MethodName := ⟨RX8, "carries", "([III)I"⟩
abbrev cX8_note : ByteArray := prog_10_method_30_code
def yX8_note : MethodName := ⟨RX8, "note", "()V"⟩
abbrev cX8_whyNot : ByteArray := prog_10_method_31_code
def yX8_whyNot : MethodName := ⟨RX8, "whyNot", "(II)I"⟩
abbrev cX8_carry : ByteArray := prog_10_method_32_code
def yX8_carry : MethodName := ⟨RX8, "carry", "(II)I"⟩
abbrev cX8_lend : ByteArray := prog_10_method_33_code
def yX8_lend : MethodName := ⟨RX8, "lend", "(II)I"⟩
abbrev cX8_sin : ByteArray := prog_10_method_34_code
def yX8_sin : MethodName := ⟨RX8, "sin", "(III)I"⟩
abbrev cX8_harden : ByteArray := prog_10_method_35_code
def yX8_harden : MethodName := ⟨RX8, "harden", "(II)I"⟩
abbrev cX8_pass : ByteArray := prog_10_method_36_code
def yX8_pass : MethodName := ⟨RX8, "pass", "()I"⟩
abbrev cX8_undo : ByteArray := prog_10_method_37_code
def yX8_undo : MethodName := ⟨RX8, "undo", "()I"⟩
abbrev cX8_image : ByteArray := prog_10_method_38_code
def yX8_image : MethodName := ⟨RX8, "image", "(I)I"⟩
abbrev cX8_restore : ByteArray := prog_10_method_39_code
def yX8_restore : MethodName := ⟨RX8, "restore", "(I)I"⟩
abbrev cX8_begin : ByteArray := prog_10_method_40_code
def yX8_begin : MethodName := ⟨RX8, "begin", "()V"⟩
abbrev cX8_said : ByteArray := prog_10_method_41_code
def yX8_said : MethodName := ⟨RX8, "said", "(II)I"⟩
abbrev cX8_comes : ByteArray := prog_10_method_42_code
def yX8_comes : MethodName := ⟨RX8, "comes", "(II)I"⟩
abbrev cX8_least : ByteArray := prog_10_method_43_code
def yX8_least : MethodName := ⟨RX8, "least", "(II)I"⟩
abbrev cX8_worth : ByteArray := prog_10_method_44_code
def yX8_worth : MethodName := ⟨RX8, "worth", "(II)I"⟩
abbrev cX8_layMatch : ByteArray := prog_10_method_45_code
def yX8_layMatch : MethodName := ⟨RX8, "layMatch", "()V"⟩
abbrev cX8_matched : ByteArray := prog_10_method_46_code
def yX8_matched : MethodName := ⟨RX8, "matched", "(I)I"⟩
abbrev cX8_match : ByteArray := prog_10_method_47_code
def yX8_match : MethodName := ⟨RX8, "match", "(I)I"⟩
abbrev cX8_stepsTo : ByteArray := prog_10_method_48_code
def yX8_stepsTo : MethodName := ⟨RX8, "stepsTo", "(II)I"⟩
abbrev cX8_chain : ByteArray := prog_10_method_49_code
def yX8_chain : MethodName := ⟨RX8, "chain", "(II)I"⟩
abbrev cX8_reach : ByteArray := prog_10_method_50_code
def yX8_reach : MethodName := ⟨RX8, "reach", "(II)I"⟩
abbrev cX8_does : ByteArray := prog_10_method_51_code
def yX8_does : MethodName := ⟨RX8, "does", "(I)I"⟩
abbrev cX8_nextCode : ByteArray := prog_10_method_52_code
def yX8_nextCode : MethodName := ⟨RX8, "nextCode", "(I)I"⟩
abbrev cX8_planned : ByteArray := prog_10_method_53_code
def yX8_planned : MethodName := ⟨RX8, "planned", "(IIII)I"⟩
abbrev cX8_take : ByteArray := prog_10_method_54_code
def yX8_take : MethodName := ⟨RX8, "take", "(IIII)V"⟩
abbrev cX8_layLast : ByteArray := prog_10_method_55_code
def yX8_layLast : MethodName := ⟨RX8, "layLast", "(III)V"⟩
abbrev cX8_laySecond : ByteArray := prog_10_method_56_code
def yX8_laySecond : MethodName := ⟨RX8, "laySecond", "(II)V"⟩
abbrev cX8_layPlan : ByteArray := prog_10_method_57_code
def yX8_layPlan : MethodName := ⟨RX8, "layPlan", "(I)V"⟩
abbrev cX8_plan : ByteArray := prog_10_method_58_code
def yX8_plan : MethodName := ⟨RX8, "plan", "(II)I"⟩
abbrev cX8_gusts : ByteArray := prog_10_method_59_code
def yX8_gusts : MethodName := ⟨RX8, "gusts", "(IIII)I"⟩
abbrev cX8_forgivenOnes : ByteArray := prog_10_method_60_code
def yX8_forgivenOnes : MethodName := ⟨RX8, "forgivenOnes", "([I)I"⟩
abbrev cX8_wonOnes : ByteArray := prog_10_method_61_code
def yX8_wonOnes : MethodName := ⟨RX8, "wonOnes", "([I)I"⟩
abbrev cX8_decades : ByteArray := prog_10_method_62_code
def yX8_decades : MethodName := ⟨RX8, "decades", "(III)I"⟩
abbrev cX8_isSheet : ByteArray := prog_10_method_63_code
def yX8_isSheet : MethodName := ⟨RX8, "isSheet", "(I)Z"⟩
abbrev cX8_isPart : ByteArray := prog_10_method_64_code
def yX8_isPart : MethodName := ⟨RX8, "isPart", "(III)Z"⟩
abbrev cX8_badRow : ByteArray := prog_10_method_65_code
def yX8_badRow : MethodName := ⟨RX8, "badRow", "(IIII)I"⟩
abbrev cX8_sheet : ByteArray := prog_10_method_66_code
def yX8_sheet : MethodName := ⟨RX8, "sheet", "(III)I"⟩
abbrev cX8_drop : ByteArray := prog_10_method_67_code
def yX8_drop : MethodName := ⟨RX8, "drop", "(I)I"⟩
abbrev cX8_item : ByteArray := prog_10_method_68_code
def yX8_item : MethodName := ⟨RX8, "item", "(IIIJ)J"⟩
abbrev cX8_copy : ByteArray := prog_10_method_69_code
def yX8_copy : MethodName := ⟨RX8, "copy", "(IIIII)I"⟩
abbrev cX8_cutTo : ByteArray := prog_10_method_70_code
def yX8_cutTo : MethodName := ⟨RX8, "cutTo", "(IJ)J"⟩
abbrev cX8_log : ByteArray := prog_10_method_71_code
def yX8_log : MethodName := ⟨RX8, "log", "(IIII)I"⟩
abbrev cX8_saidAs : ByteArray := prog_10_method_72_code
def yX8_saidAs : MethodName := ⟨RX8, "saidAs", "(IZII)I"⟩
abbrev cX8_fitBy : ByteArray := prog_10_method_73_code
def yX8_fitBy : MethodName := ⟨RX8, "fitBy", "(IZII)I"⟩
abbrev cX8_bestMiles : ByteArray := prog_10_method_74_code
def yX8_bestMiles : MethodName := ⟨RX8, "bestMiles", "(IZI)I"⟩
abbrev cX8_foundBy : ByteArray := prog_10_method_75_code
def yX8_foundBy : MethodName := ⟨RX8, "foundBy", "(IZIII)I"⟩
abbrev cX8_partsBy : ByteArray := prog_10_method_76_code
def yX8_partsBy : MethodName := ⟨RX8, "partsBy", "(IZIIIII)I"⟩
abbrev cX8_skills : ByteArray := prog_10_method_77_code
def yX8_skills : MethodName := ⟨RX8, "skills", "(IIIIII)I"⟩
abbrev cX8_kinds : ByteArray := prog_10_method_78_code
def yX8_kinds : MethodName := ⟨RX8, "kinds", "(IIIIII)I"⟩
abbrev cX8_count : ByteArray := prog_10_method_79_code
def yX8_count : MethodName := ⟨RX8, "count", "(I)I"⟩
def RJ6 : String := "java/lang/Integer"
def TJ6 : u_T := fun k => match k with
  | _ => ("", "", "", false)
def tyJ6 : Nat → FieldType := fun k => match k with
  | _ => .int
abbrev wsJ60 : List Cond := u_ws RJ6 TJ6 0
theorem nmJ6 : ∀ a, a < 0 → ∀ b, b < 0 → a ≠ b → (TJ6 a).2.1 ≠ (TJ6 b).2.1 := by decide +kernel
theorem tyJ6_ok : ∀ k, k < 0 → parseFieldDescriptor (TJ6 k).2.2.1 = some (tyJ6 k) := by decide +kernel
abbrev cJ6_bitCount_0f7a4 : ByteArray := prog_11_method_49_code
def yJ6_bitCount_0f7a4 : MethodName := ⟨RJ6, "bitCount", "(I)I"⟩
def RJ9 : String := "java/lang/Math"
def TJ9 : u_T := fun k => match k with
  | _ => ("", "", "", false)
def tyJ9 : Nat → FieldType := fun k => match k with
  | _ => .int
abbrev wsJ90 : List Cond := u_ws RJ9 TJ9 0
theorem nmJ9 : ∀ a, a < 0 → ∀ b, b < 0 → a ≠ b → (TJ9 a).2.1 ≠ (TJ9 b).2.1 := by decide +kernel
theorem tyJ9_ok : ∀ k, k < 0 → parseFieldDescriptor (TJ9 k).2.2.1 = some (tyJ9 k) := by decide +kernel
abbrev cJ9_abs_0f7a4 : ByteArray := prog_12_method_59_code
def yJ9_abs_0f7a4 : MethodName := ⟨RJ9, "abs", "(I)I"⟩
abbrev cJ9_max_7cf53 : ByteArray := prog_12_method_65_code
def yJ9_max_7cf53 : MethodName := ⟨RJ9, "max", "(II)I"⟩
abbrev cJ9_min_7cf53 : ByteArray := prog_12_method_69_code
def yJ9_min_7cf53 : MethodName := ⟨RJ9, "min", "(II)I"⟩
def RJ10 : String := "java/lang/System"
def TJ10 : u_T := fun k => match k with
  | _ => ("", "", "", false)
def tyJ10 : Nat → FieldType := fun k => match k with
  | _ => .int
abbrev wsJ100 : List Cond := u_ws RJ10 TJ10 0
theorem nmJ10 : ∀ a, a < 0 → ∀ b, b < 0 → a ≠ b → (TJ10 a).2.1 ≠ (TJ10 b).2.1 := by decide +kernel
theorem tyJ10_ok : ∀ k, k < 0 → parseFieldDescriptor (TJ10 k).2.2.1 = some (tyJ10 k) := by decide +kernel
def RJ7 : String := "java/util/Arrays"
def TJ7 : u_T := fun k => match k with
  | _ => ("", "", "", false)
def tyJ7 : Nat → FieldType := fun k => match k with
  | _ => .int
abbrev wsJ70 : List Cond := u_ws RJ7 TJ7 0
theorem nmJ7 : ∀ a, a < 0 → ∀ b, b < 0 → a ≠ b → (TJ7 a).2.1 ≠ (TJ7 b).2.1 := by decide +kernel
theorem tyJ7_ok : ∀ k, k < 0 → parseFieldDescriptor (TJ7 k).2.2.1 = some (tyJ7 k) := by decide +kernel
abbrev cJ7_fill_d0a16 : ByteArray := prog_14_method_101_code
def yJ7_fill_d0a16 : MethodName := ⟨RJ7, "fill", "([JJ)V"⟩
abbrev cJ7_fill_53178 : ByteArray := prog_14_method_103_code
def yJ7_fill_53178 : MethodName := ⟨RJ7, "fill", "([II)V"⟩
def RL : String := "RivalSorryLaw"
abbrev cL_law : ByteArray := code
def yL_law : MethodName := ⟨RL, "law", "([I)Z"⟩
abbrev vwCl : List vw_C := [(RX0, TX0, 5), (RX1, TX1, 3), (RX2, TX2, 4), (RX3, TX3, 3), (RX4, TX4, 2), (RX5, TX5, 3), (RX6, TX6, 3), (RX7, TX7, 9), (RX8, TX8, 19)]

section
/-- a private method of a class that the tables say can be made, by its rows of tables_1 -/
def lw_okq (q : MethodName × Nat) : Prop := (q.1.cls ≠ "java/lang/invoke/MethodHandle" ∧ q.1.cls ≠ "java/lang/invoke/VarHandle") ∧ Cond.instantiable q.1.cls q.2 ∈ tables_1 ∧ Cond.privateMethod q.1 ∈ tables_1 ∧ Cond.instanceMethod q.1 ∈ tables_1
theorem lw_p0 : lw_okq (⟨"RivalSorry$Tape", "takeSign", "(I)Z"⟩, 3) := ⟨⟨by decide +kernel, by decide +kernel⟩, List.mem_of_getElem? (i := 23) (by decide +kernel), List.mem_of_getElem? (i := 201) (by decide +kernel), List.mem_of_getElem? (i := 202) (by decide +kernel)⟩
theorem lw_p1 : lw_okq (⟨"RivalSorry$Tape", "peek", "()I"⟩, 3) := ⟨⟨by decide +kernel, by decide +kernel⟩, List.mem_of_getElem? (i := 23) (by decide +kernel), List.mem_of_getElem? (i := 205) (by decide +kernel), List.mem_of_getElem? (i := 206) (by decide +kernel)⟩
theorem lw_p2 : lw_okq (⟨"RivalSorry$Tape", "takePeople", "(LRivalSorry$Coast;)Z"⟩, 3) := ⟨⟨by decide +kernel, by decide +kernel⟩, List.mem_of_getElem? (i := 23) (by decide +kernel), List.mem_of_getElem? (i := 209) (by decide +kernel), List.mem_of_getElem? (i := 210) (by decide +kernel)⟩
theorem lw_p3 : lw_okq (⟨"RivalSorry$Tape", "takeFigure", "(II)I"⟩, 3) := ⟨⟨by decide +kernel, by decide +kernel⟩, List.mem_of_getElem? (i := 23) (by decide +kernel), List.mem_of_getElem? (i := 213) (by decide +kernel), List.mem_of_getElem? (i := 214) (by decide +kernel)⟩
theorem lw_p4 : lw_okq (⟨"RivalSorry$Tape", "takePerson", "(LRivalSorry$Coast;II)Z"⟩, 3) := ⟨⟨by decide +kernel, by decide +kernel⟩, List.mem_of_getElem? (i := 23) (by decide +kernel), List.mem_of_getElem? (i := 217) (by decide +kernel), List.mem_of_getElem? (i := 218) (by decide +kernel)⟩
theorem lw_p5 : lw_okq (⟨"RivalSorry$Tape", "takeKind", "()I"⟩, 3) := ⟨⟨by decide +kernel, by decide +kernel⟩, List.mem_of_getElem? (i := 23) (by decide +kernel), List.mem_of_getElem? (i := 221) (by decide +kernel), List.mem_of_getElem? (i := 222) (by decide +kernel)⟩
theorem lw_p6 : lw_okq (⟨"RivalSorry$Tape", "takeOther", "(II)I"⟩, 3) := ⟨⟨by decide +kernel, by decide +kernel⟩, List.mem_of_getElem? (i := 23) (by decide +kernel), List.mem_of_getElem? (i := 228) (by decide +kernel), List.mem_of_getElem? (i := 229) (by decide +kernel)⟩
theorem lw_p7 : lw_okq (⟨"RivalSorry$Tape", "takeWrongs", "(LRivalSorry$Coast;)Z"⟩, 3) := ⟨⟨by decide +kernel, by decide +kernel⟩, List.mem_of_getElem? (i := 23) (by decide +kernel), List.mem_of_getElem? (i := 240) (by decide +kernel), List.mem_of_getElem? (i := 241) (by decide +kernel)⟩
theorem lw_p8 : lw_okq (⟨"RivalSorry$Tape", "takeWrong", "(LRivalSorry$Coast;)Z"⟩, 3) := ⟨⟨by decide +kernel, by decide +kernel⟩, List.mem_of_getElem? (i := 23) (by decide +kernel), List.mem_of_getElem? (i := 244) (by decide +kernel), List.mem_of_getElem? (i := 245) (by decide +kernel)⟩
theorem lw_p9 : lw_okq (⟨"RivalSorry$Tape", "takeDay", "(LRivalSorry$Coast;)Z"⟩, 3) := ⟨⟨by decide +kernel, by decide +kernel⟩, List.mem_of_getElem? (i := 23) (by decide +kernel), List.mem_of_getElem? (i := 260) (by decide +kernel), List.mem_of_getElem? (i := 261) (by decide +kernel)⟩
theorem lw_p10 : lw_okq (⟨"RivalSorry", "refuseCarrying", "(II)I"⟩, 9) := ⟨⟨by decide +kernel, by decide +kernel⟩, List.mem_of_getElem? (i := 15) (by decide +kernel), List.mem_of_getElem? (i := 330) (by decide +kernel), List.mem_of_getElem? (i := 331) (by decide +kernel)⟩
theorem lw_p11 : lw_okq (⟨"RivalSorry$Past", "at", "(I)LRivalSorry$Coast;"⟩, 3) := ⟨⟨by decide +kernel, by decide +kernel⟩, List.mem_of_getElem? (i := 62) (by decide +kernel), List.mem_of_getElem? (i := 355) (by decide +kernel), List.mem_of_getElem? (i := 356) (by decide +kernel)⟩
theorem lw_p12 : lw_okq (⟨"RivalSorry$Coast", "milesOf", "(II)I"⟩, 5) := ⟨⟨by decide +kernel, by decide +kernel⟩, List.mem_of_getElem? (i := 40) (by decide +kernel), List.mem_of_getElem? (i := 375) (by decide +kernel), List.mem_of_getElem? (i := 376) (by decide +kernel)⟩
theorem lw_p13 : lw_okq (⟨"RivalSorry", "change", "(III)I"⟩, 9) := ⟨⟨by decide +kernel, by decide +kernel⟩, List.mem_of_getElem? (i := 15) (by decide +kernel), List.mem_of_getElem? (i := 398) (by decide +kernel), List.mem_of_getElem? (i := 399) (by decide +kernel)⟩
theorem lw_p14 : lw_okq (⟨"RivalSorry", "imageAt", "(I)LRivalSorry$Coast;"⟩, 9) := ⟨⟨by decide +kernel, by decide +kernel⟩, List.mem_of_getElem? (i := 15) (by decide +kernel), List.mem_of_getElem? (i := 437) (by decide +kernel), List.mem_of_getElem? (i := 438) (by decide +kernel)⟩
theorem lw_p15 : lw_okq (⟨"RivalSorry$Matching", "weigh", "(LRivalSorry$Coast;)V"⟩, 4) := ⟨⟨by decide +kernel, by decide +kernel⟩, List.mem_of_getElem? (i := 99) (by decide +kernel), List.mem_of_getElem? (i := 471) (by decide +kernel), List.mem_of_getElem? (i := 472) (by decide +kernel)⟩
def lw_privs_1 : List (MethodName × Nat) := [(⟨"RivalSorry$Tape", "takeSign", "(I)Z"⟩, 3), (⟨"RivalSorry$Tape", "peek", "()I"⟩, 3), (⟨"RivalSorry$Tape", "takePeople", "(LRivalSorry$Coast;)Z"⟩, 3), (⟨"RivalSorry$Tape", "takeFigure", "(II)I"⟩, 3), (⟨"RivalSorry$Tape", "takePerson", "(LRivalSorry$Coast;II)Z"⟩, 3), (⟨"RivalSorry$Tape", "takeKind", "()I"⟩, 3), (⟨"RivalSorry$Tape", "takeOther", "(II)I"⟩, 3), (⟨"RivalSorry$Tape", "takeWrongs", "(LRivalSorry$Coast;)Z"⟩, 3), (⟨"RivalSorry$Tape", "takeWrong", "(LRivalSorry$Coast;)Z"⟩, 3), (⟨"RivalSorry$Tape", "takeDay", "(LRivalSorry$Coast;)Z"⟩, 3), (⟨"RivalSorry", "refuseCarrying", "(II)I"⟩, 9), (⟨"RivalSorry$Past", "at", "(I)LRivalSorry$Coast;"⟩, 3), (⟨"RivalSorry$Coast", "milesOf", "(II)I"⟩, 5), (⟨"RivalSorry", "change", "(III)I"⟩, 9), (⟨"RivalSorry", "imageAt", "(I)LRivalSorry$Coast;"⟩, 9), (⟨"RivalSorry$Matching", "weigh", "(LRivalSorry$Coast;)V"⟩, 4)]
theorem lw_r1 : ∀ q ∈ lw_privs_1, lw_okq q := List.forall_mem_cons.mpr ⟨lw_p0, List.forall_mem_cons.mpr ⟨lw_p1, List.forall_mem_cons.mpr ⟨lw_p2, List.forall_mem_cons.mpr ⟨lw_p3, List.forall_mem_cons.mpr ⟨lw_p4, List.forall_mem_cons.mpr ⟨lw_p5, List.forall_mem_cons.mpr ⟨lw_p6, List.forall_mem_cons.mpr ⟨lw_p7, List.forall_mem_cons.mpr ⟨lw_p8, List.forall_mem_cons.mpr ⟨lw_p9, List.forall_mem_cons.mpr ⟨lw_p10, List.forall_mem_cons.mpr ⟨lw_p11, List.forall_mem_cons.mpr ⟨lw_p12, List.forall_mem_cons.mpr ⟨lw_p13, List.forall_mem_cons.mpr ⟨lw_p14, List.forall_mem_cons.mpr ⟨lw_p15, fun _ h => absurd h List.not_mem_nil⟩⟩⟩⟩⟩⟩⟩⟩⟩⟩⟩⟩⟩⟩⟩⟩
theorem lw_p16 : lw_okq (⟨"RivalSorry$Matching", "firstCarrier", "(II)I"⟩, 4) := ⟨⟨by decide +kernel, by decide +kernel⟩, List.mem_of_getElem? (i := 99) (by decide +kernel), List.mem_of_getElem? (i := 481) (by decide +kernel), List.mem_of_getElem? (i := 482) (by decide +kernel)⟩
theorem lw_p17 : lw_okq (⟨"RivalSorry$Matching", "pairWorth", "(II)I"⟩, 4) := ⟨⟨by decide +kernel, by decide +kernel⟩, List.mem_of_getElem? (i := 99) (by decide +kernel), List.mem_of_getElem? (i := 485) (by decide +kernel), List.mem_of_getElem? (i := 486) (by decide +kernel)⟩
theorem lw_p18 : lw_okq (⟨"RivalSorry$Matching", "worthOf", "(III)I"⟩, 4) := ⟨⟨by decide +kernel, by decide +kernel⟩, List.mem_of_getElem? (i := 99) (by decide +kernel), List.mem_of_getElem? (i := 489) (by decide +kernel), List.mem_of_getElem? (i := 490) (by decide +kernel)⟩
theorem lw_p19 : lw_okq (⟨"RivalSorry$Matching", "bestAt", "(II)I"⟩, 4) := ⟨⟨by decide +kernel, by decide +kernel⟩, List.mem_of_getElem? (i := 99) (by decide +kernel), List.mem_of_getElem? (i := 493) (by decide +kernel), List.mem_of_getElem? (i := 494) (by decide +kernel)⟩
theorem lw_p20 : lw_okq (⟨"RivalSorry$Matching", "setBest", "(III)V"⟩, 4) := ⟨⟨by decide +kernel, by decide +kernel⟩, List.mem_of_getElem? (i := 99) (by decide +kernel), List.mem_of_getElem? (i := 497) (by decide +kernel), List.mem_of_getElem? (i := 498) (by decide +kernel)⟩
theorem lw_p21 : lw_okq (⟨"RivalSorry$Matching", "choose", "(I)V"⟩, 4) := ⟨⟨by decide +kernel, by decide +kernel⟩, List.mem_of_getElem? (i := 99) (by decide +kernel), List.mem_of_getElem? (i := 501) (by decide +kernel), List.mem_of_getElem? (i := 502) (by decide +kernel)⟩
theorem lw_p22 : lw_okq (⟨"RivalSorry$Coast", "wantedAfter", "(II)I"⟩, 5) := ⟨⟨by decide +kernel, by decide +kernel⟩, List.mem_of_getElem? (i := 40) (by decide +kernel), List.mem_of_getElem? (i := 525) (by decide +kernel), List.mem_of_getElem? (i := 526) (by decide +kernel)⟩
theorem lw_p23 : lw_okq (⟨"RivalSorry$Planner", "bestBehind", "(LRivalSorry$Coast;III)I"⟩, 2) := ⟨⟨by decide +kernel, by decide +kernel⟩, List.mem_of_getElem? (i := 118) (by decide +kernel), List.mem_of_getElem? (i := 558) (by decide +kernel), List.mem_of_getElem? (i := 559) (by decide +kernel)⟩
theorem lw_p24 : lw_okq (⟨"RivalSorry$Planner", "keep", "(II)V"⟩, 2) := ⟨⟨by decide +kernel, by decide +kernel⟩, List.mem_of_getElem? (i := 118) (by decide +kernel), List.mem_of_getElem? (i := 566) (by decide +kernel), List.mem_of_getElem? (i := 567) (by decide +kernel)⟩
theorem lw_p25 : lw_okq (⟨"RivalSorry", "sheetAt", "(I)LRivalSorry$Sheet;"⟩, 9) := ⟨⟨by decide +kernel, by decide +kernel⟩, List.mem_of_getElem? (i := 15) (by decide +kernel), List.mem_of_getElem? (i := 619) (by decide +kernel), List.mem_of_getElem? (i := 620) (by decide +kernel)⟩
theorem lw_p26 : lw_okq (⟨"RivalSorry$Sheet", "lowestBits", "(J)J"⟩, 3) := ⟨⟨by decide +kernel, by decide +kernel⟩, List.mem_of_getElem? (i := 82) (by decide +kernel), List.mem_of_getElem? (i := 666) (by decide +kernel), List.mem_of_getElem? (i := 667) (by decide +kernel)⟩
theorem lw_p27 : lw_okq (⟨"RivalSorry", "refusePairs", "(IIIIII)I"⟩, 9) := ⟨⟨by decide +kernel, by decide +kernel⟩, List.mem_of_getElem? (i := 15) (by decide +kernel), List.mem_of_getElem? (i := 692) (by decide +kernel), List.mem_of_getElem? (i := 693) (by decide +kernel)⟩
theorem lw_p28 : lw_okq (⟨"RivalSorry$Guess", "fitting", "(LRivalSorry$Sheet;II)I"⟩, 3) := ⟨⟨by decide +kernel, by decide +kernel⟩, List.mem_of_getElem? (i := 133) (by decide +kernel), List.mem_of_getElem? (i := 707) (by decide +kernel), List.mem_of_getElem? (i := 708) (by decide +kernel)⟩
theorem lw_p29 : lw_okq (⟨"RivalSorry$Guess", "fits", "(ILRivalSorry$Sheet;II)Z"⟩, 3) := ⟨⟨by decide +kernel, by decide +kernel⟩, List.mem_of_getElem? (i := 133) (by decide +kernel), List.mem_of_getElem? (i := 711) (by decide +kernel), List.mem_of_getElem? (i := 712) (by decide +kernel)⟩
theorem lw_p30 : lw_okq (⟨"RivalSorry$Guess", "sayingAt", "(II)I"⟩, 3) := ⟨⟨by decide +kernel, by decide +kernel⟩, List.mem_of_getElem? (i := 133) (by decide +kernel), List.mem_of_getElem? (i := 716) (by decide +kernel), List.mem_of_getElem? (i := 717) (by decide +kernel)⟩
theorem lw_p31 : lw_okq (⟨"RivalSorry$Guess", "bestTry", "(I)I"⟩, 3) := ⟨⟨by decide +kernel, by decide +kernel⟩, List.mem_of_getElem? (i := 133) (by decide +kernel), List.mem_of_getElem? (i := 720) (by decide +kernel), List.mem_of_getElem? (i := 721) (by decide +kernel)⟩
def lw_privs_2 : List (MethodName × Nat) := [(⟨"RivalSorry$Matching", "firstCarrier", "(II)I"⟩, 4), (⟨"RivalSorry$Matching", "pairWorth", "(II)I"⟩, 4), (⟨"RivalSorry$Matching", "worthOf", "(III)I"⟩, 4), (⟨"RivalSorry$Matching", "bestAt", "(II)I"⟩, 4), (⟨"RivalSorry$Matching", "setBest", "(III)V"⟩, 4), (⟨"RivalSorry$Matching", "choose", "(I)V"⟩, 4), (⟨"RivalSorry$Coast", "wantedAfter", "(II)I"⟩, 5), (⟨"RivalSorry$Planner", "bestBehind", "(LRivalSorry$Coast;III)I"⟩, 2), (⟨"RivalSorry$Planner", "keep", "(II)V"⟩, 2), (⟨"RivalSorry", "sheetAt", "(I)LRivalSorry$Sheet;"⟩, 9), (⟨"RivalSorry$Sheet", "lowestBits", "(J)J"⟩, 3), (⟨"RivalSorry", "refusePairs", "(IIIIII)I"⟩, 9), (⟨"RivalSorry$Guess", "fitting", "(LRivalSorry$Sheet;II)I"⟩, 3), (⟨"RivalSorry$Guess", "fits", "(ILRivalSorry$Sheet;II)Z"⟩, 3), (⟨"RivalSorry$Guess", "sayingAt", "(II)I"⟩, 3), (⟨"RivalSorry$Guess", "bestTry", "(I)I"⟩, 3)]
theorem lw_r2 : ∀ q ∈ lw_privs_2, lw_okq q := List.forall_mem_cons.mpr ⟨lw_p16, List.forall_mem_cons.mpr ⟨lw_p17, List.forall_mem_cons.mpr ⟨lw_p18, List.forall_mem_cons.mpr ⟨lw_p19, List.forall_mem_cons.mpr ⟨lw_p20, List.forall_mem_cons.mpr ⟨lw_p21, List.forall_mem_cons.mpr ⟨lw_p22, List.forall_mem_cons.mpr ⟨lw_p23, List.forall_mem_cons.mpr ⟨lw_p24, List.forall_mem_cons.mpr ⟨lw_p25, List.forall_mem_cons.mpr ⟨lw_p26, List.forall_mem_cons.mpr ⟨lw_p27, List.forall_mem_cons.mpr ⟨lw_p28, List.forall_mem_cons.mpr ⟨lw_p29, List.forall_mem_cons.mpr ⟨lw_p30, List.forall_mem_cons.mpr ⟨lw_p31, fun _ h => absurd h List.not_mem_nil⟩⟩⟩⟩⟩⟩⟩⟩⟩⟩⟩⟩⟩⟩⟩⟩
theorem lw_p32 : lw_okq (⟨"RivalSorry$Guess", "greatestPart", "(II)I"⟩, 3) := ⟨⟨by decide +kernel, by decide +kernel⟩, List.mem_of_getElem? (i := 133) (by decide +kernel), List.mem_of_getElem? (i := 725) (by decide +kernel), List.mem_of_getElem? (i := 726) (by decide +kernel)⟩
theorem lw_p33 : lw_okq (⟨"RivalSorry$Guess", "partLike", "(III)I"⟩, 3) := ⟨⟨by decide +kernel, by decide +kernel⟩, List.mem_of_getElem? (i := 133) (by decide +kernel), List.mem_of_getElem? (i := 729) (by decide +kernel), List.mem_of_getElem? (i := 730) (by decide +kernel)⟩
theorem lw_p34 : lw_okq (⟨"RivalSorryModel", "isRead", "()Z"⟩, 19) := ⟨⟨by decide +kernel, by decide +kernel⟩, List.mem_of_getElem? (i := 755) (by decide +kernel), List.mem_of_getElem? (i := 831) (by decide +kernel), List.mem_of_getElem? (i := 832) (by decide +kernel)⟩
theorem lw_p35 : lw_okq (⟨"RivalSorryModel", "isSign", "(I)Z"⟩, 19) := ⟨⟨by decide +kernel, by decide +kernel⟩, List.mem_of_getElem? (i := 755) (by decide +kernel), List.mem_of_getElem? (i := 835) (by decide +kernel), List.mem_of_getElem? (i := 836) (by decide +kernel)⟩
theorem lw_p36 : lw_okq (⟨"RivalSorryModel", "peek", "()I"⟩, 19) := ⟨⟨by decide +kernel, by decide +kernel⟩, List.mem_of_getElem? (i := 755) (by decide +kernel), List.mem_of_getElem? (i := 839) (by decide +kernel), List.mem_of_getElem? (i := 840) (by decide +kernel)⟩
theorem lw_p37 : lw_okq (⟨"RivalSorryModel", "figure", "(III)I"⟩, 19) := ⟨⟨by decide +kernel, by decide +kernel⟩, List.mem_of_getElem? (i := 755) (by decide +kernel), List.mem_of_getElem? (i := 843) (by decide +kernel), List.mem_of_getElem? (i := 844) (by decide +kernel)⟩
theorem lw_p38 : lw_okq (⟨"RivalSorryModel", "isPerson", "(I)Z"⟩, 19) := ⟨⟨by decide +kernel, by decide +kernel⟩, List.mem_of_getElem? (i := 755) (by decide +kernel), List.mem_of_getElem? (i := 847) (by decide +kernel), List.mem_of_getElem? (i := 848) (by decide +kernel)⟩
theorem lw_p39 : lw_okq (⟨"RivalSorryModel", "isWrongItem", "()Z"⟩, 19) := ⟨⟨by decide +kernel, by decide +kernel⟩, List.mem_of_getElem? (i := 755) (by decide +kernel), List.mem_of_getElem? (i := 854) (by decide +kernel), List.mem_of_getElem? (i := 855) (by decide +kernel)⟩
theorem lw_p40 : lw_okq (⟨"RivalSorryModel", "isOne", "(I)Z"⟩, 19) := ⟨⟨by decide +kernel, by decide +kernel⟩, List.mem_of_getElem? (i := 755) (by decide +kernel), List.mem_of_getElem? (i := 868) (by decide +kernel), List.mem_of_getElem? (i := 869) (by decide +kernel)⟩
theorem lw_p41 : lw_okq (⟨"RivalSorryModel", "isWrong", "(I)Z"⟩, 19) := ⟨⟨by decide +kernel, by decide +kernel⟩, List.mem_of_getElem? (i := 755) (by decide +kernel), List.mem_of_getElem? (i := 880) (by decide +kernel), List.mem_of_getElem? (i := 881) (by decide +kernel)⟩
theorem lw_p42 : lw_okq (⟨"RivalSorryModel", "whyNot", "(II)I"⟩, 19) := ⟨⟨by decide +kernel, by decide +kernel⟩, List.mem_of_getElem? (i := 755) (by decide +kernel), List.mem_of_getElem? (i := 891) (by decide +kernel), List.mem_of_getElem? (i := 892) (by decide +kernel)⟩
theorem lw_p43 : lw_okq (⟨"RivalSorryModel", "note", "()V"⟩, 19) := ⟨⟨by decide +kernel, by decide +kernel⟩, List.mem_of_getElem? (i := 755) (by decide +kernel), List.mem_of_getElem? (i := 901) (by decide +kernel), List.mem_of_getElem? (i := 902) (by decide +kernel)⟩
theorem lw_p44 : lw_okq (⟨"RivalSorryModel", "isThere", "()Z"⟩, 19) := ⟨⟨by decide +kernel, by decide +kernel⟩, List.mem_of_getElem? (i := 755) (by decide +kernel), List.mem_of_getElem? (i := 939) (by decide +kernel), List.mem_of_getElem? (i := 940) (by decide +kernel)⟩
theorem lw_p45 : lw_okq (⟨"RivalSorryModel", "begin", "()V"⟩, 19) := ⟨⟨by decide +kernel, by decide +kernel⟩, List.mem_of_getElem? (i := 755) (by decide +kernel), List.mem_of_getElem? (i := 967) (by decide +kernel), List.mem_of_getElem? (i := 968) (by decide +kernel)⟩
theorem lw_p46 : lw_okq (⟨"RivalSorryModel", "layMatch", "()V"⟩, 19) := ⟨⟨by decide +kernel, by decide +kernel⟩, List.mem_of_getElem? (i := 755) (by decide +kernel), List.mem_of_getElem? (i := 975) (by decide +kernel), List.mem_of_getElem? (i := 976) (by decide +kernel)⟩
theorem lw_p47 : lw_okq (⟨"RivalSorryModel", "worth", "(II)I"⟩, 19) := ⟨⟨by decide +kernel, by decide +kernel⟩, List.mem_of_getElem? (i := 755) (by decide +kernel), List.mem_of_getElem? (i := 982) (by decide +kernel), List.mem_of_getElem? (i := 983) (by decide +kernel)⟩
def lw_privs_3 : List (MethodName × Nat) := [(⟨"RivalSorry$Guess", "greatestPart", "(II)I"⟩, 3), (⟨"RivalSorry$Guess", "partLike", "(III)I"⟩, 3), (⟨"RivalSorryModel", "isRead", "()Z"⟩, 19), (⟨"RivalSorryModel", "isSign", "(I)Z"⟩, 19), (⟨"RivalSorryModel", "peek", "()I"⟩, 19), (⟨"RivalSorryModel", "figure", "(III)I"⟩, 19), (⟨"RivalSorryModel", "isPerson", "(I)Z"⟩, 19), (⟨"RivalSorryModel", "isWrongItem", "()Z"⟩, 19), (⟨"RivalSorryModel", "isOne", "(I)Z"⟩, 19), (⟨"RivalSorryModel", "isWrong", "(I)Z"⟩, 19), (⟨"RivalSorryModel", "whyNot", "(II)I"⟩, 19), (⟨"RivalSorryModel", "note", "()V"⟩, 19), (⟨"RivalSorryModel", "isThere", "()Z"⟩, 19), (⟨"RivalSorryModel", "begin", "()V"⟩, 19), (⟨"RivalSorryModel", "layMatch", "()V"⟩, 19), (⟨"RivalSorryModel", "worth", "(II)I"⟩, 19)]
theorem lw_r3 : ∀ q ∈ lw_privs_3, lw_okq q := List.forall_mem_cons.mpr ⟨lw_p32, List.forall_mem_cons.mpr ⟨lw_p33, List.forall_mem_cons.mpr ⟨lw_p34, List.forall_mem_cons.mpr ⟨lw_p35, List.forall_mem_cons.mpr ⟨lw_p36, List.forall_mem_cons.mpr ⟨lw_p37, List.forall_mem_cons.mpr ⟨lw_p38, List.forall_mem_cons.mpr ⟨lw_p39, List.forall_mem_cons.mpr ⟨lw_p40, List.forall_mem_cons.mpr ⟨lw_p41, List.forall_mem_cons.mpr ⟨lw_p42, List.forall_mem_cons.mpr ⟨lw_p43, List.forall_mem_cons.mpr ⟨lw_p44, List.forall_mem_cons.mpr ⟨lw_p45, List.forall_mem_cons.mpr ⟨lw_p46, List.forall_mem_cons.mpr ⟨lw_p47, fun _ h => absurd h List.not_mem_nil⟩⟩⟩⟩⟩⟩⟩⟩⟩⟩⟩⟩⟩⟩⟩⟩
theorem lw_p48 : lw_okq (⟨"RivalSorryModel", "matched", "(I)I"⟩, 19) := ⟨⟨by decide +kernel, by decide +kernel⟩, List.mem_of_getElem? (i := 755) (by decide +kernel), List.mem_of_getElem? (i := 986) (by decide +kernel), List.mem_of_getElem? (i := 987) (by decide +kernel)⟩
theorem lw_p49 : lw_okq (⟨"RivalSorryModel", "stepsTo", "(II)I"⟩, 19) := ⟨⟨by decide +kernel, by decide +kernel⟩, List.mem_of_getElem? (i := 755) (by decide +kernel), List.mem_of_getElem? (i := 994) (by decide +kernel), List.mem_of_getElem? (i := 995) (by decide +kernel)⟩
theorem lw_p50 : lw_okq (⟨"RivalSorryModel", "layPlan", "(I)V"⟩, 19) := ⟨⟨by decide +kernel, by decide +kernel⟩, List.mem_of_getElem? (i := 755) (by decide +kernel), List.mem_of_getElem? (i := 1006) (by decide +kernel), List.mem_of_getElem? (i := 1007) (by decide +kernel)⟩
theorem lw_p51 : lw_okq (⟨"RivalSorryModel", "planned", "(IIII)I"⟩, 19) := ⟨⟨by decide +kernel, by decide +kernel⟩, List.mem_of_getElem? (i := 755) (by decide +kernel), List.mem_of_getElem? (i := 1010) (by decide +kernel), List.mem_of_getElem? (i := 1011) (by decide +kernel)⟩
theorem lw_p52 : lw_okq (⟨"RivalSorryModel", "does", "(I)I"⟩, 19) := ⟨⟨by decide +kernel, by decide +kernel⟩, List.mem_of_getElem? (i := 755) (by decide +kernel), List.mem_of_getElem? (i := 1014) (by decide +kernel), List.mem_of_getElem? (i := 1015) (by decide +kernel)⟩
theorem lw_p53 : lw_okq (⟨"RivalSorryModel", "laySecond", "(II)V"⟩, 19) := ⟨⟨by decide +kernel, by decide +kernel⟩, List.mem_of_getElem? (i := 755) (by decide +kernel), List.mem_of_getElem? (i := 1018) (by decide +kernel), List.mem_of_getElem? (i := 1019) (by decide +kernel)⟩
theorem lw_p54 : lw_okq (⟨"RivalSorryModel", "layLast", "(III)V"⟩, 19) := ⟨⟨by decide +kernel, by decide +kernel⟩, List.mem_of_getElem? (i := 755) (by decide +kernel), List.mem_of_getElem? (i := 1022) (by decide +kernel), List.mem_of_getElem? (i := 1023) (by decide +kernel)⟩
theorem lw_p55 : lw_okq (⟨"RivalSorryModel", "take", "(IIII)V"⟩, 19) := ⟨⟨by decide +kernel, by decide +kernel⟩, List.mem_of_getElem? (i := 755) (by decide +kernel), List.mem_of_getElem? (i := 1026) (by decide +kernel), List.mem_of_getElem? (i := 1027) (by decide +kernel)⟩
theorem lw_p56 : lw_okq (⟨"RivalSorryModel", "nextCode", "(I)I"⟩, 19) := ⟨⟨by decide +kernel, by decide +kernel⟩, List.mem_of_getElem? (i := 755) (by decide +kernel), List.mem_of_getElem? (i := 1030) (by decide +kernel), List.mem_of_getElem? (i := 1031) (by decide +kernel)⟩
theorem lw_p57 : lw_okq (⟨"RivalSorryModel", "badRow", "(IIII)I"⟩, 19) := ⟨⟨by decide +kernel, by decide +kernel⟩, List.mem_of_getElem? (i := 755) (by decide +kernel), List.mem_of_getElem? (i := 1068) (by decide +kernel), List.mem_of_getElem? (i := 1069) (by decide +kernel)⟩
theorem lw_p58 : lw_okq (⟨"RivalSorryModel", "partsBy", "(IZIIIII)I"⟩, 19) := ⟨⟨by decide +kernel, by decide +kernel⟩, List.mem_of_getElem? (i := 755) (by decide +kernel), List.mem_of_getElem? (i := 1090) (by decide +kernel), List.mem_of_getElem? (i := 1091) (by decide +kernel)⟩
theorem lw_p59 : lw_okq (⟨"RivalSorryModel", "foundBy", "(IZIII)I"⟩, 19) := ⟨⟨by decide +kernel, by decide +kernel⟩, List.mem_of_getElem? (i := 755) (by decide +kernel), List.mem_of_getElem? (i := 1094) (by decide +kernel), List.mem_of_getElem? (i := 1095) (by decide +kernel)⟩
theorem lw_p60 : lw_okq (⟨"RivalSorryModel", "fitBy", "(IZII)I"⟩, 19) := ⟨⟨by decide +kernel, by decide +kernel⟩, List.mem_of_getElem? (i := 755) (by decide +kernel), List.mem_of_getElem? (i := 1099) (by decide +kernel), List.mem_of_getElem? (i := 1100) (by decide +kernel)⟩
theorem lw_p61 : lw_okq (⟨"RivalSorryModel", "saidAs", "(IZII)I"⟩, 19) := ⟨⟨by decide +kernel, by decide +kernel⟩, List.mem_of_getElem? (i := 755) (by decide +kernel), List.mem_of_getElem? (i := 1103) (by decide +kernel), List.mem_of_getElem? (i := 1104) (by decide +kernel)⟩
theorem lw_p62 : lw_okq (⟨"RivalSorryModel", "bestMiles", "(IZI)I"⟩, 19) := ⟨⟨by decide +kernel, by decide +kernel⟩, List.mem_of_getElem? (i := 755) (by decide +kernel), List.mem_of_getElem? (i := 1107) (by decide +kernel), List.mem_of_getElem? (i := 1108) (by decide +kernel)⟩
def lw_privs_4 : List (MethodName × Nat) := [(⟨"RivalSorryModel", "matched", "(I)I"⟩, 19), (⟨"RivalSorryModel", "stepsTo", "(II)I"⟩, 19), (⟨"RivalSorryModel", "layPlan", "(I)V"⟩, 19), (⟨"RivalSorryModel", "planned", "(IIII)I"⟩, 19), (⟨"RivalSorryModel", "does", "(I)I"⟩, 19), (⟨"RivalSorryModel", "laySecond", "(II)V"⟩, 19), (⟨"RivalSorryModel", "layLast", "(III)V"⟩, 19), (⟨"RivalSorryModel", "take", "(IIII)V"⟩, 19), (⟨"RivalSorryModel", "nextCode", "(I)I"⟩, 19), (⟨"RivalSorryModel", "badRow", "(IIII)I"⟩, 19), (⟨"RivalSorryModel", "partsBy", "(IZIIIII)I"⟩, 19), (⟨"RivalSorryModel", "foundBy", "(IZIII)I"⟩, 19), (⟨"RivalSorryModel", "fitBy", "(IZII)I"⟩, 19), (⟨"RivalSorryModel", "saidAs", "(IZII)I"⟩, 19), (⟨"RivalSorryModel", "bestMiles", "(IZI)I"⟩, 19)]
theorem lw_r4 : ∀ q ∈ lw_privs_4, lw_okq q := List.forall_mem_cons.mpr ⟨lw_p48, List.forall_mem_cons.mpr ⟨lw_p49, List.forall_mem_cons.mpr ⟨lw_p50, List.forall_mem_cons.mpr ⟨lw_p51, List.forall_mem_cons.mpr ⟨lw_p52, List.forall_mem_cons.mpr ⟨lw_p53, List.forall_mem_cons.mpr ⟨lw_p54, List.forall_mem_cons.mpr ⟨lw_p55, List.forall_mem_cons.mpr ⟨lw_p56, List.forall_mem_cons.mpr ⟨lw_p57, List.forall_mem_cons.mpr ⟨lw_p58, List.forall_mem_cons.mpr ⟨lw_p59, List.forall_mem_cons.mpr ⟨lw_p60, List.forall_mem_cons.mpr ⟨lw_p61, List.forall_mem_cons.mpr ⟨lw_p62, fun _ h => absurd h List.not_mem_nil⟩⟩⟩⟩⟩⟩⟩⟩⟩⟩⟩⟩⟩⟩⟩
def lw_privs : List (MethodName × Nat) := lw_privs_1 ++ (lw_privs_2 ++ (lw_privs_3 ++ (lw_privs_4)))
def lw_tbl : List Cond := k2_sels lw_privs ++ tables_1
theorem lw_privs_ok : ∀ q ∈ lw_privs, lw_okq q := by
  show ∀ q ∈ lw_privs_1 ++ (lw_privs_2 ++ (lw_privs_3 ++ (lw_privs_4))), lw_okq q
  exact List.forall_mem_append.mpr ⟨lw_r1, List.forall_mem_append.mpr ⟨lw_r2, List.forall_mem_append.mpr ⟨lw_r3, lw_r4⟩⟩⟩

def RX0 : String := "RivalSorry$Coast"
def TX0 : u_T := fun k => match k with
  | 0 => ("RivalSorry$Coast", "traits", "[I", true)
  | 1 => ("RivalSorry$Coast", "parts", "[I", true)
  | 2 => ("RivalSorry$Coast", "people", "I", false)
  | 3 => ("RivalSorry$Coast", "wrongs", "I", false)
  | _ => ("RivalSorry$Coast", "day", "I", false)
def tyX0 : Nat → FieldType := fun k => match k with
  | 0 => .array .int
  | 1 => .array .int
  | 2 => .int
  | 3 => .int
  | _ => .int
abbrev wsX00 : List Cond := u_ws RX0 TX0 5
theorem nmX0 : ∀ a, a < 5 → ∀ b, b < 5 → a ≠ b → (TX0 a).2.1 ≠ (TX0 b).2.1 := by decide +kernel
theorem tyX0_ok : ∀ k, k < 5 → parseFieldDescriptor (TX0 k).2.2.1 = some (tyX0 k) := by decide +kernel
abbrev cX0_init : ByteArray := prog_2_method_1_code
def yX0_init : MethodName := ⟨RX0, "<init>", "()V"⟩
abbrev cX0_clear : ByteArray := prog_2_method_2_code
def yX0_clear : MethodName := ⟨RX0, "clear", "()V"⟩
abbrev cX0_copyFrom : ByteArray := prog_2_method_3_code
def yX0_copyFrom : MethodName := ⟨RX0, "copyFrom", "(LRivalSorry$Coast;)V"⟩
abbrev cX0_stands : ByteArray := prog_2_method_4_code
def yX0_stands : MethodName := ⟨RX0, "stands", "()Z"⟩
abbrev cX0_people : ByteArray := prog_2_method_5_code
def yX0_people : MethodName := ⟨RX0, "people", "()I"⟩
abbrev cX0_wrongs : ByteArray := prog_2_method_6_code
def yX0_wrongs : MethodName := ⟨RX0, "wrongs", "()I"⟩
abbrev cX0_day : ByteArray := prog_2_method_7_code
def yX0_day : MethodName := ⟨RX0, "day", "()I"⟩
abbrev cX0_setDay : ByteArray := prog_2_method_8_code
def yX0_setDay : MethodName := ⟨RX0, "setDay", "(I)V"⟩
abbrev cX0_nextDay : ByteArray := prog_2_method_9_code
def yX0_nextDay : MethodName := ⟨RX0, "nextDay", "()V"⟩
abbrev cX0_hasPerson : ByteArray := prog_2_method_10_code
def yX0_hasPerson : MethodName := ⟨RX0, "hasPerson", "(I)Z"⟩
abbrev cX0_hasWrong : ByteArray := prog_2_method_11_code
def yX0_hasWrong : MethodName := ⟨RX0, "hasWrong", "(I)Z"⟩
abbrev cX0_trait : ByteArray := prog_2_method_12_code
def yX0_trait : MethodName := ⟨RX0, "trait", "(II)I"⟩
abbrev cX0_setTrait : ByteArray := prog_2_method_13_code
def yX0_setTrait : MethodName := ⟨RX0, "setTrait", "(III)V"⟩
abbrev cX0_part : ByteArray := prog_2_method_14_code
def yX0_part : MethodName := ⟨RX0, "part", "(II)I"⟩
abbrev cX0_setPart : ByteArray := prog_2_method_15_code
def yX0_setPart : MethodName := ⟨RX0, "setPart", "(III)V"⟩
abbrev cX0_addPerson : ByteArray := prog_2_method_16_code
def yX0_addPerson : MethodName := ⟨RX0, "addPerson", "(IIIII)V"⟩
abbrev cX0_addWrong : ByteArray := prog_2_method_17_code
def yX0_addWrong : MethodName := ⟨RX0, "addWrong", "(III)V"⟩
abbrev cX0_isOpen : ByteArray := prog_2_method_18_code
def yX0_isOpen : MethodName := ⟨RX0, "isOpen", "(I)Z"⟩
abbrev cX0_need : ByteArray := prog_2_method_19_code
def yX0_need : MethodName := ⟨RX0, "need", "(I)I"⟩
abbrev cX0_milesOf : ByteArray := prog_2_method_20_code
def yX0_milesOf : MethodName := ⟨RX0, "milesOf", "(II)I"⟩
abbrev cX0_saying : ByteArray := prog_2_method_21_code
def yX0_saying : MethodName := ⟨RX0, "saying", "(II)I"⟩
abbrev cX0_mayCarry : ByteArray := prog_2_method_22_code
def yX0_mayCarry : MethodName := ⟨RX0, "mayCarry", "(II)Z"⟩
abbrev cX0_outcome : ByteArray := prog_2_method_23_code
def yX0_outcome : MethodName := ⟨RX0, "outcome", "(II)I"⟩
abbrev cX0_deliver : ByteArray := prog_2_method_24_code
def yX0_deliver : MethodName := ⟨RX0, "deliver", "(II)I"⟩
abbrev cX0_leastSkill : ByteArray := prog_2_method_25_code
def yX0_leastSkill : MethodName := ⟨RX0, "leastSkill", "(II)I"⟩
abbrev cX0_wantedAfter : ByteArray := prog_2_method_26_code
def yX0_wantedAfter : MethodName := ⟨RX0, "wantedAfter", "(II)I"⟩
abbrev cX0_chainRound : ByteArray := prog_2_method_27_code
def yX0_chainRound : MethodName := ⟨RX0, "chainRound", "(I)I"⟩
abbrev cX0_chainAhead : ByteArray := prog_2_method_28_code
def yX0_chainAhead : MethodName := ⟨RX0, "chainAhead", "(I)I"⟩
abbrev cX0_forgiven : ByteArray := prog_2_method_29_code
def yX0_forgiven : MethodName := ⟨RX0, "forgiven", "()I"⟩
abbrev cX0_openSet : ByteArray := prog_2_method_30_code
def yX0_openSet : MethodName := ⟨RX0, "openSet", "()I"⟩
abbrev cX0_openWeight : ByteArray := prog_2_method_31_code
def yX0_openWeight : MethodName := ⟨RX0, "openWeight", "()I"⟩
abbrev cX0_wonSet : ByteArray := prog_2_method_32_code
def yX0_wonSet : MethodName := ⟨RX0, "wonSet", "()I"⟩
abbrev cX0_carriedByAll : ByteArray := prog_2_method_33_code
def yX0_carriedByAll : MethodName := ⟨RX0, "carriedByAll", "()I"⟩
def RX1 : String := "RivalSorry$Guess"
def TX1 : u_T := fun k => match k with
  | 0 => ("RivalSorry$Guess", "sayings", "[I", true)
  | 1 => ("RivalSorry$Guess", "first", "I", false)
  | _ => ("RivalSorry$Guess", "last", "I", false)
def tyX1 : Nat → FieldType := fun k => match k with
  | 0 => .array .int
  | 1 => .int
  | _ => .int
abbrev wsX10 : List Cond := u_ws RX1 TX1 3
theorem nmX1 : ∀ a, a < 3 → ∀ b, b < 3 → a ≠ b → (TX1 a).2.1 ≠ (TX1 b).2.1 := by decide +kernel
theorem tyX1_ok : ∀ k, k < 3 → parseFieldDescriptor (TX1 k).2.2.1 = some (tyX1 k) := by decide +kernel
abbrev cX1_init : ByteArray := prog_3_method_1_code
def yX1_init : MethodName := ⟨RX1, "<init>", "()V"⟩
abbrev cX1_amongSkills : ByteArray := prog_3_method_2_code
def yX1_amongSkills : MethodName := ⟨RX1, "amongSkills", "(LRivalSorry$Coast;I)V"⟩
abbrev cX1_amongKinds : ByteArray := prog_3_method_3_code
def yX1_amongKinds : MethodName := ⟨RX1, "amongKinds", "(LRivalSorry$Coast;I)V"⟩
abbrev cX1_answer : ByteArray := prog_3_method_4_code
def yX1_answer : MethodName := ⟨RX1, "answer", "(LRivalSorry$Sheet;III)I"⟩
abbrev cX1_fitting : ByteArray := prog_3_method_5_code
def yX1_fitting : MethodName := ⟨RX1, "fitting", "(LRivalSorry$Sheet;II)I"⟩
abbrev cX1_fits : ByteArray := prog_3_method_6_code
def yX1_fits : MethodName := ⟨RX1, "fits", "(ILRivalSorry$Sheet;II)Z"⟩
abbrev cX1_sayingAt : ByteArray := prog_3_method_7_code
def yX1_sayingAt : MethodName := ⟨RX1, "sayingAt", "(II)I"⟩
abbrev cX1_bestTry : ByteArray := prog_3_method_8_code
def yX1_bestTry : MethodName := ⟨RX1, "bestTry", "(I)I"⟩
abbrev cX1_greatestPart : ByteArray := prog_3_method_9_code
def yX1_greatestPart : MethodName := ⟨RX1, "greatestPart", "(II)I"⟩
abbrev cX1_partLike : ByteArray := prog_3_method_10_code
def yX1_partLike : MethodName := ⟨RX1, "partLike", "(III)I"⟩
def RX2 : String := "RivalSorry$Matching"
def TX2 : u_T := fun k => match k with
  | 0 => ("RivalSorry$Matching", "worth", "[I", true)
  | 1 => ("RivalSorry$Matching", "best", "[I", true)
  | 2 => ("RivalSorry$Matching", "carriers", "[I", true)
  | _ => ("RivalSorry$Matching", "forgiven", "I", false)
def tyX2 : Nat → FieldType := fun k => match k with
  | 0 => .array .int
  | 1 => .array .int
  | 2 => .array .int
  | _ => .int
abbrev wsX20 : List Cond := u_ws RX2 TX2 4
theorem nmX2 : ∀ a, a < 4 → ∀ b, b < 4 → a ≠ b → (TX2 a).2.1 ≠ (TX2 b).2.1 := by decide +kernel
theorem tyX2_ok : ∀ k, k < 4 → parseFieldDescriptor (TX2 k).2.2.1 = some (tyX2 k) := by decide +kernel
abbrev cX2_init : ByteArray := prog_4_method_1_code
def yX2_init : MethodName := ⟨RX2, "<init>", "()V"⟩
abbrev cX2_forgiven : ByteArray := prog_4_method_2_code
def yX2_forgiven : MethodName := ⟨RX2, "forgiven", "()I"⟩
abbrev cX2_carrierOf : ByteArray := prog_4_method_3_code
def yX2_carrierOf : MethodName := ⟨RX2, "carrierOf", "(I)I"⟩
abbrev cX2_settle : ByteArray := prog_4_method_4_code
def yX2_settle : MethodName := ⟨RX2, "settle", "(LRivalSorry$Coast;)V"⟩
abbrev cX2_weigh : ByteArray := prog_4_method_5_code
def yX2_weigh : MethodName := ⟨RX2, "weigh", "(LRivalSorry$Coast;)V"⟩
abbrev cX2_firstCarrier : ByteArray := prog_4_method_6_code
def yX2_firstCarrier : MethodName := ⟨RX2, "firstCarrier", "(II)I"⟩
abbrev cX2_worthOf : ByteArray := prog_4_method_7_code
def yX2_worthOf : MethodName := ⟨RX2, "worthOf", "(III)I"⟩
abbrev cX2_pairWorth : ByteArray := prog_4_method_8_code
def yX2_pairWorth : MethodName := ⟨RX2, "pairWorth", "(II)I"⟩
abbrev cX2_bestAt : ByteArray := prog_4_method_9_code
def yX2_bestAt : MethodName := ⟨RX2, "bestAt", "(II)I"⟩
abbrev cX2_setBest : ByteArray := prog_4_method_10_code
def yX2_setBest : MethodName := ⟨RX2, "setBest", "(III)V"⟩
abbrev cX2_choose : ByteArray := prog_4_method_11_code
def yX2_choose : MethodName := ⟨RX2, "choose", "(I)V"⟩
def RX3 : String := "RivalSorry$Past"
def TX3 : u_T := fun k => match k with
  | 0 => ("RivalSorry$Past", "ring", "[LRivalSorry$Coast;", true)
  | 1 => ("RivalSorry$Past", "next", "I", false)
  | _ => ("RivalSorry$Past", "acts", "I", false)
def tyX3 : Nat → FieldType := fun k => match k with
  | 0 => .array (.object "RivalSorry$Coast")
  | 1 => .int
  | _ => .int
abbrev wsX30 : List Cond := u_ws RX3 TX3 3
theorem nmX3 : ∀ a, a < 3 → ∀ b, b < 3 → a ≠ b → (TX3 a).2.1 ≠ (TX3 b).2.1 := by decide +kernel
theorem tyX3_ok : ∀ k, k < 3 → parseFieldDescriptor (TX3 k).2.2.1 = some (tyX3 k) := by decide +kernel
abbrev cX3_init : ByteArray := prog_5_method_1_code
def yX3_init : MethodName := ⟨RX3, "<init>", "()V"⟩
abbrev cX3_acts : ByteArray := prog_5_method_2_code
def yX3_acts : MethodName := ⟨RX3, "acts", "()I"⟩
abbrev cX3_forget : ByteArray := prog_5_method_3_code
def yX3_forget : MethodName := ⟨RX3, "forget", "()V"⟩
abbrev cX3_keep : ByteArray := prog_5_method_4_code
def yX3_keep : MethodName := ⟨RX3, "keep", "(LRivalSorry$Coast;)V"⟩
abbrev cX3_takeBack : ByteArray := prog_5_method_5_code
def yX3_takeBack : MethodName := ⟨RX3, "takeBack", "(LRivalSorry$Coast;)Z"⟩
abbrev cX3_at : ByteArray := prog_5_method_6_code
def yX3_at : MethodName := ⟨RX3, "at", "(I)LRivalSorry$Coast;"⟩
def RX4 : String := "RivalSorry$Planner"
def TX4 : u_T := fun k => match k with
  | 0 => ("RivalSorry$Planner", "tomorrows", "[LRivalSorry$Coast;", true)
  | _ => ("RivalSorry$Planner", "steps", "[I", true)
def tyX4 : Nat → FieldType := fun k => match k with
  | 0 => .array (.object "RivalSorry$Coast")
  | _ => .array .int
abbrev wsX40 : List Cond := u_ws RX4 TX4 2
theorem nmX4 : ∀ a, a < 2 → ∀ b, b < 2 → a ≠ b → (TX4 a).2.1 ≠ (TX4 b).2.1 := by decide +kernel
theorem tyX4_ok : ∀ k, k < 2 → parseFieldDescriptor (TX4 k).2.2.1 = some (tyX4 k) := by decide +kernel
abbrev cX4_init : ByteArray := prog_6_method_1_code
def yX4_init : MethodName := ⟨RX4, "<init>", "()V"⟩
abbrev cX4_step : ByteArray := prog_6_method_2_code
def yX4_step : MethodName := ⟨RX4, "step", "(I)I"⟩
abbrev cX4_bestFrom : ByteArray := prog_6_method_3_code
def yX4_bestFrom : MethodName := ⟨RX4, "bestFrom", "(LRivalSorry$Coast;II)I"⟩
abbrev cX4_bestBehind : ByteArray := prog_6_method_4_code
def yX4_bestBehind : MethodName := ⟨RX4, "bestBehind", "(LRivalSorry$Coast;III)I"⟩
abbrev cX4_gainOf : ByteArray := prog_6_method_5_code
def yX4_gainOf : MethodName := ⟨RX4, "gainOf", "(LRivalSorry$Coast;I)I"⟩
abbrev cX4_keep : ByteArray := prog_6_method_6_code
def yX4_keep : MethodName := ⟨RX4, "keep", "(II)V"⟩
def RX5 : String := "RivalSorry$Sheet"
def TX5 : u_T := fun k => match k with
  | 0 => ("RivalSorry$Sheet", "items", "[J", true)
  | 1 => ("RivalSorry$Sheet", "lane", "I", false)
  | _ => ("RivalSorry$Sheet", "size", "I", false)
def tyX5 : Nat → FieldType := fun k => match k with
  | 0 => .array .long
  | 1 => .int
  | _ => .int
abbrev wsX50 : List Cond := u_ws RX5 TX5 3
theorem nmX5 : ∀ a, a < 3 → ∀ b, b < 3 → a ≠ b → (TX5 a).2.1 ≠ (TX5 b).2.1 := by decide +kernel
theorem tyX5_ok : ∀ k, k < 3 → parseFieldDescriptor (TX5 k).2.2.1 = some (tyX5 k) := by decide +kernel
abbrev cX5_init : ByteArray := prog_7_method_1_code
def yX5_init : MethodName := ⟨RX5, "<init>", "()V"⟩
abbrev cX5_isNothing : ByteArray := prog_7_method_2_code
def yX5_isNothing : MethodName := ⟨RX5, "isNothing", "()Z"⟩
abbrev cX5_lane : ByteArray := prog_7_method_3_code
def yX5_lane : MethodName := ⟨RX5, "lane", "()I"⟩
abbrev cX5_lay : ByteArray := prog_7_method_4_code
def yX5_lay : MethodName := ⟨RX5, "lay", "(II)V"⟩
abbrev cX5_clear : ByteArray := prog_7_method_5_code
def yX5_clear : MethodName := ⟨RX5, "clear", "()I"⟩
abbrev cX5_holds : ByteArray := prog_7_method_6_code
def yX5_holds : MethodName := ⟨RX5, "holds", "(II)Z"⟩
abbrev cX5_get : ByteArray := prog_7_method_7_code
def yX5_get : MethodName := ⟨RX5, "get", "(I)J"⟩
abbrev cX5_put : ByteArray := prog_7_method_8_code
def yX5_put : MethodName := ⟨RX5, "put", "(IJ)V"⟩
abbrev cX5_take : ByteArray := prog_7_method_9_code
def yX5_take : MethodName := ⟨RX5, "take", "(LRivalSorry$Sheet;III)V"⟩
abbrev cX5_lowestBits : ByteArray := prog_7_method_10_code
def yX5_lowestBits : MethodName := ⟨RX5, "lowestBits", "(J)J"⟩
def RX6 : String := "RivalSorry$Tape"
def TX6 : u_T := fun k => match k with
  | 0 => ("RivalSorry$Tape", "bytes", "[I", true)
  | 1 => ("RivalSorry$Tape", "length", "I", false)
  | _ => ("RivalSorry$Tape", "place", "I", false)
def tyX6 : Nat → FieldType := fun k => match k with
  | 0 => .array .int
  | 1 => .int
  | _ => .int
abbrev wsX60 : List Cond := u_ws RX6 TX6 3
theorem nmX6 : ∀ a, a < 3 → ∀ b, b < 3 → a ≠ b → (TX6 a).2.1 ≠ (TX6 b).2.1 := by decide +kernel
theorem tyX6_ok : ∀ k, k < 3 → parseFieldDescriptor (TX6 k).2.2.1 = some (tyX6 k) := by decide +kernel
abbrev cX6_init : ByteArray := prog_8_method_1_code
def yX6_init : MethodName := ⟨RX6, "<init>", "()V"⟩
abbrev cX6_length : ByteArray := prog_8_method_2_code
def yX6_length : MethodName := ⟨RX6, "length", "()I"⟩
abbrev cX6_add : ByteArray := prog_8_method_3_code
def yX6_add : MethodName := ⟨RX6, "add", "(I)Z"⟩
abbrev cX6_clear : ByteArray := prog_8_method_4_code
def yX6_clear : MethodName := ⟨RX6, "clear", "()V"⟩
abbrev cX6_readInto : ByteArray := prog_8_method_5_code
def yX6_readInto : MethodName := ⟨RX6, "readInto", "(LRivalSorry$Coast;)I"⟩
abbrev cX6_peek : ByteArray := prog_8_method_6_code
def yX6_peek : MethodName := ⟨RX6, "peek", "()I"⟩
abbrev cX6_takeSign : ByteArray := prog_8_method_7_code
def yX6_takeSign : MethodName := ⟨RX6, "takeSign", "(I)Z"⟩
abbrev cX6_takeFigure : ByteArray := prog_8_method_8_code
def yX6_takeFigure : MethodName := ⟨RX6, "takeFigure", "(II)I"⟩
abbrev cX6_takeOther : ByteArray := prog_8_method_9_code
def yX6_takeOther : MethodName := ⟨RX6, "takeOther", "(II)I"⟩
abbrev cX6_takePeople : ByteArray := prog_8_method_10_code
def yX6_takePeople : MethodName := ⟨RX6, "takePeople", "(LRivalSorry$Coast;)Z"⟩
abbrev cX6_takePerson : ByteArray := prog_8_method_11_code
def yX6_takePerson : MethodName := ⟨RX6, "takePerson", "(LRivalSorry$Coast;II)Z"⟩
abbrev cX6_takeKind : ByteArray := prog_8_method_12_code
def yX6_takeKind : MethodName := ⟨RX6, "takeKind", "()I"⟩
abbrev cX6_kindOf : ByteArray := prog_8_method_13_code
def yX6_kindOf : MethodName := ⟨RX6, "kindOf", "(I)I"⟩
abbrev cX6_takeWrongs : ByteArray := prog_8_method_14_code
def yX6_takeWrongs : MethodName := ⟨RX6, "takeWrongs", "(LRivalSorry$Coast;)Z"⟩
abbrev cX6_takeWrong : ByteArray := prog_8_method_15_code
def yX6_takeWrong : MethodName := ⟨RX6, "takeWrong", "(LRivalSorry$Coast;)Z"⟩
abbrev cX6_takeDay : ByteArray := prog_8_method_16_code
def yX6_takeDay : MethodName := ⟨RX6, "takeDay", "(LRivalSorry$Coast;)Z"⟩
def RX7 : String := "RivalSorry"
def TX7 : u_T := fun k => match k with
  | 0 => ("RivalSorry", "tape", "LRivalSorry$Tape;", true)
  | 1 => ("RivalSorry", "coast", "LRivalSorry$Coast;", true)
  | 2 => ("RivalSorry", "scratch", "LRivalSorry$Coast;", true)
  | 3 => ("RivalSorry", "past", "LRivalSorry$Past;", true)
  | 4 => ("RivalSorry", "images", "[LRivalSorry$Coast;", true)
  | 5 => ("RivalSorry", "sheets", "[LRivalSorry$Sheet;", true)
  | 6 => ("RivalSorry", "matching", "LRivalSorry$Matching;", true)
  | 7 => ("RivalSorry", "planner", "LRivalSorry$Planner;", true)
  | _ => ("RivalSorry", "guess", "LRivalSorry$Guess;", true)
def tyX7 : Nat → FieldType := fun k => match k with
  | 0 => .object "RivalSorry$Tape"
  | 1 => .object "RivalSorry$Coast"
  | 2 => .object "RivalSorry$Coast"
  | 3 => .object "RivalSorry$Past"
  | 4 => .array (.object "RivalSorry$Coast")
  | 5 => .array (.object "RivalSorry$Sheet")
  | 6 => .object "RivalSorry$Matching"
  | 7 => .object "RivalSorry$Planner"
  | _ => .object "RivalSorry$Guess"
abbrev wsX70 : List Cond := u_ws RX7 TX7 9
theorem nmX7 : ∀ a, a < 9 → ∀ b, b < 9 → a ≠ b → (TX7 a).2.1 ≠ (TX7 b).2.1 := by decide +kernel
theorem tyX7_ok : ∀ k, k < 9 → parseFieldDescriptor (TX7 k).2.2.1 = some (tyX7 k) := by decide +kernel
abbrev cX7_init : ByteArray := prog_1_method_1_code
def yX7_init : MethodName := ⟨RX7, "<init>", "()V"⟩
abbrev cX7_feed : ByteArray := prog_1_method_2_code
def yX7_feed : MethodName := ⟨RX7, "feed", "(I)I"⟩
abbrev cX7_coast : ByteArray := prog_1_method_3_code
def yX7_coast : MethodName := ⟨RX7, "coast", "()I"⟩
abbrev cX7_person : ByteArray := prog_1_method_4_code
def yX7_person : MethodName := ⟨RX7, "person", "(II)I"⟩
abbrev cX7_as : ByteArray := prog_1_method_5_code
def yX7_as : MethodName := ⟨RX7, "as", "(II)I"⟩
abbrev cX7_wrong : ByteArray := prog_1_method_6_code
def yX7_wrong : MethodName := ⟨RX7, "wrong", "(II)I"⟩
abbrev cX7_carry : ByteArray := prog_1_method_7_code
def yX7_carry : MethodName := ⟨RX7, "carry", "(II)I"⟩
abbrev cX7_lend : ByteArray := prog_1_method_8_code
def yX7_lend : MethodName := ⟨RX7, "lend", "(II)I"⟩
abbrev cX7_sin : ByteArray := prog_1_method_9_code
def yX7_sin : MethodName := ⟨RX7, "sin", "(III)I"⟩
abbrev cX7_harden : ByteArray := prog_1_method_10_code
def yX7_harden : MethodName := ⟨RX7, "harden", "(II)I"⟩
abbrev cX7_pass : ByteArray := prog_1_method_11_code
def yX7_pass : MethodName := ⟨RX7, "pass", "()I"⟩
abbrev cX7_undo : ByteArray := prog_1_method_12_code
def yX7_undo : MethodName := ⟨RX7, "undo", "()I"⟩
abbrev cX7_image : ByteArray := prog_1_method_13_code
def yX7_image : MethodName := ⟨RX7, "image", "(I)I"⟩
abbrev cX7_restore : ByteArray := prog_1_method_14_code
def yX7_restore : MethodName := ⟨RX7, "restore", "(I)I"⟩
abbrev cX7_said : ByteArray := prog_1_method_15_code
def yX7_said : MethodName := ⟨RX7, "said", "(II)I"⟩
abbrev cX7_comes : ByteArray := prog_1_method_16_code
def yX7_comes : MethodName := ⟨RX7, "comes", "(II)I"⟩
abbrev cX7_least : ByteArray := prog_1_method_17_code
def yX7_least : MethodName := ⟨RX7, "least", "(II)I"⟩
abbrev cX7_match : ByteArray := prog_1_method_18_code
def yX7_match : MethodName := ⟨RX7, "match", "(I)I"⟩
abbrev cX7_chain : ByteArray := prog_1_method_19_code
def yX7_chain : MethodName := ⟨RX7, "chain", "(II)I"⟩
abbrev cX7_reach : ByteArray := prog_1_method_20_code
def yX7_reach : MethodName := ⟨RX7, "reach", "(II)I"⟩
abbrev cX7_plan : ByteArray := prog_1_method_21_code
def yX7_plan : MethodName := ⟨RX7, "plan", "(II)I"⟩
abbrev cX7_gusts : ByteArray := prog_1_method_22_code
def yX7_gusts : MethodName := ⟨RX7, "gusts", "(IIII)I"⟩
abbrev cX7_decades : ByteArray := prog_1_method_23_code
def yX7_decades : MethodName := ⟨RX7, "decades", "(III)I"⟩
abbrev cX7_sheet : ByteArray := prog_1_method_24_code
def yX7_sheet : MethodName := ⟨RX7, "sheet", "(III)I"⟩
abbrev cX7_drop : ByteArray := prog_1_method_25_code
def yX7_drop : MethodName := ⟨RX7, "drop", "(I)I"⟩
abbrev cX7_item : ByteArray := prog_1_method_26_code
def yX7_item : MethodName := ⟨RX7, "item", "(IIIJ)J"⟩
abbrev cX7_copy : ByteArray := prog_1_method_27_code
def yX7_copy : MethodName := ⟨RX7, "copy", "(IIIII)I"⟩
abbrev cX7_log : ByteArray := prog_1_method_28_code
def yX7_log : MethodName := ⟨RX7, "log", "(IIII)I"⟩
abbrev cX7_skills : ByteArray := prog_1_method_29_code
def yX7_skills : MethodName := ⟨RX7, "skills", "(IIIIII)I"⟩
abbrev cX7_kinds : ByteArray := prog_1_method_30_code
def yX7_kinds : MethodName := ⟨RX7, "kinds", "(IIIIII)I"⟩
abbrev cX7_count : ByteArray := prog_1_method_31_code
def yX7_count : MethodName := ⟨RX7, "count", "(I)I"⟩
abbrev cX7_refuseCarrying : ByteArray := prog_1_method_32_code
def yX7_refuseCarrying : MethodName := ⟨RX7, "refuseCarrying", "(II)I"⟩
abbrev cX7_change : ByteArray := prog_1_method_33_code
def yX7_change : MethodName := ⟨RX7, "change", "(III)I"⟩
abbrev cX7_imageAt : ByteArray := prog_1_method_34_code
def yX7_imageAt : MethodName := ⟨RX7, "imageAt", "(I)LRivalSorry$Coast;"⟩
abbrev cX7_sheetAt : ByteArray := prog_1_method_35_code
def yX7_sheetAt : MethodName := ⟨RX7, "sheetAt", "(I)LRivalSorry$Sheet;"⟩
abbrev cX7_isLane : ByteArray := prog_1_method_36_code
def yX7_isLane : MethodName := ⟨RX7, "isLane", "(I)Z"⟩
abbrev cX7_refuseRow : ByteArray := prog_1_method_37_code
def yX7_refuseRow : MethodName := ⟨RX7, "refuseRow", "(LRivalSorry$Sheet;I)I"⟩
abbrev cX7_refusePairs : ByteArray := prog_1_method_38_code
def yX7_refusePairs : MethodName := ⟨RX7, "refusePairs", "(IIIIII)I"⟩
abbrev cX7_isUnder : ByteArray := prog_1_method_39_code
def yX7_isUnder : MethodName := ⟨RX7, "isUnder", "(II)Z"⟩
abbrev cX7_sayingOf : ByteArray := prog_1_method_40_code
def yX7_sayingOf : MethodName := ⟨RX7, "sayingOf", "(IIII)I"⟩
abbrev cX7_stingOf : ByteArray := prog_1_method_41_code
def yX7_stingOf : MethodName := ⟨RX7, "stingOf", "(I)I"⟩
abbrev cX7_isBarred : ByteArray := prog_1_method_42_code
def yX7_isBarred : MethodName := ⟨RX7, "isBarred", "(III)Z"⟩
abbrev cX7_daysToReach : ByteArray := prog_1_method_43_code
def yX7_daysToReach : MethodName := ⟨RX7, "daysToReach", "(III)I"⟩
abbrev cX7_reachedNext : ByteArray := prog_1_method_44_code
def yX7_reachedNext : MethodName := ⟨RX7, "reachedNext", "(II)I"⟩
abbrev cX7_waysOfGusts : ByteArray := prog_1_method_45_code
def yX7_waysOfGusts : MethodName := ⟨RX7, "waysOfGusts", "(II)I"⟩
abbrev cX7_commonDivisor : ByteArray := prog_1_method_46_code
def yX7_commonDivisor : MethodName := ⟨RX7, "commonDivisor", "(II)I"⟩
abbrev cX7_drawDays : ByteArray := prog_1_method_47_code
def yX7_drawDays : MethodName := ⟨RX7, "drawDays", "(LRivalSorry$Coast;II)V"⟩
def RX8 : String := "RivalSorryModel"
def TX8 : u_T := fun k => match k with
  | 0 => ("RivalSorryModel", "lane", "[I", true)
  | 1 => ("RivalSorryModel", "size", "[I", true)
  | 2 => ("RivalSorryModel", "item", "[J", true)
  | 3 => ("RivalSorryModel", "letters", "I", false)
  | 4 => ("RivalSorryModel", "tape", "[I", true)
  | 5 => ("RivalSorryModel", "position", "I", false)
  | 6 => ("RivalSorryModel", "now", "[I", true)
  | 7 => ("RivalSorryModel", "read", "[I", true)
  | 8 => ("RivalSorryModel", "tried", "[I", true)
  | 9 => ("RivalSorryModel", "image", "[I", true)
  | 10 => ("RivalSorryModel", "isKept", "[Z", true)
  | 11 => ("RivalSorryModel", "actOf", "[I", true)
  | 12 => ("RivalSorryModel", "acts", "I", false)
  | 13 => ("RivalSorryModel", "best", "[I", true)
  | 14 => ("RivalSorryModel", "reached", "[I", true)
  | 15 => ("RivalSorryModel", "then", "[I", true)
  | 16 => ("RivalSorryModel", "plan", "[I", true)
  | 17 => ("RivalSorryModel", "planMany", "I", false)
  | _ => ("RivalSorryModel", "parted", "[I", true)
def tyX8 : Nat → FieldType := fun k => match k with
  | 0 => .array .int
  | 1 => .array .int
  | 2 => .array .long
  | 3 => .int
  | 4 => .array .int
  | 5 => .int
  | 6 => .array .int
  | 7 => .array .int
  | 8 => .array .int
  | 9 => .array .int
  | 10 => .array .boolean
  | 11 => .array .int
  | 12 => .int
  | 13 => .array .int
  | 14 => .array .int
  | 15 => .array .int
  | 16 => .array .int
  | 17 => .int
  | _ => .array .int
abbrev wsX80 : List Cond := u_ws RX8 TX8 19
theorem nmX8 : ∀ a, a < 19 → ∀ b, b < 19 → a ≠ b → (TX8 a).2.1 ≠ (TX8 b).2.1 := by decide +kernel
theorem tyX8_ok : ∀ k, k < 19 → parseFieldDescriptor (TX8 k).2.2.1 = some (tyX8 k) := by decide +kernel
abbrev cX8_init : ByteArray := prog_10_method_1_code
def yX8_init : MethodName := ⟨RX8, "<init>", "()V"⟩
abbrev cX8_in : ByteArray := prog_10_method_2_code
def yX8_in : MethodName := ⟨RX8, "in", "(III)Z"⟩
abbrev cX8_has : ByteArray := prog_10_method_3_code
def yX8_has : MethodName := ⟨RX8, "has", "(II)Z"⟩
abbrev cX8_bring : ByteArray := prog_10_method_4_code
def yX8_bring : MethodName := ⟨RX8, "bring", "([II[III)V"⟩
abbrev cX8_isThere : ByteArray := prog_10_method_5_code
def yX8_isThere : MethodName := ⟨RX8, "isThere", "()Z"⟩
abbrev cX8_isOne : ByteArray := prog_10_method_6_code
def yX8_isOne : MethodName := ⟨RX8, "isOne", "(I)Z"⟩
abbrev cX8_isWrong : ByteArray := prog_10_method_7_code
def yX8_isWrong : MethodName := ⟨RX8, "isWrong", "(I)Z"⟩
abbrev cX8_feed : ByteArray := prog_10_method_8_code
def yX8_feed : MethodName := ⟨RX8, "feed", "(I)I"⟩
abbrev cX8_peek : ByteArray := prog_10_method_9_code
def yX8_peek : MethodName := ⟨RX8, "peek", "()I"⟩
abbrev cX8_isSign : ByteArray := prog_10_method_10_code
def yX8_isSign : MethodName := ⟨RX8, "isSign", "(I)Z"⟩
abbrev cX8_kindBy : ByteArray := prog_10_method_11_code
def yX8_kindBy : MethodName := ⟨RX8, "kindBy", "(I)I"⟩
abbrev cX8_figure : ByteArray := prog_10_method_12_code
def yX8_figure : MethodName := ⟨RX8, "figure", "(III)I"⟩
abbrev cX8_isPerson : ByteArray := prog_10_method_13_code
def yX8_isPerson : MethodName := ⟨RX8, "isPerson", "(I)Z"⟩
abbrev cX8_addWrong : ByteArray := prog_10_method_14_code
def yX8_addWrong : MethodName := ⟨RX8, "addWrong", "([IIII)I"⟩
abbrev cX8_isWrongItem : ByteArray := prog_10_method_15_code
def yX8_isWrongItem : MethodName := ⟨RX8, "isWrongItem", "()Z"⟩
abbrev cX8_isRead : ByteArray := prog_10_method_16_code
def yX8_isRead : MethodName := ⟨RX8, "isRead", "()Z"⟩
abbrev cX8_coast : ByteArray := prog_10_method_17_code
def yX8_coast : MethodName := ⟨RX8, "coast", "()I"⟩
abbrev cX8_person : ByteArray := prog_10_method_18_code
def yX8_person : MethodName := ⟨RX8, "person", "(II)I"⟩
abbrev cX8_as : ByteArray := prog_10_method_19_code
def yX8_as : MethodName := ⟨RX8, "as", "(II)I"⟩
abbrev cX8_needOf : ByteArray := prog_10_method_20_code
def yX8_needOf : MethodName := ⟨RX8, "needOf", "([II)I"⟩
abbrev cX8_wrong : ByteArray := prog_10_method_21_code
def yX8_wrong : MethodName := ⟨RX8, "wrong", "(II)I"⟩
abbrev cX8_milesOf : ByteArray := prog_10_method_22_code
def yX8_milesOf : MethodName := ⟨RX8, "milesOf", "(II)I"⟩
abbrev cX8_isOverSands : ByteArray := prog_10_method_23_code
def yX8_isOverSands : MethodName := ⟨RX8, "isOverSands", "(II)Z"⟩
abbrev cX8_isMay : ByteArray := prog_10_method_24_code
def yX8_isMay : MethodName := ⟨RX8, "isMay", "([III)Z"⟩
abbrev cX8_saidBy : ByteArray := prog_10_method_25_code
def yX8_saidBy : MethodName := ⟨RX8, "saidBy", "(IIII)I"⟩
abbrev cX8_saidOf : ByteArray := prog_10_method_26_code
def yX8_saidOf : MethodName := ⟨RX8, "saidOf", "([III)I"⟩
abbrev cX8_stings : ByteArray := prog_10_method_27_code
def yX8_stings : MethodName := ⟨RX8, "stings", "(I)I"⟩
abbrev cX8_comesOf : ByteArray := prog_10_method_28_code
def yX8_comesOf : MethodName := ⟨RX8, "comesOf", "([III)I"⟩
abbrev cX8_carries : ByteArray := prog_10_method_29_code
def yX8_carries : MethodName := ⟨RX8, "carries", "([III)I"⟩
abbrev cX8_note : ByteArray := prog_10_method_30_code
def yX8_note : MethodName := ⟨RX8, "note", "()V"⟩
abbrev cX8_whyNot : ByteArray := prog_10_method_31_code
def yX8_whyNot : MethodName := ⟨RX8, "whyNot", "(II)I"⟩
abbrev cX8_carry : ByteArray := prog_10_method_32_code
def yX8_carry : MethodName := ⟨RX8, "carry", "(II)I"⟩
abbrev cX8_lend : ByteArray := prog_10_method_33_code
def yX8_lend : MethodName := ⟨RX8, "lend", "(II)I"⟩
abbrev cX8_sin : ByteArray := prog_10_method_34_code
def yX8_sin : MethodName := ⟨RX8, "sin", "(III)I"⟩
abbrev cX8_harden : ByteArray := prog_10_method_35_code
def yX8_harden : MethodName := ⟨RX8, "harden", "(II)I"⟩
abbrev cX8_pass : ByteArray := prog_10_method_36_code
def yX8_pass : MethodName := ⟨RX8, "pass", "()I"⟩
abbrev cX8_undo : ByteArray := prog_10_method_37_code
def yX8_undo : MethodName := ⟨RX8, "undo", "()I"⟩
abbrev cX8_image : ByteArray := prog_10_method_38_code
def yX8_image : MethodName := ⟨RX8, "image", "(I)I"⟩
abbrev cX8_restore : ByteArray := prog_10_method_39_code
def yX8_restore : MethodName := ⟨RX8, "restore", "(I)I"⟩
abbrev cX8_begin : ByteArray := prog_10_method_40_code
def yX8_begin : MethodName := ⟨RX8, "begin", "()V"⟩
abbrev cX8_said : ByteArray := prog_10_method_41_code
def yX8_said : MethodName := ⟨RX8, "said", "(II)I"⟩
abbrev cX8_comes : ByteArray := prog_10_method_42_code
def yX8_comes : MethodName := ⟨RX8, "comes", "(II)I"⟩
abbrev cX8_least : ByteArray := prog_10_method_43_code
def yX8_least : MethodName := ⟨RX8, "least", "(II)I"⟩
abbrev cX8_worth : ByteArray := prog_10_method_44_code
def yX8_worth : MethodName := ⟨RX8, "worth", "(II)I"⟩
abbrev cX8_layMatch : ByteArray := prog_10_method_45_code
def yX8_layMatch : MethodName := ⟨RX8, "layMatch", "()V"⟩
abbrev cX8_matched : ByteArray := prog_10_method_46_code
def yX8_matched : MethodName := ⟨RX8, "matched", "(I)I"⟩
abbrev cX8_match : ByteArray := prog_10_method_47_code
def yX8_match : MethodName := ⟨RX8, "match", "(I)I"⟩
abbrev cX8_stepsTo : ByteArray := prog_10_method_48_code
def yX8_stepsTo : MethodName := ⟨RX8, "stepsTo", "(II)I"⟩
abbrev cX8_chain : ByteArray := prog_10_method_49_code
def yX8_chain : MethodName := ⟨RX8, "chain", "(II)I"⟩
abbrev cX8_reach : ByteArray := prog_10_method_50_code
def yX8_reach : MethodName := ⟨RX8, "reach", "(II)I"⟩
abbrev cX8_does : ByteArray := prog_10_method_51_code
def yX8_does : MethodName := ⟨RX8, "does", "(I)I"⟩
abbrev cX8_nextCode : ByteArray := prog_10_method_52_code
def yX8_nextCode : MethodName := ⟨RX8, "nextCode", "(I)I"⟩
abbrev cX8_planned : ByteArray := prog_10_method_53_code
def yX8_planned : MethodName := ⟨RX8, "planned", "(IIII)I"⟩
abbrev cX8_take : ByteArray := prog_10_method_54_code
def yX8_take : MethodName := ⟨RX8, "take", "(IIII)V"⟩
abbrev cX8_layLast : ByteArray := prog_10_method_55_code
def yX8_layLast : MethodName := ⟨RX8, "layLast", "(III)V"⟩
abbrev cX8_laySecond : ByteArray := prog_10_method_56_code
def yX8_laySecond : MethodName := ⟨RX8, "laySecond", "(II)V"⟩
abbrev cX8_layPlan : ByteArray := prog_10_method_57_code
def yX8_layPlan : MethodName := ⟨RX8, "layPlan", "(I)V"⟩
abbrev cX8_plan : ByteArray := prog_10_method_58_code
def yX8_plan : MethodName := ⟨RX8, "plan", "(II)I"⟩
abbrev cX8_gusts : ByteArray := prog_10_method_59_code
def yX8_gusts : MethodName := ⟨RX8, "gusts", "(IIII)I"⟩
abbrev cX8_forgivenOnes : ByteArray := prog_10_method_60_code
def yX8_forgivenOnes : MethodName := ⟨RX8, "forgivenOnes", "([I)I"⟩
abbrev cX8_wonOnes : ByteArray := prog_10_method_61_code
def yX8_wonOnes : MethodName := ⟨RX8, "wonOnes", "([I)I"⟩
abbrev cX8_decades : ByteArray := prog_10_method_62_code
def yX8_decades : MethodName := ⟨RX8, "decades", "(III)I"⟩
abbrev cX8_isSheet : ByteArray := prog_10_method_63_code
def yX8_isSheet : MethodName := ⟨RX8, "isSheet", "(I)Z"⟩
abbrev cX8_isPart : ByteArray := prog_10_method_64_code
def yX8_isPart : MethodName := ⟨RX8, "isPart", "(III)Z"⟩
abbrev cX8_badRow : ByteArray := prog_10_method_65_code
def yX8_badRow : MethodName := ⟨RX8, "badRow", "(IIII)I"⟩
abbrev cX8_sheet : ByteArray := prog_10_method_66_code
def yX8_sheet : MethodName := ⟨RX8, "sheet", "(III)I"⟩
abbrev cX8_drop : ByteArray := prog_10_method_67_code
def yX8_drop : MethodName := ⟨RX8, "drop", "(I)I"⟩
abbrev cX8_item : ByteArray := prog_10_method_68_code
def yX8_item : MethodName := ⟨RX8, "item", "(IIIJ)J"⟩
abbrev cX8_copy : ByteArray := prog_10_method_69_code
def yX8_copy : MethodName := ⟨RX8, "copy", "(IIIII)I"⟩
abbrev cX8_cutTo : ByteArray := prog_10_method_70_code
def yX8_cutTo : MethodName := ⟨RX8, "cutTo", "(IJ)J"⟩
abbrev cX8_log : ByteArray := prog_10_method_71_code
def yX8_log : MethodName := ⟨RX8, "log", "(IIII)I"⟩
abbrev cX8_saidAs : ByteArray := prog_10_method_72_code
def yX8_saidAs : MethodName := ⟨RX8, "saidAs", "(IZII)I"⟩
abbrev cX8_fitBy : ByteArray := prog_10_method_73_code
def yX8_fitBy : MethodName := ⟨RX8, "fitBy", "(IZII)I"⟩
abbrev cX8_bestMiles : ByteArray := prog_10_method_74_code
def yX8_bestMiles : MethodName := ⟨RX8, "bestMiles", "(IZI)I"⟩
abbrev cX8_foundBy : ByteArray := prog_10_method_75_code
def yX8_foundBy : MethodName := ⟨RX8, "foundBy", "(IZIII)I"⟩
abbrev cX8_partsBy : ByteArray := prog_10_method_76_code
def yX8_partsBy : MethodName := ⟨RX8, "partsBy", "(IZIIIII)I"⟩
abbrev cX8_skills : ByteArray := prog_10_method_77_code
def yX8_skills : MethodName := ⟨RX8, "skills", "(IIIIII)I"⟩
abbrev cX8_kinds : ByteArray := prog_10_method_78_code
def yX8_kinds : MethodName := ⟨RX8, "kinds", "(IIIIII)I"⟩
abbrev cX8_count : ByteArray := prog_10_method_79_code
def yX8_count : MethodName := ⟨RX8, "count", "(I)I"⟩
def RJ6 : String := "java/lang/Integer"
def TJ6 : u_T := fun k => match k with
  | _ => ("", "", "", false)
def tyJ6 : Nat → FieldType := fun k => match k with
  | _ => .int
abbrev wsJ60 : List Cond := u_ws RJ6 TJ6 0
theorem nmJ6 : ∀ a, a < 0 → ∀ b, b < 0 → a ≠ b → (TJ6 a).2.1 ≠ (TJ6 b).2.1 := by decide +kernel
theorem tyJ6_ok : ∀ k, k < 0 → parseFieldDescriptor (TJ6 k).2.2.1 = some (tyJ6 k) := by decide +kernel
abbrev cJ6_bitCount_0f7a4 : ByteArray := prog_11_method_49_code
def yJ6_bitCount_0f7a4 : MethodName := ⟨RJ6, "bitCount", "(I)I"⟩
def RJ9 : String := "java/lang/Math"
def TJ9 : u_T := fun k => match k with
  | _ => ("", "", "", false)
def tyJ9 : Nat → FieldType := fun k => match k with
  | _ => .int
abbrev wsJ90 : List Cond := u_ws RJ9 TJ9 0
theorem nmJ9 : ∀ a, a < 0 → ∀ b, b < 0 → a ≠ b → (TJ9 a).2.1 ≠ (TJ9 b).2.1 := by decide +kernel
theorem tyJ9_ok : ∀ k, k < 0 → parseFieldDescriptor (TJ9 k).2.2.1 = some (tyJ9 k) := by decide +kernel
abbrev cJ9_abs_0f7a4 : ByteArray := prog_12_method_59_code
def yJ9_abs_0f7a4 : MethodName := ⟨RJ9, "abs", "(I)I"⟩
abbrev cJ9_max_7cf53 : ByteArray := prog_12_method_65_code
def yJ9_max_7cf53 : MethodName := ⟨RJ9, "max", "(II)I"⟩
abbrev cJ9_min_7cf53 : ByteArray := prog_12_method_69_code
def yJ9_min_7cf53 : MethodName := ⟨RJ9, "min", "(II)I"⟩
def RJ10 : String := "java/lang/System"
def TJ10 : u_T := fun k => match k with
  | _ => ("", "", "", false)
def tyJ10 : Nat → FieldType := fun k => match k with
  | _ => .int
abbrev wsJ100 : List Cond := u_ws RJ10 TJ10 0
theorem nmJ10 : ∀ a, a < 0 → ∀ b, b < 0 → a ≠ b → (TJ10 a).2.1 ≠ (TJ10 b).2.1 := by decide +kernel
theorem tyJ10_ok : ∀ k, k < 0 → parseFieldDescriptor (TJ10 k).2.2.1 = some (tyJ10 k) := by decide +kernel
def RJ7 : String := "java/util/Arrays"
def TJ7 : u_T := fun k => match k with
  | _ => ("", "", "", false)
def tyJ7 : Nat → FieldType := fun k => match k with
  | _ => .int
abbrev wsJ70 : List Cond := u_ws RJ7 TJ7 0
theorem nmJ7 : ∀ a, a < 0 → ∀ b, b < 0 → a ≠ b → (TJ7 a).2.1 ≠ (TJ7 b).2.1 := by decide +kernel
theorem tyJ7_ok : ∀ k, k < 0 → parseFieldDescriptor (TJ7 k).2.2.1 = some (tyJ7 k) := by decide +kernel
abbrev cJ7_fill_d0a16 : ByteArray := prog_14_method_101_code
def yJ7_fill_d0a16 : MethodName := ⟨RJ7, "fill", "([JJ)V"⟩
abbrev cJ7_fill_53178 : ByteArray := prog_14_method_103_code
def yJ7_fill_53178 : MethodName := ⟨RJ7, "fill", "([II)V"⟩
def RL : String := "RivalSorryLaw"
abbrev cL_law : ByteArray := code
def yL_law : MethodName := ⟨RL, "law", "([I)Z"⟩
abbrev vwCl : List vw_C := [(RX0, TX0, 5), (RX1, TX1, 3), (RX2, TX2, 4), (RX3, TX3, 3), (RX4, TX4, 2), (RX5, TX5, 3), (RX6, TX6, 3), (RX7, TX7, 9), (RX8, TX8, 19)]
end
section
theorem dX0_init_0 : decode cX0_init 0 = .ok (.aload_n 0, 1) := by decide +kernel
theorem dX0_init_1 : decode cX0_init 1 = .ok (.invokespecial 3, 3) := by decide +kernel
theorem dX0_init_4 : decode cX0_init 4 = .ok (.aload_n 0, 1) := by decide +kernel
theorem dX0_init_5 : decode cX0_init 5 = .ok (.bipush 48, 2) := by decide +kernel
theorem dX0_init_7 : decode cX0_init 7 = .ok (.newarray .int, 2) := by decide +kernel
theorem dX0_init_9 : decode cX0_init 9 = .ok (.putfield 9, 3) := by decide +kernel
theorem dX0_init_12 : decode cX0_init 12 = .ok (.aload_n 0, 1) := by decide +kernel
theorem dX0_init_13 : decode cX0_init 13 = .ok (.bipush 32, 2) := by decide +kernel
theorem dX0_init_15 : decode cX0_init 15 = .ok (.newarray .int, 2) := by decide +kernel
theorem dX0_init_17 : decode cX0_init 17 = .ok (.putfield 15, 3) := by decide +kernel
theorem dX0_init_20 : decode cX0_init 20 = .ok (.return_, 1) := by decide +kernel
theorem dX0_clear_0 : decode cX0_clear 0 = .ok (.aload_n 0, 1) := by decide +kernel
theorem dX0_clear_1 : decode cX0_clear 1 = .ok (.iconst 0, 1) := by decide +kernel
theorem dX0_clear_2 : decode cX0_clear 2 = .ok (.putfield 18, 3) := by decide +kernel
theorem dX0_clear_5 : decode cX0_clear 5 = .ok (.aload_n 0, 1) := by decide +kernel
theorem dX0_clear_6 : decode cX0_clear 6 = .ok (.iconst 0, 1) := by decide +kernel
theorem dX0_clear_7 : decode cX0_clear 7 = .ok (.putfield 22, 3) := by decide +kernel
theorem dX0_clear_10 : decode cX0_clear 10 = .ok (.aload_n 0, 1) := by decide +kernel
theorem dX0_clear_11 : decode cX0_clear 11 = .ok (.iconst 0, 1) := by decide +kernel
theorem dX0_clear_12 : decode cX0_clear 12 = .ok (.putfield 25, 3) := by decide +kernel
theorem dX0_clear_15 : decode cX0_clear 15 = .ok (.return_, 1) := by decide +kernel
theorem dX0_copyFrom_0 : decode cX0_copyFrom 0 = .ok (.aload_n 1, 1) := by decide +kernel
theorem dX0_copyFrom_1 : decode cX0_copyFrom 1 = .ok (.getfield 9, 3) := by decide +kernel
theorem dX0_copyFrom_4 : decode cX0_copyFrom 4 = .ok (.iconst 0, 1) := by decide +kernel
theorem dX0_copyFrom_5 : decode cX0_copyFrom 5 = .ok (.aload_n 0, 1) := by decide +kernel
theorem dX0_copyFrom_6 : decode cX0_copyFrom 6 = .ok (.getfield 9, 3) := by decide +kernel
theorem dX0_copyFrom_9 : decode cX0_copyFrom 9 = .ok (.iconst 0, 1) := by decide +kernel
theorem dX0_copyFrom_10 : decode cX0_copyFrom 10 = .ok (.aload_n 0, 1) := by decide +kernel
theorem dX0_copyFrom_11 : decode cX0_copyFrom 11 = .ok (.getfield 9, 3) := by decide +kernel
theorem dX0_copyFrom_14 : decode cX0_copyFrom 14 = .ok (.arraylength, 1) := by decide +kernel
theorem dX0_copyFrom_15 : decode cX0_copyFrom 15 = .ok (.invokestatic 28, 3) := by decide +kernel
theorem dX0_copyFrom_18 : decode cX0_copyFrom 18 = .ok (.aload_n 1, 1) := by decide +kernel
theorem dX0_copyFrom_19 : decode cX0_copyFrom 19 = .ok (.getfield 15, 3) := by decide +kernel
theorem dX0_copyFrom_22 : decode cX0_copyFrom 22 = .ok (.iconst 0, 1) := by decide +kernel
theorem dX0_copyFrom_23 : decode cX0_copyFrom 23 = .ok (.aload_n 0, 1) := by decide +kernel
theorem dX0_copyFrom_24 : decode cX0_copyFrom 24 = .ok (.getfield 15, 3) := by decide +kernel
theorem dX0_copyFrom_27 : decode cX0_copyFrom 27 = .ok (.iconst 0, 1) := by decide +kernel
theorem dX0_copyFrom_28 : decode cX0_copyFrom 28 = .ok (.aload_n 0, 1) := by decide +kernel
theorem dX0_copyFrom_29 : decode cX0_copyFrom 29 = .ok (.getfield 15, 3) := by decide +kernel
theorem dX0_copyFrom_32 : decode cX0_copyFrom 32 = .ok (.arraylength, 1) := by decide +kernel
theorem dX0_copyFrom_33 : decode cX0_copyFrom 33 = .ok (.invokestatic 28, 3) := by decide +kernel
theorem dX0_copyFrom_36 : decode cX0_copyFrom 36 = .ok (.aload_n 0, 1) := by decide +kernel
theorem dX0_copyFrom_37 : decode cX0_copyFrom 37 = .ok (.aload_n 1, 1) := by decide +kernel
theorem dX0_copyFrom_38 : decode cX0_copyFrom 38 = .ok (.getfield 18, 3) := by decide +kernel
theorem dX0_copyFrom_41 : decode cX0_copyFrom 41 = .ok (.putfield 18, 3) := by decide +kernel
theorem dX0_copyFrom_44 : decode cX0_copyFrom 44 = .ok (.aload_n 0, 1) := by decide +kernel
theorem dX0_copyFrom_45 : decode cX0_copyFrom 45 = .ok (.aload_n 1, 1) := by decide +kernel
theorem dX0_copyFrom_46 : decode cX0_copyFrom 46 = .ok (.getfield 22, 3) := by decide +kernel
theorem dX0_copyFrom_49 : decode cX0_copyFrom 49 = .ok (.putfield 22, 3) := by decide +kernel
theorem dX0_copyFrom_52 : decode cX0_copyFrom 52 = .ok (.aload_n 0, 1) := by decide +kernel
theorem dX0_copyFrom_53 : decode cX0_copyFrom 53 = .ok (.aload_n 1, 1) := by decide +kernel
theorem dX0_copyFrom_54 : decode cX0_copyFrom 54 = .ok (.getfield 25, 3) := by decide +kernel
theorem dX0_copyFrom_57 : decode cX0_copyFrom 57 = .ok (.putfield 25, 3) := by decide +kernel
theorem dX0_copyFrom_60 : decode cX0_copyFrom 60 = .ok (.return_, 1) := by decide +kernel
theorem dX0_stands_0 : decode cX0_stands 0 = .ok (.aload_n 0, 1) := by decide +kernel
theorem dX0_stands_1 : decode cX0_stands 1 = .ok (.getfield 18, 3) := by decide +kernel
theorem dX0_stands_4 : decode cX0_stands 4 = .ok (.ifCond .le 7, 3) := by decide +kernel
theorem dX0_stands_7 : decode cX0_stands 7 = .ok (.iconst 1, 1) := by decide +kernel
theorem dX0_stands_8 : decode cX0_stands 8 = .ok (.goto 4, 3) := by decide +kernel
theorem dX0_stands_11 : decode cX0_stands 11 = .ok (.iconst 0, 1) := by decide +kernel
theorem dX0_stands_12 : decode cX0_stands 12 = .ok (.ireturn, 1) := by decide +kernel
theorem dX0_people_0 : decode cX0_people 0 = .ok (.aload_n 0, 1) := by decide +kernel
theorem dX0_people_1 : decode cX0_people 1 = .ok (.getfield 18, 3) := by decide +kernel
theorem dX0_people_4 : decode cX0_people 4 = .ok (.ireturn, 1) := by decide +kernel
theorem dX0_wrongs_0 : decode cX0_wrongs 0 = .ok (.aload_n 0, 1) := by decide +kernel
theorem dX0_wrongs_1 : decode cX0_wrongs 1 = .ok (.getfield 22, 3) := by decide +kernel
theorem dX0_wrongs_4 : decode cX0_wrongs 4 = .ok (.ireturn, 1) := by decide +kernel
theorem dX0_day_0 : decode cX0_day 0 = .ok (.aload_n 0, 1) := by decide +kernel
theorem dX0_day_1 : decode cX0_day 1 = .ok (.getfield 25, 3) := by decide +kernel
theorem dX0_day_4 : decode cX0_day 4 = .ok (.ireturn, 1) := by decide +kernel
theorem dX0_setDay_0 : decode cX0_setDay 0 = .ok (.aload_n 0, 1) := by decide +kernel
theorem dX0_setDay_1 : decode cX0_setDay 1 = .ok (.iload_n 1, 1) := by decide +kernel
theorem dX0_setDay_2 : decode cX0_setDay 2 = .ok (.putfield 25, 3) := by decide +kernel
theorem dX0_setDay_5 : decode cX0_setDay 5 = .ok (.return_, 1) := by decide +kernel
theorem dX0_nextDay_0 : decode cX0_nextDay 0 = .ok (.aload_n 0, 1) := by decide +kernel
theorem dX0_nextDay_1 : decode cX0_nextDay 1 = .ok (.dup, 1) := by decide +kernel
theorem dX0_nextDay_2 : decode cX0_nextDay 2 = .ok (.getfield 25, 3) := by decide +kernel
theorem dX0_nextDay_5 : decode cX0_nextDay 5 = .ok (.iconst 1, 1) := by decide +kernel
theorem dX0_nextDay_6 : decode cX0_nextDay 6 = .ok (.iadd, 1) := by decide +kernel
theorem dX0_nextDay_7 : decode cX0_nextDay 7 = .ok (.putfield 25, 3) := by decide +kernel
theorem dX0_nextDay_10 : decode cX0_nextDay 10 = .ok (.return_, 1) := by decide +kernel
theorem dX0_hasPerson_0 : decode cX0_hasPerson 0 = .ok (.iload_n 1, 1) := by decide +kernel
theorem dX0_hasPerson_1 : decode cX0_hasPerson 1 = .ok (.ifCond .lt 15, 3) := by decide +kernel
theorem dX0_hasPerson_4 : decode cX0_hasPerson 4 = .ok (.iload_n 1, 1) := by decide +kernel
theorem dX0_hasPerson_5 : decode cX0_hasPerson 5 = .ok (.aload_n 0, 1) := by decide +kernel
theorem dX0_hasPerson_6 : decode cX0_hasPerson 6 = .ok (.getfield 18, 3) := by decide +kernel
theorem dX0_hasPerson_9 : decode cX0_hasPerson 9 = .ok (.if_icmp .ge 7, 3) := by decide +kernel
theorem dX0_hasPerson_12 : decode cX0_hasPerson 12 = .ok (.iconst 1, 1) := by decide +kernel
theorem dX0_hasPerson_13 : decode cX0_hasPerson 13 = .ok (.goto 4, 3) := by decide +kernel
theorem dX0_hasPerson_16 : decode cX0_hasPerson 16 = .ok (.iconst 0, 1) := by decide +kernel
theorem dX0_hasPerson_17 : decode cX0_hasPerson 17 = .ok (.ireturn, 1) := by decide +kernel
theorem dX0_hasWrong_0 : decode cX0_hasWrong 0 = .ok (.iload_n 1, 1) := by decide +kernel
theorem dX0_hasWrong_1 : decode cX0_hasWrong 1 = .ok (.ifCond .lt 15, 3) := by decide +kernel
theorem dX0_hasWrong_4 : decode cX0_hasWrong 4 = .ok (.iload_n 1, 1) := by decide +kernel
theorem dX0_hasWrong_5 : decode cX0_hasWrong 5 = .ok (.aload_n 0, 1) := by decide +kernel
theorem dX0_hasWrong_6 : decode cX0_hasWrong 6 = .ok (.getfield 22, 3) := by decide +kernel
theorem dX0_hasWrong_9 : decode cX0_hasWrong 9 = .ok (.if_icmp .ge 7, 3) := by decide +kernel
theorem dX0_hasWrong_12 : decode cX0_hasWrong 12 = .ok (.iconst 1, 1) := by decide +kernel
theorem dX0_hasWrong_13 : decode cX0_hasWrong 13 = .ok (.goto 4, 3) := by decide +kernel
theorem dX0_hasWrong_16 : decode cX0_hasWrong 16 = .ok (.iconst 0, 1) := by decide +kernel
theorem dX0_hasWrong_17 : decode cX0_hasWrong 17 = .ok (.ireturn, 1) := by decide +kernel
theorem dX0_trait_0 : decode cX0_trait 0 = .ok (.iload_n 1, 1) := by decide +kernel
theorem dX0_trait_1 : decode cX0_trait 1 = .ok (.bipush 8, 2) := by decide +kernel
theorem dX0_trait_3 : decode cX0_trait 3 = .ok (.imul, 1) := by decide +kernel
theorem dX0_trait_4 : decode cX0_trait 4 = .ok (.iload_n 2, 1) := by decide +kernel
theorem dX0_trait_5 : decode cX0_trait 5 = .ok (.iadd, 1) := by decide +kernel
theorem dX0_trait_6 : decode cX0_trait 6 = .ok (.istore_n 3, 1) := by decide +kernel
theorem dX0_trait_7 : decode cX0_trait 7 = .ok (.iload_n 3, 1) := by decide +kernel
theorem dX0_trait_8 : decode cX0_trait 8 = .ok (.ifCond .lt 12, 3) := by decide +kernel
theorem dX0_trait_11 : decode cX0_trait 11 = .ok (.iload_n 3, 1) := by decide +kernel
theorem dX0_trait_12 : decode cX0_trait 12 = .ok (.aload_n 0, 1) := by decide +kernel
theorem dX0_trait_13 : decode cX0_trait 13 = .ok (.getfield 9, 3) := by decide +kernel
theorem dX0_trait_16 : decode cX0_trait 16 = .ok (.arraylength, 1) := by decide +kernel
theorem dX0_trait_17 : decode cX0_trait 17 = .ok (.if_icmp .lt 8, 3) := by decide +kernel
theorem dX0_trait_20 : decode cX0_trait 20 = .ok (.bipush (-4), 2) := by decide +kernel
theorem dX0_trait_22 : decode cX0_trait 22 = .ok (.goto 9, 3) := by decide +kernel
theorem dX0_trait_25 : decode cX0_trait 25 = .ok (.aload_n 0, 1) := by decide +kernel
theorem dX0_trait_26 : decode cX0_trait 26 = .ok (.getfield 9, 3) := by decide +kernel
theorem dX0_trait_29 : decode cX0_trait 29 = .ok (.iload_n 3, 1) := by decide +kernel
theorem dX0_trait_30 : decode cX0_trait 30 = .ok (.iaload, 1) := by decide +kernel
theorem dX0_trait_31 : decode cX0_trait 31 = .ok (.ireturn, 1) := by decide +kernel
theorem dX0_setTrait_0 : decode cX0_setTrait 0 = .ok (.iload_n 1, 1) := by decide +kernel
theorem dX0_setTrait_1 : decode cX0_setTrait 1 = .ok (.bipush 8, 2) := by decide +kernel
theorem dX0_setTrait_3 : decode cX0_setTrait 3 = .ok (.imul, 1) := by decide +kernel
theorem dX0_setTrait_4 : decode cX0_setTrait 4 = .ok (.iload_n 2, 1) := by decide +kernel
theorem dX0_setTrait_5 : decode cX0_setTrait 5 = .ok (.iadd, 1) := by decide +kernel
theorem dX0_setTrait_6 : decode cX0_setTrait 6 = .ok (.istore 4, 2) := by decide +kernel
theorem dX0_setTrait_8 : decode cX0_setTrait 8 = .ok (.iload 4, 2) := by decide +kernel
theorem dX0_setTrait_10 : decode cX0_setTrait 10 = .ok (.ifCond .lt 21, 3) := by decide +kernel
theorem dX0_setTrait_13 : decode cX0_setTrait 13 = .ok (.iload 4, 2) := by decide +kernel
theorem dX0_setTrait_15 : decode cX0_setTrait 15 = .ok (.aload_n 0, 1) := by decide +kernel
theorem dX0_setTrait_16 : decode cX0_setTrait 16 = .ok (.getfield 9, 3) := by decide +kernel
theorem dX0_setTrait_19 : decode cX0_setTrait 19 = .ok (.arraylength, 1) := by decide +kernel
theorem dX0_setTrait_20 : decode cX0_setTrait 20 = .ok (.if_icmp .ge 11, 3) := by decide +kernel
theorem dX0_setTrait_23 : decode cX0_setTrait 23 = .ok (.aload_n 0, 1) := by decide +kernel
theorem dX0_setTrait_24 : decode cX0_setTrait 24 = .ok (.getfield 9, 3) := by decide +kernel
theorem dX0_setTrait_27 : decode cX0_setTrait 27 = .ok (.iload 4, 2) := by decide +kernel
theorem dX0_setTrait_29 : decode cX0_setTrait 29 = .ok (.iload_n 3, 1) := by decide +kernel
theorem dX0_setTrait_30 : decode cX0_setTrait 30 = .ok (.iastore, 1) := by decide +kernel
theorem dX0_setTrait_31 : decode cX0_setTrait 31 = .ok (.return_, 1) := by decide +kernel
theorem dX0_part_0 : decode cX0_part 0 = .ok (.iload_n 1, 1) := by decide +kernel
theorem dX0_part_1 : decode cX0_part 1 = .ok (.iconst 4, 1) := by decide +kernel
theorem dX0_part_2 : decode cX0_part 2 = .ok (.imul, 1) := by decide +kernel
theorem dX0_part_3 : decode cX0_part 3 = .ok (.iload_n 2, 1) := by decide +kernel
theorem dX0_part_4 : decode cX0_part 4 = .ok (.iadd, 1) := by decide +kernel
theorem dX0_part_5 : decode cX0_part 5 = .ok (.istore_n 3, 1) := by decide +kernel
theorem dX0_part_6 : decode cX0_part 6 = .ok (.iload_n 3, 1) := by decide +kernel
theorem dX0_part_7 : decode cX0_part 7 = .ok (.ifCond .lt 12, 3) := by decide +kernel
theorem dX0_part_10 : decode cX0_part 10 = .ok (.iload_n 3, 1) := by decide +kernel
theorem dX0_part_11 : decode cX0_part 11 = .ok (.aload_n 0, 1) := by decide +kernel
theorem dX0_part_12 : decode cX0_part 12 = .ok (.getfield 15, 3) := by decide +kernel
theorem dX0_part_15 : decode cX0_part 15 = .ok (.arraylength, 1) := by decide +kernel
theorem dX0_part_16 : decode cX0_part 16 = .ok (.if_icmp .lt 8, 3) := by decide +kernel
theorem dX0_part_19 : decode cX0_part 19 = .ok (.bipush (-4), 2) := by decide +kernel
theorem dX0_part_21 : decode cX0_part 21 = .ok (.goto 9, 3) := by decide +kernel
theorem dX0_part_24 : decode cX0_part 24 = .ok (.aload_n 0, 1) := by decide +kernel
theorem dX0_part_25 : decode cX0_part 25 = .ok (.getfield 15, 3) := by decide +kernel
theorem dX0_part_28 : decode cX0_part 28 = .ok (.iload_n 3, 1) := by decide +kernel
theorem dX0_part_29 : decode cX0_part 29 = .ok (.iaload, 1) := by decide +kernel
theorem dX0_part_30 : decode cX0_part 30 = .ok (.ireturn, 1) := by decide +kernel
theorem dX0_setPart_0 : decode cX0_setPart 0 = .ok (.iload_n 1, 1) := by decide +kernel
theorem dX0_setPart_1 : decode cX0_setPart 1 = .ok (.iconst 4, 1) := by decide +kernel
theorem dX0_setPart_2 : decode cX0_setPart 2 = .ok (.imul, 1) := by decide +kernel
theorem dX0_setPart_3 : decode cX0_setPart 3 = .ok (.iload_n 2, 1) := by decide +kernel
theorem dX0_setPart_4 : decode cX0_setPart 4 = .ok (.iadd, 1) := by decide +kernel
theorem dX0_setPart_5 : decode cX0_setPart 5 = .ok (.istore 4, 2) := by decide +kernel
theorem dX0_setPart_7 : decode cX0_setPart 7 = .ok (.iload 4, 2) := by decide +kernel
theorem dX0_setPart_9 : decode cX0_setPart 9 = .ok (.ifCond .lt 21, 3) := by decide +kernel
theorem dX0_setPart_12 : decode cX0_setPart 12 = .ok (.iload 4, 2) := by decide +kernel
theorem dX0_setPart_14 : decode cX0_setPart 14 = .ok (.aload_n 0, 1) := by decide +kernel
theorem dX0_setPart_15 : decode cX0_setPart 15 = .ok (.getfield 15, 3) := by decide +kernel
theorem dX0_setPart_18 : decode cX0_setPart 18 = .ok (.arraylength, 1) := by decide +kernel
theorem dX0_setPart_19 : decode cX0_setPart 19 = .ok (.if_icmp .ge 11, 3) := by decide +kernel
theorem dX0_setPart_22 : decode cX0_setPart 22 = .ok (.aload_n 0, 1) := by decide +kernel
theorem dX0_setPart_23 : decode cX0_setPart 23 = .ok (.getfield 15, 3) := by decide +kernel
theorem dX0_setPart_26 : decode cX0_setPart 26 = .ok (.iload 4, 2) := by decide +kernel
theorem dX0_setPart_28 : decode cX0_setPart 28 = .ok (.iload_n 3, 1) := by decide +kernel
theorem dX0_setPart_29 : decode cX0_setPart 29 = .ok (.iastore, 1) := by decide +kernel
theorem dX0_setPart_30 : decode cX0_setPart 30 = .ok (.return_, 1) := by decide +kernel
theorem dX0_addPerson_0 : decode cX0_addPerson 0 = .ok (.aload_n 0, 1) := by decide +kernel
theorem dX0_addPerson_1 : decode cX0_addPerson 1 = .ok (.getfield 18, 3) := by decide +kernel
theorem dX0_addPerson_4 : decode cX0_addPerson 4 = .ok (.bipush 6, 2) := by decide +kernel
theorem dX0_addPerson_6 : decode cX0_addPerson 6 = .ok (.if_icmp .lt 4, 3) := by decide +kernel
theorem dX0_addPerson_9 : decode cX0_addPerson 9 = .ok (.return_, 1) := by decide +kernel
theorem dX0_addPerson_10 : decode cX0_addPerson 10 = .ok (.aload_n 0, 1) := by decide +kernel
theorem dX0_addPerson_11 : decode cX0_addPerson 11 = .ok (.aload_n 0, 1) := by decide +kernel
theorem dX0_addPerson_12 : decode cX0_addPerson 12 = .ok (.getfield 18, 3) := by decide +kernel
theorem dX0_addPerson_15 : decode cX0_addPerson 15 = .ok (.iconst 0, 1) := by decide +kernel
theorem dX0_addPerson_16 : decode cX0_addPerson 16 = .ok (.iload_n 1, 1) := by decide +kernel
theorem dX0_addPerson_17 : decode cX0_addPerson 17 = .ok (.invokevirtual 34, 3) := by decide +kernel
theorem dX0_addPerson_20 : decode cX0_addPerson 20 = .ok (.aload_n 0, 1) := by decide +kernel
theorem dX0_addPerson_21 : decode cX0_addPerson 21 = .ok (.aload_n 0, 1) := by decide +kernel
theorem dX0_addPerson_22 : decode cX0_addPerson 22 = .ok (.getfield 18, 3) := by decide +kernel
theorem dX0_addPerson_25 : decode cX0_addPerson 25 = .ok (.iconst 1, 1) := by decide +kernel
theorem dX0_addPerson_26 : decode cX0_addPerson 26 = .ok (.iload_n 2, 1) := by decide +kernel
theorem dX0_addPerson_27 : decode cX0_addPerson 27 = .ok (.invokevirtual 34, 3) := by decide +kernel
theorem dX0_addPerson_30 : decode cX0_addPerson 30 = .ok (.aload_n 0, 1) := by decide +kernel
theorem dX0_addPerson_31 : decode cX0_addPerson 31 = .ok (.aload_n 0, 1) := by decide +kernel
theorem dX0_addPerson_32 : decode cX0_addPerson 32 = .ok (.getfield 18, 3) := by decide +kernel
theorem dX0_addPerson_35 : decode cX0_addPerson 35 = .ok (.iconst 2, 1) := by decide +kernel
theorem dX0_addPerson_36 : decode cX0_addPerson 36 = .ok (.iload_n 3, 1) := by decide +kernel
theorem dX0_addPerson_37 : decode cX0_addPerson 37 = .ok (.invokevirtual 34, 3) := by decide +kernel
theorem dX0_addPerson_40 : decode cX0_addPerson 40 = .ok (.aload_n 0, 1) := by decide +kernel
theorem dX0_addPerson_41 : decode cX0_addPerson 41 = .ok (.aload_n 0, 1) := by decide +kernel
theorem dX0_addPerson_42 : decode cX0_addPerson 42 = .ok (.getfield 18, 3) := by decide +kernel
theorem dX0_addPerson_45 : decode cX0_addPerson 45 = .ok (.iconst 3, 1) := by decide +kernel
theorem dX0_addPerson_46 : decode cX0_addPerson 46 = .ok (.iload 4, 2) := by decide +kernel
theorem dX0_addPerson_48 : decode cX0_addPerson 48 = .ok (.invokevirtual 34, 3) := by decide +kernel
theorem dX0_addPerson_51 : decode cX0_addPerson 51 = .ok (.aload_n 0, 1) := by decide +kernel
theorem dX0_addPerson_52 : decode cX0_addPerson 52 = .ok (.aload_n 0, 1) := by decide +kernel
theorem dX0_addPerson_53 : decode cX0_addPerson 53 = .ok (.getfield 18, 3) := by decide +kernel
theorem dX0_addPerson_56 : decode cX0_addPerson 56 = .ok (.iconst 4, 1) := by decide +kernel
theorem dX0_addPerson_57 : decode cX0_addPerson 57 = .ok (.iload 4, 2) := by decide +kernel
theorem dX0_addPerson_59 : decode cX0_addPerson 59 = .ok (.invokevirtual 34, 3) := by decide +kernel
theorem dX0_addPerson_62 : decode cX0_addPerson 62 = .ok (.aload_n 0, 1) := by decide +kernel
theorem dX0_addPerson_63 : decode cX0_addPerson 63 = .ok (.aload_n 0, 1) := by decide +kernel
theorem dX0_addPerson_64 : decode cX0_addPerson 64 = .ok (.getfield 18, 3) := by decide +kernel
theorem dX0_addPerson_67 : decode cX0_addPerson 67 = .ok (.iconst 5, 1) := by decide +kernel
theorem dX0_addPerson_68 : decode cX0_addPerson 68 = .ok (.iload 5, 2) := by decide +kernel
theorem dX0_addPerson_70 : decode cX0_addPerson 70 = .ok (.invokevirtual 34, 3) := by decide +kernel
theorem dX0_addPerson_73 : decode cX0_addPerson 73 = .ok (.aload_n 0, 1) := by decide +kernel
theorem dX0_addPerson_74 : decode cX0_addPerson 74 = .ok (.aload_n 0, 1) := by decide +kernel
theorem dX0_addPerson_75 : decode cX0_addPerson 75 = .ok (.getfield 18, 3) := by decide +kernel
theorem dX0_addPerson_78 : decode cX0_addPerson 78 = .ok (.bipush 6, 2) := by decide +kernel
theorem dX0_addPerson_80 : decode cX0_addPerson 80 = .ok (.iconst 0, 1) := by decide +kernel
theorem dX0_addPerson_81 : decode cX0_addPerson 81 = .ok (.invokevirtual 34, 3) := by decide +kernel
theorem dX0_addPerson_84 : decode cX0_addPerson 84 = .ok (.aload_n 0, 1) := by decide +kernel
theorem dX0_addPerson_85 : decode cX0_addPerson 85 = .ok (.aload_n 0, 1) := by decide +kernel
theorem dX0_addPerson_86 : decode cX0_addPerson 86 = .ok (.getfield 18, 3) := by decide +kernel
theorem dX0_addPerson_89 : decode cX0_addPerson 89 = .ok (.bipush 7, 2) := by decide +kernel
theorem dX0_addPerson_91 : decode cX0_addPerson 91 = .ok (.bipush (-4), 2) := by decide +kernel
theorem dX0_addPerson_93 : decode cX0_addPerson 93 = .ok (.invokevirtual 34, 3) := by decide +kernel
theorem dX0_addPerson_96 : decode cX0_addPerson 96 = .ok (.aload_n 0, 1) := by decide +kernel
theorem dX0_addPerson_97 : decode cX0_addPerson 97 = .ok (.dup, 1) := by decide +kernel
theorem dX0_addPerson_98 : decode cX0_addPerson 98 = .ok (.getfield 18, 3) := by decide +kernel
theorem dX0_addPerson_101 : decode cX0_addPerson 101 = .ok (.iconst 1, 1) := by decide +kernel
theorem dX0_addPerson_102 : decode cX0_addPerson 102 = .ok (.iadd, 1) := by decide +kernel
theorem dX0_addPerson_103 : decode cX0_addPerson 103 = .ok (.putfield 18, 3) := by decide +kernel
theorem dX0_addPerson_106 : decode cX0_addPerson 106 = .ok (.return_, 1) := by decide +kernel
theorem dX0_addWrong_0 : decode cX0_addWrong 0 = .ok (.aload_n 0, 1) := by decide +kernel
theorem dX0_addWrong_1 : decode cX0_addWrong 1 = .ok (.getfield 22, 3) := by decide +kernel
theorem dX0_addWrong_4 : decode cX0_addWrong 4 = .ok (.bipush 8, 2) := by decide +kernel
theorem dX0_addWrong_6 : decode cX0_addWrong 6 = .ok (.if_icmp .lt 4, 3) := by decide +kernel
theorem dX0_addWrong_9 : decode cX0_addWrong 9 = .ok (.return_, 1) := by decide +kernel
theorem dX0_addWrong_10 : decode cX0_addWrong 10 = .ok (.aload_n 0, 1) := by decide +kernel
theorem dX0_addWrong_11 : decode cX0_addWrong 11 = .ok (.aload_n 0, 1) := by decide +kernel
theorem dX0_addWrong_12 : decode cX0_addWrong 12 = .ok (.getfield 22, 3) := by decide +kernel
theorem dX0_addWrong_15 : decode cX0_addWrong 15 = .ok (.iconst 0, 1) := by decide +kernel
theorem dX0_addWrong_16 : decode cX0_addWrong 16 = .ok (.iload_n 1, 1) := by decide +kernel
theorem dX0_addWrong_17 : decode cX0_addWrong 17 = .ok (.invokevirtual 38, 3) := by decide +kernel
theorem dX0_addWrong_20 : decode cX0_addWrong 20 = .ok (.aload_n 0, 1) := by decide +kernel
theorem dX0_addWrong_21 : decode cX0_addWrong 21 = .ok (.aload_n 0, 1) := by decide +kernel
theorem dX0_addWrong_22 : decode cX0_addWrong 22 = .ok (.getfield 22, 3) := by decide +kernel
theorem dX0_addWrong_25 : decode cX0_addWrong 25 = .ok (.iconst 1, 1) := by decide +kernel
theorem dX0_addWrong_26 : decode cX0_addWrong 26 = .ok (.iload_n 2, 1) := by decide +kernel
theorem dX0_addWrong_27 : decode cX0_addWrong 27 = .ok (.invokevirtual 38, 3) := by decide +kernel
theorem dX0_addWrong_30 : decode cX0_addWrong 30 = .ok (.aload_n 0, 1) := by decide +kernel
theorem dX0_addWrong_31 : decode cX0_addWrong 31 = .ok (.aload_n 0, 1) := by decide +kernel
theorem dX0_addWrong_32 : decode cX0_addWrong 32 = .ok (.getfield 22, 3) := by decide +kernel
theorem dX0_addWrong_35 : decode cX0_addWrong 35 = .ok (.iconst 2, 1) := by decide +kernel
theorem dX0_addWrong_36 : decode cX0_addWrong 36 = .ok (.iload_n 3, 1) := by decide +kernel
theorem dX0_addWrong_37 : decode cX0_addWrong 37 = .ok (.invokevirtual 38, 3) := by decide +kernel
theorem dX0_addWrong_40 : decode cX0_addWrong 40 = .ok (.aload_n 0, 1) := by decide +kernel
theorem dX0_addWrong_41 : decode cX0_addWrong 41 = .ok (.aload_n 0, 1) := by decide +kernel
theorem dX0_addWrong_42 : decode cX0_addWrong 42 = .ok (.getfield 22, 3) := by decide +kernel
theorem dX0_addWrong_45 : decode cX0_addWrong 45 = .ok (.iconst 3, 1) := by decide +kernel
theorem dX0_addWrong_46 : decode cX0_addWrong 46 = .ok (.bipush (-4), 2) := by decide +kernel
theorem dX0_addWrong_48 : decode cX0_addWrong 48 = .ok (.invokevirtual 38, 3) := by decide +kernel
theorem dX0_addWrong_51 : decode cX0_addWrong 51 = .ok (.aload_n 0, 1) := by decide +kernel
theorem dX0_addWrong_52 : decode cX0_addWrong 52 = .ok (.dup, 1) := by decide +kernel
theorem dX0_addWrong_53 : decode cX0_addWrong 53 = .ok (.getfield 22, 3) := by decide +kernel
theorem dX0_addWrong_56 : decode cX0_addWrong 56 = .ok (.iconst 1, 1) := by decide +kernel
theorem dX0_addWrong_57 : decode cX0_addWrong 57 = .ok (.iadd, 1) := by decide +kernel
theorem dX0_addWrong_58 : decode cX0_addWrong 58 = .ok (.putfield 22, 3) := by decide +kernel
theorem dX0_addWrong_61 : decode cX0_addWrong 61 = .ok (.return_, 1) := by decide +kernel
theorem dX0_isOpen_0 : decode cX0_isOpen 0 = .ok (.aload_n 0, 1) := by decide +kernel
theorem dX0_isOpen_1 : decode cX0_isOpen 1 = .ok (.iload_n 1, 1) := by decide +kernel
theorem dX0_isOpen_2 : decode cX0_isOpen 2 = .ok (.iconst 3, 1) := by decide +kernel
theorem dX0_isOpen_3 : decode cX0_isOpen 3 = .ok (.invokevirtual 41, 3) := by decide +kernel
theorem dX0_isOpen_6 : decode cX0_isOpen 6 = .ok (.bipush (-4), 2) := by decide +kernel
theorem dX0_isOpen_8 : decode cX0_isOpen 8 = .ok (.if_icmp .ne 7, 3) := by decide +kernel
theorem dX0_isOpen_11 : decode cX0_isOpen 11 = .ok (.iconst 1, 1) := by decide +kernel
theorem dX0_isOpen_12 : decode cX0_isOpen 12 = .ok (.goto 4, 3) := by decide +kernel
theorem dX0_isOpen_15 : decode cX0_isOpen 15 = .ok (.iconst 0, 1) := by decide +kernel
theorem dX0_isOpen_16 : decode cX0_isOpen 16 = .ok (.ireturn, 1) := by decide +kernel
theorem dX0_need_0 : decode cX0_need 0 = .ok (.aload_n 0, 1) := by decide +kernel
theorem dX0_need_1 : decode cX0_need 1 = .ok (.iload_n 1, 1) := by decide +kernel
theorem dX0_need_2 : decode cX0_need 2 = .ok (.iconst 2, 1) := by decide +kernel
theorem dX0_need_3 : decode cX0_need 3 = .ok (.invokevirtual 41, 3) := by decide +kernel
theorem dX0_need_6 : decode cX0_need 6 = .ok (.aload_n 0, 1) := by decide +kernel
theorem dX0_need_7 : decode cX0_need 7 = .ok (.aload_n 0, 1) := by decide +kernel
theorem dX0_need_8 : decode cX0_need 8 = .ok (.iload_n 1, 1) := by decide +kernel
theorem dX0_need_9 : decode cX0_need 9 = .ok (.iconst 1, 1) := by decide +kernel
theorem dX0_need_10 : decode cX0_need 10 = .ok (.invokevirtual 41, 3) := by decide +kernel
theorem dX0_need_13 : decode cX0_need 13 = .ok (.iconst 2, 1) := by decide +kernel
theorem dX0_need_14 : decode cX0_need 14 = .ok (.invokevirtual 45, 3) := by decide +kernel
theorem dX0_need_17 : decode cX0_need 17 = .ok (.iconst 2, 1) := by decide +kernel
theorem dX0_need_18 : decode cX0_need 18 = .ok (.idiv, 1) := by decide +kernel
theorem dX0_need_19 : decode cX0_need 19 = .ok (.iadd, 1) := by decide +kernel
theorem dX0_need_20 : decode cX0_need 20 = .ok (.ireturn, 1) := by decide +kernel
theorem dX0_milesOf_0 : decode cX0_milesOf 0 = .ok (.aload_n 0, 1) := by decide +kernel
theorem dX0_milesOf_1 : decode cX0_milesOf 1 = .ok (.iload_n 2, 1) := by decide +kernel
theorem dX0_milesOf_2 : decode cX0_milesOf 2 = .ok (.iconst 4, 1) := by decide +kernel
theorem dX0_milesOf_3 : decode cX0_milesOf 3 = .ok (.invokevirtual 45, 3) := by decide +kernel
theorem dX0_milesOf_6 : decode cX0_milesOf 6 = .ok (.aload_n 0, 1) := by decide +kernel
theorem dX0_milesOf_7 : decode cX0_milesOf 7 = .ok (.aload_n 0, 1) := by decide +kernel
theorem dX0_milesOf_8 : decode cX0_milesOf 8 = .ok (.iload_n 1, 1) := by decide +kernel
theorem dX0_milesOf_9 : decode cX0_milesOf 9 = .ok (.iconst 1, 1) := by decide +kernel
theorem dX0_milesOf_10 : decode cX0_milesOf 10 = .ok (.invokevirtual 41, 3) := by decide +kernel
theorem dX0_milesOf_13 : decode cX0_milesOf 13 = .ok (.iconst 3, 1) := by decide +kernel
theorem dX0_milesOf_14 : decode cX0_milesOf 14 = .ok (.invokevirtual 45, 3) := by decide +kernel
theorem dX0_milesOf_17 : decode cX0_milesOf 17 = .ok (.isub, 1) := by decide +kernel
theorem dX0_milesOf_18 : decode cX0_milesOf 18 = .ok (.invokestatic 48, 3) := by decide +kernel
theorem dX0_milesOf_21 : decode cX0_milesOf 21 = .ok (.ireturn, 1) := by decide +kernel
theorem dX0_saying_0 : decode cX0_saying 0 = .ok (.aload_n 0, 1) := by decide +kernel
theorem dX0_saying_1 : decode cX0_saying 1 = .ok (.iload_n 2, 1) := by decide +kernel
theorem dX0_saying_2 : decode cX0_saying 2 = .ok (.iconst 0, 1) := by decide +kernel
theorem dX0_saying_3 : decode cX0_saying 3 = .ok (.invokevirtual 45, 3) := by decide +kernel
theorem dX0_saying_6 : decode cX0_saying 6 = .ok (.aload_n 0, 1) := by decide +kernel
theorem dX0_saying_7 : decode cX0_saying 7 = .ok (.iload_n 2, 1) := by decide +kernel
theorem dX0_saying_8 : decode cX0_saying 8 = .ok (.iconst 1, 1) := by decide +kernel
theorem dX0_saying_9 : decode cX0_saying 9 = .ok (.invokevirtual 45, 3) := by decide +kernel
theorem dX0_saying_12 : decode cX0_saying 12 = .ok (.aload_n 0, 1) := by decide +kernel
theorem dX0_saying_13 : decode cX0_saying 13 = .ok (.iload_n 2, 1) := by decide +kernel
theorem dX0_saying_14 : decode cX0_saying 14 = .ok (.bipush 6, 2) := by decide +kernel
theorem dX0_saying_16 : decode cX0_saying 16 = .ok (.invokevirtual 45, 3) := by decide +kernel
theorem dX0_saying_19 : decode cX0_saying 19 = .ok (.aload_n 0, 1) := by decide +kernel
theorem dX0_saying_20 : decode cX0_saying 20 = .ok (.iload_n 1, 1) := by decide +kernel
theorem dX0_saying_21 : decode cX0_saying 21 = .ok (.iload_n 2, 1) := by decide +kernel
theorem dX0_saying_22 : decode cX0_saying 22 = .ok (.invokevirtual 54, 3) := by decide +kernel
theorem dX0_saying_25 : decode cX0_saying 25 = .ok (.invokestatic 57, 3) := by decide +kernel
theorem dX0_saying_28 : decode cX0_saying 28 = .ok (.ireturn, 1) := by decide +kernel
theorem dX0_mayCarry_0 : decode cX0_mayCarry 0 = .ok (.aload_n 0, 1) := by decide +kernel
theorem dX0_mayCarry_1 : decode cX0_mayCarry 1 = .ok (.iload_n 1, 1) := by decide +kernel
theorem dX0_mayCarry_2 : decode cX0_mayCarry 2 = .ok (.invokevirtual 61, 3) := by decide +kernel
theorem dX0_mayCarry_5 : decode cX0_mayCarry 5 = .ok (.ifCond .eq 19, 3) := by decide +kernel
theorem dX0_mayCarry_8 : decode cX0_mayCarry 8 = .ok (.aload_n 0, 1) := by decide +kernel
theorem dX0_mayCarry_9 : decode cX0_mayCarry 9 = .ok (.iload_n 2, 1) := by decide +kernel
theorem dX0_mayCarry_10 : decode cX0_mayCarry 10 = .ok (.invokevirtual 65, 3) := by decide +kernel
theorem dX0_mayCarry_13 : decode cX0_mayCarry 13 = .ok (.ifCond .eq 11, 3) := by decide +kernel
theorem dX0_mayCarry_16 : decode cX0_mayCarry 16 = .ok (.aload_n 0, 1) := by decide +kernel
theorem dX0_mayCarry_17 : decode cX0_mayCarry 17 = .ok (.iload_n 1, 1) := by decide +kernel
theorem dX0_mayCarry_18 : decode cX0_mayCarry 18 = .ok (.invokevirtual 68, 3) := by decide +kernel
theorem dX0_mayCarry_21 : decode cX0_mayCarry 21 = .ok (.ifCond .ne 5, 3) := by decide +kernel
theorem dX0_mayCarry_24 : decode cX0_mayCarry 24 = .ok (.iconst 0, 1) := by decide +kernel
theorem dX0_mayCarry_25 : decode cX0_mayCarry 25 = .ok (.ireturn, 1) := by decide +kernel
theorem dX0_mayCarry_26 : decode cX0_mayCarry 26 = .ok (.aload_n 0, 1) := by decide +kernel
theorem dX0_mayCarry_27 : decode cX0_mayCarry 27 = .ok (.iload_n 1, 1) := by decide +kernel
theorem dX0_mayCarry_28 : decode cX0_mayCarry 28 = .ok (.iconst 1, 1) := by decide +kernel
theorem dX0_mayCarry_29 : decode cX0_mayCarry 29 = .ok (.invokevirtual 41, 3) := by decide +kernel
theorem dX0_mayCarry_32 : decode cX0_mayCarry 32 = .ok (.istore_n 3, 1) := by decide +kernel
theorem dX0_mayCarry_33 : decode cX0_mayCarry 33 = .ok (.aload_n 0, 1) := by decide +kernel
theorem dX0_mayCarry_34 : decode cX0_mayCarry 34 = .ok (.iload_n 2, 1) := by decide +kernel
theorem dX0_mayCarry_35 : decode cX0_mayCarry 35 = .ok (.iconst 5, 1) := by decide +kernel
theorem dX0_mayCarry_36 : decode cX0_mayCarry 36 = .ok (.invokevirtual 45, 3) := by decide +kernel
theorem dX0_mayCarry_39 : decode cX0_mayCarry 39 = .ok (.aload_n 0, 1) := by decide +kernel
theorem dX0_mayCarry_40 : decode cX0_mayCarry 40 = .ok (.iload_n 1, 1) := by decide +kernel
theorem dX0_mayCarry_41 : decode cX0_mayCarry 41 = .ok (.iconst 0, 1) := by decide +kernel
theorem dX0_mayCarry_42 : decode cX0_mayCarry 42 = .ok (.invokevirtual 41, 3) := by decide +kernel
theorem dX0_mayCarry_45 : decode cX0_mayCarry 45 = .ok (.if_icmp .ne 34, 3) := by decide +kernel
theorem dX0_mayCarry_48 : decode cX0_mayCarry 48 = .ok (.iload_n 2, 1) := by decide +kernel
theorem dX0_mayCarry_49 : decode cX0_mayCarry 49 = .ok (.iload_n 3, 1) := by decide +kernel
theorem dX0_mayCarry_50 : decode cX0_mayCarry 50 = .ok (.if_icmp .eq 29, 3) := by decide +kernel
theorem dX0_mayCarry_53 : decode cX0_mayCarry 53 = .ok (.aload_n 0, 1) := by decide +kernel
theorem dX0_mayCarry_54 : decode cX0_mayCarry 54 = .ok (.iload_n 2, 1) := by decide +kernel
theorem dX0_mayCarry_55 : decode cX0_mayCarry 55 = .ok (.iconst 4, 1) := by decide +kernel
theorem dX0_mayCarry_56 : decode cX0_mayCarry 56 = .ok (.invokevirtual 45, 3) := by decide +kernel
theorem dX0_mayCarry_59 : decode cX0_mayCarry 59 = .ok (.aload_n 0, 1) := by decide +kernel
theorem dX0_mayCarry_60 : decode cX0_mayCarry 60 = .ok (.iload_n 3, 1) := by decide +kernel
theorem dX0_mayCarry_61 : decode cX0_mayCarry 61 = .ok (.iconst 3, 1) := by decide +kernel
theorem dX0_mayCarry_62 : decode cX0_mayCarry 62 = .ok (.invokevirtual 45, 3) := by decide +kernel
theorem dX0_mayCarry_65 : decode cX0_mayCarry 65 = .ok (.aload_n 0, 1) := by decide +kernel
theorem dX0_mayCarry_66 : decode cX0_mayCarry 66 = .ok (.getfield 25, 3) := by decide +kernel
theorem dX0_mayCarry_69 : decode cX0_mayCarry 69 = .ok (.invokestatic 71, 3) := by decide +kernel
theorem dX0_mayCarry_72 : decode cX0_mayCarry 72 = .ok (.ifCond .ne 7, 3) := by decide +kernel
theorem dX0_mayCarry_75 : decode cX0_mayCarry 75 = .ok (.iconst 1, 1) := by decide +kernel
theorem dX0_mayCarry_76 : decode cX0_mayCarry 76 = .ok (.goto 4, 3) := by decide +kernel
theorem dX0_mayCarry_79 : decode cX0_mayCarry 79 = .ok (.iconst 0, 1) := by decide +kernel
theorem dX0_mayCarry_80 : decode cX0_mayCarry 80 = .ok (.ireturn, 1) := by decide +kernel
theorem dX0_outcome_0 : decode cX0_outcome 0 = .ok (.aload_n 0, 1) := by decide +kernel
theorem dX0_outcome_1 : decode cX0_outcome 1 = .ok (.iload_n 1, 1) := by decide +kernel
theorem dX0_outcome_2 : decode cX0_outcome 2 = .ok (.iload_n 2, 1) := by decide +kernel
theorem dX0_outcome_3 : decode cX0_outcome 3 = .ok (.invokevirtual 75, 3) := by decide +kernel
theorem dX0_outcome_6 : decode cX0_outcome 6 = .ok (.aload_n 0, 1) := by decide +kernel
theorem dX0_outcome_7 : decode cX0_outcome 7 = .ok (.iload_n 1, 1) := by decide +kernel
theorem dX0_outcome_8 : decode cX0_outcome 8 = .ok (.invokevirtual 78, 3) := by decide +kernel
theorem dX0_outcome_11 : decode cX0_outcome 11 = .ok (.isub, 1) := by decide +kernel
theorem dX0_outcome_12 : decode cX0_outcome 12 = .ok (.istore_n 3, 1) := by decide +kernel
theorem dX0_outcome_13 : decode cX0_outcome 13 = .ok (.iload_n 3, 1) := by decide +kernel
theorem dX0_outcome_14 : decode cX0_outcome 14 = .ok (.ifCond .ge 5, 3) := by decide +kernel
theorem dX0_outcome_17 : decode cX0_outcome 17 = .ok (.iconst 0, 1) := by decide +kernel
theorem dX0_outcome_18 : decode cX0_outcome 18 = .ok (.ireturn, 1) := by decide +kernel
theorem dX0_outcome_19 : decode cX0_outcome 19 = .ok (.iload_n 3, 1) := by decide +kernel
theorem dX0_outcome_20 : decode cX0_outcome 20 = .ok (.iconst 4, 1) := by decide +kernel
theorem dX0_outcome_21 : decode cX0_outcome 21 = .ok (.if_icmp .lt 24, 3) := by decide +kernel
theorem dX0_outcome_24 : decode cX0_outcome 24 = .ok (.aload_n 0, 1) := by decide +kernel
theorem dX0_outcome_25 : decode cX0_outcome 25 = .ok (.aload_n 0, 1) := by decide +kernel
theorem dX0_outcome_26 : decode cX0_outcome 26 = .ok (.iload_n 1, 1) := by decide +kernel
theorem dX0_outcome_27 : decode cX0_outcome 27 = .ok (.iconst 1, 1) := by decide +kernel
theorem dX0_outcome_28 : decode cX0_outcome 28 = .ok (.invokevirtual 41, 3) := by decide +kernel
theorem dX0_outcome_31 : decode cX0_outcome 31 = .ok (.bipush 7, 2) := by decide +kernel
theorem dX0_outcome_33 : decode cX0_outcome 33 = .ok (.invokevirtual 45, 3) := by decide +kernel
theorem dX0_outcome_36 : decode cX0_outcome 36 = .ok (.bipush (-4), 2) := by decide +kernel
theorem dX0_outcome_38 : decode cX0_outcome 38 = .ok (.if_icmp .ne 7, 3) := by decide +kernel
theorem dX0_outcome_41 : decode cX0_outcome 41 = .ok (.iconst 2, 1) := by decide +kernel
theorem dX0_outcome_42 : decode cX0_outcome 42 = .ok (.goto 4, 3) := by decide +kernel
theorem dX0_outcome_45 : decode cX0_outcome 45 = .ok (.iconst 1, 1) := by decide +kernel
theorem dX0_outcome_46 : decode cX0_outcome 46 = .ok (.ireturn, 1) := by decide +kernel
theorem dX0_deliver_0 : decode cX0_deliver 0 = .ok (.aload_n 0, 1) := by decide +kernel
theorem dX0_deliver_1 : decode cX0_deliver 1 = .ok (.iload_n 1, 1) := by decide +kernel
theorem dX0_deliver_2 : decode cX0_deliver 2 = .ok (.iload_n 2, 1) := by decide +kernel
theorem dX0_deliver_3 : decode cX0_deliver 3 = .ok (.invokevirtual 81, 3) := by decide +kernel
theorem dX0_deliver_6 : decode cX0_deliver 6 = .ok (.istore_n 3, 1) := by decide +kernel
theorem dX0_deliver_7 : decode cX0_deliver 7 = .ok (.aload_n 0, 1) := by decide +kernel
theorem dX0_deliver_8 : decode cX0_deliver 8 = .ok (.iload_n 1, 1) := by decide +kernel
theorem dX0_deliver_9 : decode cX0_deliver 9 = .ok (.iconst 1, 1) := by decide +kernel
theorem dX0_deliver_10 : decode cX0_deliver 10 = .ok (.invokevirtual 41, 3) := by decide +kernel
theorem dX0_deliver_13 : decode cX0_deliver 13 = .ok (.istore 4, 2) := by decide +kernel
theorem dX0_deliver_15 : decode cX0_deliver 15 = .ok (.iload_n 3, 1) := by decide +kernel
theorem dX0_deliver_16 : decode cX0_deliver 16 = .ok (.ifCond .ne 37, 3) := by decide +kernel
theorem dX0_deliver_19 : decode cX0_deliver 19 = .ok (.aload_n 0, 1) := by decide +kernel
theorem dX0_deliver_20 : decode cX0_deliver 20 = .ok (.iload_n 1, 1) := by decide +kernel
theorem dX0_deliver_21 : decode cX0_deliver 21 = .ok (.iconst 2, 1) := by decide +kernel
theorem dX0_deliver_22 : decode cX0_deliver 22 = .ok (.invokevirtual 41, 3) := by decide +kernel
theorem dX0_deliver_25 : decode cX0_deliver 25 = .ok (.aload_n 0, 1) := by decide +kernel
theorem dX0_deliver_26 : decode cX0_deliver 26 = .ok (.iload_n 2, 1) := by decide +kernel
theorem dX0_deliver_27 : decode cX0_deliver 27 = .ok (.iconst 0, 1) := by decide +kernel
theorem dX0_deliver_28 : decode cX0_deliver 28 = .ok (.invokevirtual 45, 3) := by decide +kernel
theorem dX0_deliver_31 : decode cX0_deliver 31 = .ok (.invokestatic 84, 3) := by decide +kernel
theorem dX0_deliver_34 : decode cX0_deliver 34 = .ok (.iadd, 1) := by decide +kernel
theorem dX0_deliver_35 : decode cX0_deliver 35 = .ok (.istore 5, 2) := by decide +kernel
theorem dX0_deliver_37 : decode cX0_deliver 37 = .ok (.aload_n 0, 1) := by decide +kernel
theorem dX0_deliver_38 : decode cX0_deliver 38 = .ok (.iload_n 1, 1) := by decide +kernel
theorem dX0_deliver_39 : decode cX0_deliver 39 = .ok (.iconst 2, 1) := by decide +kernel
theorem dX0_deliver_40 : decode cX0_deliver 40 = .ok (.bipush 9, 2) := by decide +kernel
theorem dX0_deliver_42 : decode cX0_deliver 42 = .ok (.iload 5, 2) := by decide +kernel
theorem dX0_deliver_44 : decode cX0_deliver 44 = .ok (.invokestatic 87, 3) := by decide +kernel
theorem dX0_deliver_47 : decode cX0_deliver 47 = .ok (.invokevirtual 38, 3) := by decide +kernel
theorem dX0_deliver_50 : decode cX0_deliver 50 = .ok (.goto 10, 3) := by decide +kernel
theorem dX0_deliver_53 : decode cX0_deliver 53 = .ok (.aload_n 0, 1) := by decide +kernel
theorem dX0_deliver_54 : decode cX0_deliver 54 = .ok (.iload_n 1, 1) := by decide +kernel
theorem dX0_deliver_55 : decode cX0_deliver 55 = .ok (.iconst 3, 1) := by decide +kernel
theorem dX0_deliver_56 : decode cX0_deliver 56 = .ok (.iload_n 2, 1) := by decide +kernel
theorem dX0_deliver_57 : decode cX0_deliver 57 = .ok (.invokevirtual 38, 3) := by decide +kernel
theorem dX0_deliver_60 : decode cX0_deliver 60 = .ok (.iload_n 3, 1) := by decide +kernel
theorem dX0_deliver_61 : decode cX0_deliver 61 = .ok (.iconst 2, 1) := by decide +kernel
theorem dX0_deliver_62 : decode cX0_deliver 62 = .ok (.if_icmp .ne 20, 3) := by decide +kernel
theorem dX0_deliver_65 : decode cX0_deliver 65 = .ok (.aload_n 0, 1) := by decide +kernel
theorem dX0_deliver_66 : decode cX0_deliver 66 = .ok (.iload 4, 2) := by decide +kernel
theorem dX0_deliver_68 : decode cX0_deliver 68 = .ok (.bipush 7, 2) := by decide +kernel
theorem dX0_deliver_70 : decode cX0_deliver 70 = .ok (.iload_n 2, 1) := by decide +kernel
theorem dX0_deliver_71 : decode cX0_deliver 71 = .ok (.invokevirtual 34, 3) := by decide +kernel
theorem dX0_deliver_74 : decode cX0_deliver 74 = .ok (.aload_n 0, 1) := by decide +kernel
theorem dX0_deliver_75 : decode cX0_deliver 75 = .ok (.iload_n 2, 1) := by decide +kernel
theorem dX0_deliver_76 : decode cX0_deliver 76 = .ok (.iconst 5, 1) := by decide +kernel
theorem dX0_deliver_77 : decode cX0_deliver 77 = .ok (.bipush (-4), 2) := by decide +kernel
theorem dX0_deliver_79 : decode cX0_deliver 79 = .ok (.invokevirtual 34, 3) := by decide +kernel
theorem dX0_deliver_82 : decode cX0_deliver 82 = .ok (.aload_n 0, 1) := by decide +kernel
theorem dX0_deliver_83 : decode cX0_deliver 83 = .ok (.iload_n 2, 1) := by decide +kernel
theorem dX0_deliver_84 : decode cX0_deliver 84 = .ok (.iconst 4, 1) := by decide +kernel
theorem dX0_deliver_85 : decode cX0_deliver 85 = .ok (.aload_n 0, 1) := by decide +kernel
theorem dX0_deliver_86 : decode cX0_deliver 86 = .ok (.iload 4, 2) := by decide +kernel
theorem dX0_deliver_88 : decode cX0_deliver 88 = .ok (.iconst 3, 1) := by decide +kernel
theorem dX0_deliver_89 : decode cX0_deliver 89 = .ok (.invokevirtual 45, 3) := by decide +kernel
theorem dX0_deliver_92 : decode cX0_deliver 92 = .ok (.invokevirtual 34, 3) := by decide +kernel
theorem dX0_deliver_95 : decode cX0_deliver 95 = .ok (.aload_n 0, 1) := by decide +kernel
theorem dX0_deliver_96 : decode cX0_deliver 96 = .ok (.iload_n 2, 1) := by decide +kernel
theorem dX0_deliver_97 : decode cX0_deliver 97 = .ok (.bipush 6, 2) := by decide +kernel
theorem dX0_deliver_99 : decode cX0_deliver 99 = .ok (.aload_n 0, 1) := by decide +kernel
theorem dX0_deliver_100 : decode cX0_deliver 100 = .ok (.iload_n 2, 1) := by decide +kernel
theorem dX0_deliver_101 : decode cX0_deliver 101 = .ok (.bipush 6, 2) := by decide +kernel
theorem dX0_deliver_103 : decode cX0_deliver 103 = .ok (.invokevirtual 45, 3) := by decide +kernel
theorem dX0_deliver_106 : decode cX0_deliver 106 = .ok (.iconst 1, 1) := by decide +kernel
theorem dX0_deliver_107 : decode cX0_deliver 107 = .ok (.iadd, 1) := by decide +kernel
theorem dX0_deliver_108 : decode cX0_deliver 108 = .ok (.invokevirtual 34, 3) := by decide +kernel
theorem dX0_deliver_111 : decode cX0_deliver 111 = .ok (.aload_n 0, 1) := by decide +kernel
theorem dX0_deliver_112 : decode cX0_deliver 112 = .ok (.invokevirtual 90, 3) := by decide +kernel
theorem dX0_deliver_115 : decode cX0_deliver 115 = .ok (.iload_n 3, 1) := by decide +kernel
theorem dX0_deliver_116 : decode cX0_deliver 116 = .ok (.ireturn, 1) := by decide +kernel
theorem dX0_leastSkill_0 : decode cX0_leastSkill 0 = .ok (.iconst 0, 1) := by decide +kernel
theorem dX0_leastSkill_1 : decode cX0_leastSkill 1 = .ok (.istore_n 3, 1) := by decide +kernel
theorem dX0_leastSkill_2 : decode cX0_leastSkill 2 = .ok (.iload_n 3, 1) := by decide +kernel
theorem dX0_leastSkill_3 : decode cX0_leastSkill 3 = .ok (.bipush 9, 2) := by decide +kernel
theorem dX0_leastSkill_5 : decode cX0_leastSkill 5 = .ok (.if_icmp .gt 42, 3) := by decide +kernel
theorem dX0_leastSkill_8 : decode cX0_leastSkill 8 = .ok (.aload_n 0, 1) := by decide +kernel
theorem dX0_leastSkill_9 : decode cX0_leastSkill 9 = .ok (.iload_n 2, 1) := by decide +kernel
theorem dX0_leastSkill_10 : decode cX0_leastSkill 10 = .ok (.iconst 0, 1) := by decide +kernel
theorem dX0_leastSkill_11 : decode cX0_leastSkill 11 = .ok (.invokevirtual 45, 3) := by decide +kernel
theorem dX0_leastSkill_14 : decode cX0_leastSkill 14 = .ok (.iload_n 3, 1) := by decide +kernel
theorem dX0_leastSkill_15 : decode cX0_leastSkill 15 = .ok (.aload_n 0, 1) := by decide +kernel
theorem dX0_leastSkill_16 : decode cX0_leastSkill 16 = .ok (.iload_n 2, 1) := by decide +kernel
theorem dX0_leastSkill_17 : decode cX0_leastSkill 17 = .ok (.bipush 6, 2) := by decide +kernel
theorem dX0_leastSkill_19 : decode cX0_leastSkill 19 = .ok (.invokevirtual 45, 3) := by decide +kernel
theorem dX0_leastSkill_22 : decode cX0_leastSkill 22 = .ok (.aload_n 0, 1) := by decide +kernel
theorem dX0_leastSkill_23 : decode cX0_leastSkill 23 = .ok (.iload_n 1, 1) := by decide +kernel
theorem dX0_leastSkill_24 : decode cX0_leastSkill 24 = .ok (.iload_n 2, 1) := by decide +kernel
theorem dX0_leastSkill_25 : decode cX0_leastSkill 25 = .ok (.invokevirtual 54, 3) := by decide +kernel
theorem dX0_leastSkill_28 : decode cX0_leastSkill 28 = .ok (.invokestatic 57, 3) := by decide +kernel
theorem dX0_leastSkill_31 : decode cX0_leastSkill 31 = .ok (.aload_n 0, 1) := by decide +kernel
theorem dX0_leastSkill_32 : decode cX0_leastSkill 32 = .ok (.iload_n 1, 1) := by decide +kernel
theorem dX0_leastSkill_33 : decode cX0_leastSkill 33 = .ok (.invokevirtual 78, 3) := by decide +kernel
theorem dX0_leastSkill_36 : decode cX0_leastSkill 36 = .ok (.if_icmp .lt 5, 3) := by decide +kernel
theorem dX0_leastSkill_39 : decode cX0_leastSkill 39 = .ok (.iload_n 3, 1) := by decide +kernel
theorem dX0_leastSkill_40 : decode cX0_leastSkill 40 = .ok (.ireturn, 1) := by decide +kernel
theorem dX0_leastSkill_41 : decode cX0_leastSkill 41 = .ok (.iinc 3 1, 3) := by decide +kernel
theorem dX0_leastSkill_44 : decode cX0_leastSkill 44 = .ok (.goto (-42), 3) := by decide +kernel
theorem dX0_leastSkill_47 : decode cX0_leastSkill 47 = .ok (.bipush (-4), 2) := by decide +kernel
theorem dX0_leastSkill_49 : decode cX0_leastSkill 49 = .ok (.ireturn, 1) := by decide +kernel
theorem dX0_wantedAfter_0 : decode cX0_wantedAfter 0 = .ok (.iload_n 1, 1) := by decide +kernel
theorem dX0_wantedAfter_1 : decode cX0_wantedAfter 1 = .ok (.istore_n 3, 1) := by decide +kernel
theorem dX0_wantedAfter_2 : decode cX0_wantedAfter 2 = .ok (.iconst 0, 1) := by decide +kernel
theorem dX0_wantedAfter_3 : decode cX0_wantedAfter 3 = .ok (.istore 4, 2) := by decide +kernel
theorem dX0_wantedAfter_5 : decode cX0_wantedAfter 5 = .ok (.iload 4, 2) := by decide +kernel
theorem dX0_wantedAfter_7 : decode cX0_wantedAfter 7 = .ok (.iload_n 2, 1) := by decide +kernel
theorem dX0_wantedAfter_8 : decode cX0_wantedAfter 8 = .ok (.if_icmp .ge 22, 3) := by decide +kernel
theorem dX0_wantedAfter_11 : decode cX0_wantedAfter 11 = .ok (.iload_n 3, 1) := by decide +kernel
theorem dX0_wantedAfter_12 : decode cX0_wantedAfter 12 = .ok (.bipush (-4), 2) := by decide +kernel
theorem dX0_wantedAfter_14 : decode cX0_wantedAfter 14 = .ok (.if_icmp .eq 16, 3) := by decide +kernel
theorem dX0_wantedAfter_17 : decode cX0_wantedAfter 17 = .ok (.aload_n 0, 1) := by decide +kernel
theorem dX0_wantedAfter_18 : decode cX0_wantedAfter 18 = .ok (.iload_n 3, 1) := by decide +kernel
theorem dX0_wantedAfter_19 : decode cX0_wantedAfter 19 = .ok (.iconst 5, 1) := by decide +kernel
theorem dX0_wantedAfter_20 : decode cX0_wantedAfter 20 = .ok (.invokevirtual 45, 3) := by decide +kernel
theorem dX0_wantedAfter_23 : decode cX0_wantedAfter 23 = .ok (.istore_n 3, 1) := by decide +kernel
theorem dX0_wantedAfter_24 : decode cX0_wantedAfter 24 = .ok (.iinc 4 1, 3) := by decide +kernel
theorem dX0_wantedAfter_27 : decode cX0_wantedAfter 27 = .ok (.goto (-22), 3) := by decide +kernel
theorem dX0_wantedAfter_30 : decode cX0_wantedAfter 30 = .ok (.iload_n 3, 1) := by decide +kernel
theorem dX0_wantedAfter_31 : decode cX0_wantedAfter 31 = .ok (.ireturn, 1) := by decide +kernel
theorem dX0_chainRound_0 : decode cX0_chainRound 0 = .ok (.aload_n 0, 1) := by decide +kernel
theorem dX0_chainRound_1 : decode cX0_chainRound 1 = .ok (.iload_n 1, 1) := by decide +kernel
theorem dX0_chainRound_2 : decode cX0_chainRound 2 = .ok (.aload_n 0, 1) := by decide +kernel
theorem dX0_chainRound_3 : decode cX0_chainRound 3 = .ok (.getfield 18, 3) := by decide +kernel
theorem dX0_chainRound_6 : decode cX0_chainRound 6 = .ok (.invokevirtual 93, 3) := by decide +kernel
theorem dX0_chainRound_9 : decode cX0_chainRound 9 = .ok (.istore_n 2, 1) := by decide +kernel
theorem dX0_chainRound_10 : decode cX0_chainRound 10 = .ok (.iload_n 2, 1) := by decide +kernel
theorem dX0_chainRound_11 : decode cX0_chainRound 11 = .ok (.bipush (-4), 2) := by decide +kernel
theorem dX0_chainRound_13 : decode cX0_chainRound 13 = .ok (.if_icmp .ne 5, 3) := by decide +kernel
theorem dX0_chainRound_16 : decode cX0_chainRound 16 = .ok (.iconst 0, 1) := by decide +kernel
theorem dX0_chainRound_17 : decode cX0_chainRound 17 = .ok (.ireturn, 1) := by decide +kernel
theorem dX0_chainRound_18 : decode cX0_chainRound 18 = .ok (.iconst 1, 1) := by decide +kernel
theorem dX0_chainRound_19 : decode cX0_chainRound 19 = .ok (.istore_n 3, 1) := by decide +kernel
theorem dX0_chainRound_20 : decode cX0_chainRound 20 = .ok (.iload_n 3, 1) := by decide +kernel
theorem dX0_chainRound_21 : decode cX0_chainRound 21 = .ok (.aload_n 0, 1) := by decide +kernel
theorem dX0_chainRound_22 : decode cX0_chainRound 22 = .ok (.getfield 18, 3) := by decide +kernel
theorem dX0_chainRound_25 : decode cX0_chainRound 25 = .ok (.if_icmp .ge 19, 3) := by decide +kernel
theorem dX0_chainRound_28 : decode cX0_chainRound 28 = .ok (.aload_n 0, 1) := by decide +kernel
theorem dX0_chainRound_29 : decode cX0_chainRound 29 = .ok (.iload_n 2, 1) := by decide +kernel
theorem dX0_chainRound_30 : decode cX0_chainRound 30 = .ok (.iload_n 3, 1) := by decide +kernel
theorem dX0_chainRound_31 : decode cX0_chainRound 31 = .ok (.invokevirtual 93, 3) := by decide +kernel
theorem dX0_chainRound_34 : decode cX0_chainRound 34 = .ok (.iload_n 2, 1) := by decide +kernel
theorem dX0_chainRound_35 : decode cX0_chainRound 35 = .ok (.if_icmp .eq 9, 3) := by decide +kernel
theorem dX0_chainRound_38 : decode cX0_chainRound 38 = .ok (.iinc 3 1, 3) := by decide +kernel
theorem dX0_chainRound_41 : decode cX0_chainRound 41 = .ok (.goto (-21), 3) := by decide +kernel
theorem dX0_chainRound_44 : decode cX0_chainRound 44 = .ok (.iload_n 3, 1) := by decide +kernel
theorem dX0_chainRound_45 : decode cX0_chainRound 45 = .ok (.ireturn, 1) := by decide +kernel
theorem dX0_chainAhead_0 : decode cX0_chainAhead 0 = .ok (.aload_n 0, 1) := by decide +kernel
theorem dX0_chainAhead_1 : decode cX0_chainAhead 1 = .ok (.iload_n 1, 1) := by decide +kernel
theorem dX0_chainAhead_2 : decode cX0_chainAhead 2 = .ok (.invokevirtual 96, 3) := by decide +kernel
theorem dX0_chainAhead_5 : decode cX0_chainAhead 5 = .ok (.istore_n 2, 1) := by decide +kernel
theorem dX0_chainAhead_6 : decode cX0_chainAhead 6 = .ok (.iconst 0, 1) := by decide +kernel
theorem dX0_chainAhead_7 : decode cX0_chainAhead 7 = .ok (.istore_n 3, 1) := by decide +kernel
theorem dX0_chainAhead_8 : decode cX0_chainAhead 8 = .ok (.iload_n 3, 1) := by decide +kernel
theorem dX0_chainAhead_9 : decode cX0_chainAhead 9 = .ok (.aload_n 0, 1) := by decide +kernel
theorem dX0_chainAhead_10 : decode cX0_chainAhead 10 = .ok (.getfield 18, 3) := by decide +kernel
theorem dX0_chainAhead_13 : decode cX0_chainAhead 13 = .ok (.if_icmp .ge 35, 3) := by decide +kernel
theorem dX0_chainAhead_16 : decode cX0_chainAhead 16 = .ok (.aload_n 0, 1) := by decide +kernel
theorem dX0_chainAhead_17 : decode cX0_chainAhead 17 = .ok (.iload_n 1, 1) := by decide +kernel
theorem dX0_chainAhead_18 : decode cX0_chainAhead 18 = .ok (.iload_n 3, 1) := by decide +kernel
theorem dX0_chainAhead_19 : decode cX0_chainAhead 19 = .ok (.invokevirtual 93, 3) := by decide +kernel
theorem dX0_chainAhead_22 : decode cX0_chainAhead 22 = .ok (.iload_n 2, 1) := by decide +kernel
theorem dX0_chainAhead_23 : decode cX0_chainAhead 23 = .ok (.ifCond .ne 8, 3) := by decide +kernel
theorem dX0_chainAhead_26 : decode cX0_chainAhead 26 = .ok (.bipush (-4), 2) := by decide +kernel
theorem dX0_chainAhead_28 : decode cX0_chainAhead 28 = .ok (.goto 11, 3) := by decide +kernel
theorem dX0_chainAhead_31 : decode cX0_chainAhead 31 = .ok (.aload_n 0, 1) := by decide +kernel
theorem dX0_chainAhead_32 : decode cX0_chainAhead 32 = .ok (.iload_n 1, 1) := by decide +kernel
theorem dX0_chainAhead_33 : decode cX0_chainAhead 33 = .ok (.iload_n 3, 1) := by decide +kernel
theorem dX0_chainAhead_34 : decode cX0_chainAhead 34 = .ok (.iload_n 2, 1) := by decide +kernel
theorem dX0_chainAhead_35 : decode cX0_chainAhead 35 = .ok (.iadd, 1) := by decide +kernel
theorem dX0_chainAhead_36 : decode cX0_chainAhead 36 = .ok (.invokevirtual 93, 3) := by decide +kernel
theorem dX0_chainAhead_39 : decode cX0_chainAhead 39 = .ok (.if_icmp .eq 9, 3) := by decide +kernel
theorem dX0_chainAhead_42 : decode cX0_chainAhead 42 = .ok (.iinc 3 1, 3) := by decide +kernel
theorem dX0_chainAhead_45 : decode cX0_chainAhead 45 = .ok (.goto (-37), 3) := by decide +kernel
theorem dX0_chainAhead_48 : decode cX0_chainAhead 48 = .ok (.iload_n 3, 1) := by decide +kernel
theorem dX0_chainAhead_49 : decode cX0_chainAhead 49 = .ok (.ireturn, 1) := by decide +kernel
theorem dX0_forgiven_0 : decode cX0_forgiven 0 = .ok (.aload_n 0, 1) := by decide +kernel
theorem dX0_forgiven_1 : decode cX0_forgiven 1 = .ok (.getfield 22, 3) := by decide +kernel
theorem dX0_forgiven_4 : decode cX0_forgiven 4 = .ok (.aload_n 0, 1) := by decide +kernel
theorem dX0_forgiven_5 : decode cX0_forgiven 5 = .ok (.invokevirtual 99, 3) := by decide +kernel
theorem dX0_forgiven_8 : decode cX0_forgiven 8 = .ok (.invokestatic 103, 3) := by decide +kernel
theorem dX0_forgiven_11 : decode cX0_forgiven 11 = .ok (.isub, 1) := by decide +kernel
theorem dX0_forgiven_12 : decode cX0_forgiven 12 = .ok (.ireturn, 1) := by decide +kernel
theorem dX0_openSet_0 : decode cX0_openSet 0 = .ok (.iconst 0, 1) := by decide +kernel
theorem dX0_openSet_1 : decode cX0_openSet 1 = .ok (.istore_n 1, 1) := by decide +kernel
theorem dX0_openSet_2 : decode cX0_openSet 2 = .ok (.iconst 0, 1) := by decide +kernel
theorem dX0_openSet_3 : decode cX0_openSet 3 = .ok (.istore_n 2, 1) := by decide +kernel
theorem dX0_openSet_4 : decode cX0_openSet 4 = .ok (.iload_n 2, 1) := by decide +kernel
theorem dX0_openSet_5 : decode cX0_openSet 5 = .ok (.aload_n 0, 1) := by decide +kernel
theorem dX0_openSet_6 : decode cX0_openSet 6 = .ok (.getfield 22, 3) := by decide +kernel
theorem dX0_openSet_9 : decode cX0_openSet 9 = .ok (.if_icmp .ge 23, 3) := by decide +kernel
theorem dX0_openSet_12 : decode cX0_openSet 12 = .ok (.aload_n 0, 1) := by decide +kernel
theorem dX0_openSet_13 : decode cX0_openSet 13 = .ok (.iload_n 2, 1) := by decide +kernel
theorem dX0_openSet_14 : decode cX0_openSet 14 = .ok (.invokevirtual 68, 3) := by decide +kernel
theorem dX0_openSet_17 : decode cX0_openSet 17 = .ok (.ifCond .eq 9, 3) := by decide +kernel
theorem dX0_openSet_20 : decode cX0_openSet 20 = .ok (.iload_n 1, 1) := by decide +kernel
theorem dX0_openSet_21 : decode cX0_openSet 21 = .ok (.iconst 1, 1) := by decide +kernel
theorem dX0_openSet_22 : decode cX0_openSet 22 = .ok (.iload_n 2, 1) := by decide +kernel
theorem dX0_openSet_23 : decode cX0_openSet 23 = .ok (.ishl, 1) := by decide +kernel
theorem dX0_openSet_24 : decode cX0_openSet 24 = .ok (.ior, 1) := by decide +kernel
theorem dX0_openSet_25 : decode cX0_openSet 25 = .ok (.istore_n 1, 1) := by decide +kernel
theorem dX0_openSet_26 : decode cX0_openSet 26 = .ok (.iinc 2 1, 3) := by decide +kernel
theorem dX0_openSet_29 : decode cX0_openSet 29 = .ok (.goto (-25), 3) := by decide +kernel
theorem dX0_openSet_32 : decode cX0_openSet 32 = .ok (.iload_n 1, 1) := by decide +kernel
theorem dX0_openSet_33 : decode cX0_openSet 33 = .ok (.ireturn, 1) := by decide +kernel
theorem dX0_openWeight_0 : decode cX0_openWeight 0 = .ok (.iconst 0, 1) := by decide +kernel
theorem dX0_openWeight_1 : decode cX0_openWeight 1 = .ok (.istore_n 1, 1) := by decide +kernel
theorem dX0_openWeight_2 : decode cX0_openWeight 2 = .ok (.iconst 0, 1) := by decide +kernel
theorem dX0_openWeight_3 : decode cX0_openWeight 3 = .ok (.istore_n 2, 1) := by decide +kernel
theorem dX0_openWeight_4 : decode cX0_openWeight 4 = .ok (.iload_n 2, 1) := by decide +kernel
theorem dX0_openWeight_5 : decode cX0_openWeight 5 = .ok (.aload_n 0, 1) := by decide +kernel
theorem dX0_openWeight_6 : decode cX0_openWeight 6 = .ok (.getfield 22, 3) := by decide +kernel
theorem dX0_openWeight_9 : decode cX0_openWeight 9 = .ok (.if_icmp .ge 26, 3) := by decide +kernel
theorem dX0_openWeight_12 : decode cX0_openWeight 12 = .ok (.aload_n 0, 1) := by decide +kernel
theorem dX0_openWeight_13 : decode cX0_openWeight 13 = .ok (.iload_n 2, 1) := by decide +kernel
theorem dX0_openWeight_14 : decode cX0_openWeight 14 = .ok (.invokevirtual 68, 3) := by decide +kernel
theorem dX0_openWeight_17 : decode cX0_openWeight 17 = .ok (.ifCond .eq 12, 3) := by decide +kernel
theorem dX0_openWeight_20 : decode cX0_openWeight 20 = .ok (.iload_n 1, 1) := by decide +kernel
theorem dX0_openWeight_21 : decode cX0_openWeight 21 = .ok (.aload_n 0, 1) := by decide +kernel
theorem dX0_openWeight_22 : decode cX0_openWeight 22 = .ok (.iload_n 2, 1) := by decide +kernel
theorem dX0_openWeight_23 : decode cX0_openWeight 23 = .ok (.iconst 2, 1) := by decide +kernel
theorem dX0_openWeight_24 : decode cX0_openWeight 24 = .ok (.invokevirtual 41, 3) := by decide +kernel
theorem dX0_openWeight_27 : decode cX0_openWeight 27 = .ok (.iadd, 1) := by decide +kernel
theorem dX0_openWeight_28 : decode cX0_openWeight 28 = .ok (.istore_n 1, 1) := by decide +kernel
theorem dX0_openWeight_29 : decode cX0_openWeight 29 = .ok (.iinc 2 1, 3) := by decide +kernel
theorem dX0_openWeight_32 : decode cX0_openWeight 32 = .ok (.goto (-28), 3) := by decide +kernel
theorem dX0_openWeight_35 : decode cX0_openWeight 35 = .ok (.iload_n 1, 1) := by decide +kernel
theorem dX0_openWeight_36 : decode cX0_openWeight 36 = .ok (.ireturn, 1) := by decide +kernel
theorem dX0_wonSet_0 : decode cX0_wonSet 0 = .ok (.iconst 0, 1) := by decide +kernel
theorem dX0_wonSet_1 : decode cX0_wonSet 1 = .ok (.istore_n 1, 1) := by decide +kernel
theorem dX0_wonSet_2 : decode cX0_wonSet 2 = .ok (.iconst 0, 1) := by decide +kernel
theorem dX0_wonSet_3 : decode cX0_wonSet 3 = .ok (.istore_n 2, 1) := by decide +kernel
theorem dX0_wonSet_4 : decode cX0_wonSet 4 = .ok (.iload_n 2, 1) := by decide +kernel
theorem dX0_wonSet_5 : decode cX0_wonSet 5 = .ok (.aload_n 0, 1) := by decide +kernel
theorem dX0_wonSet_6 : decode cX0_wonSet 6 = .ok (.getfield 18, 3) := by decide +kernel
theorem dX0_wonSet_9 : decode cX0_wonSet 9 = .ok (.if_icmp .ge 27, 3) := by decide +kernel
theorem dX0_wonSet_12 : decode cX0_wonSet 12 = .ok (.aload_n 0, 1) := by decide +kernel
theorem dX0_wonSet_13 : decode cX0_wonSet 13 = .ok (.iload_n 2, 1) := by decide +kernel
theorem dX0_wonSet_14 : decode cX0_wonSet 14 = .ok (.bipush 7, 2) := by decide +kernel
theorem dX0_wonSet_16 : decode cX0_wonSet 16 = .ok (.invokevirtual 45, 3) := by decide +kernel
theorem dX0_wonSet_19 : decode cX0_wonSet 19 = .ok (.bipush (-4), 2) := by decide +kernel
theorem dX0_wonSet_21 : decode cX0_wonSet 21 = .ok (.if_icmp .eq 9, 3) := by decide +kernel
theorem dX0_wonSet_24 : decode cX0_wonSet 24 = .ok (.iload_n 1, 1) := by decide +kernel
theorem dX0_wonSet_25 : decode cX0_wonSet 25 = .ok (.iconst 1, 1) := by decide +kernel
theorem dX0_wonSet_26 : decode cX0_wonSet 26 = .ok (.iload_n 2, 1) := by decide +kernel
theorem dX0_wonSet_27 : decode cX0_wonSet 27 = .ok (.ishl, 1) := by decide +kernel
theorem dX0_wonSet_28 : decode cX0_wonSet 28 = .ok (.ior, 1) := by decide +kernel
theorem dX0_wonSet_29 : decode cX0_wonSet 29 = .ok (.istore_n 1, 1) := by decide +kernel
theorem dX0_wonSet_30 : decode cX0_wonSet 30 = .ok (.iinc 2 1, 3) := by decide +kernel
theorem dX0_wonSet_33 : decode cX0_wonSet 33 = .ok (.goto (-29), 3) := by decide +kernel
theorem dX0_wonSet_36 : decode cX0_wonSet 36 = .ok (.iload_n 1, 1) := by decide +kernel
theorem dX0_wonSet_37 : decode cX0_wonSet 37 = .ok (.ireturn, 1) := by decide +kernel
theorem dX0_carriedByAll_0 : decode cX0_carriedByAll 0 = .ok (.iconst 0, 1) := by decide +kernel
theorem dX0_carriedByAll_1 : decode cX0_carriedByAll 1 = .ok (.istore_n 1, 1) := by decide +kernel
theorem dX0_carriedByAll_2 : decode cX0_carriedByAll 2 = .ok (.iconst 0, 1) := by decide +kernel
theorem dX0_carriedByAll_3 : decode cX0_carriedByAll 3 = .ok (.istore_n 2, 1) := by decide +kernel
theorem dX0_carriedByAll_4 : decode cX0_carriedByAll 4 = .ok (.iload_n 2, 1) := by decide +kernel
theorem dX0_carriedByAll_5 : decode cX0_carriedByAll 5 = .ok (.aload_n 0, 1) := by decide +kernel
theorem dX0_carriedByAll_6 : decode cX0_carriedByAll 6 = .ok (.getfield 18, 3) := by decide +kernel
theorem dX0_carriedByAll_9 : decode cX0_carriedByAll 9 = .ok (.if_icmp .ge 19, 3) := by decide +kernel
theorem dX0_carriedByAll_12 : decode cX0_carriedByAll 12 = .ok (.iload_n 1, 1) := by decide +kernel
theorem dX0_carriedByAll_13 : decode cX0_carriedByAll 13 = .ok (.aload_n 0, 1) := by decide +kernel
theorem dX0_carriedByAll_14 : decode cX0_carriedByAll 14 = .ok (.iload_n 2, 1) := by decide +kernel
theorem dX0_carriedByAll_15 : decode cX0_carriedByAll 15 = .ok (.bipush 6, 2) := by decide +kernel
theorem dX0_carriedByAll_17 : decode cX0_carriedByAll 17 = .ok (.invokevirtual 45, 3) := by decide +kernel
theorem dX0_carriedByAll_20 : decode cX0_carriedByAll 20 = .ok (.iadd, 1) := by decide +kernel
theorem dX0_carriedByAll_21 : decode cX0_carriedByAll 21 = .ok (.istore_n 1, 1) := by decide +kernel
theorem dX0_carriedByAll_22 : decode cX0_carriedByAll 22 = .ok (.iinc 2 1, 3) := by decide +kernel
theorem dX0_carriedByAll_25 : decode cX0_carriedByAll 25 = .ok (.goto (-21), 3) := by decide +kernel
theorem dX0_carriedByAll_28 : decode cX0_carriedByAll 28 = .ok (.iload_n 1, 1) := by decide +kernel
theorem dX0_carriedByAll_29 : decode cX0_carriedByAll 29 = .ok (.ireturn, 1) := by decide +kernel
theorem dX1_init_0 : decode cX1_init 0 = .ok (.aload_n 0, 1) := by decide +kernel
theorem dX1_init_1 : decode cX1_init 1 = .ok (.invokespecial 3, 3) := by decide +kernel
theorem dX1_init_4 : decode cX1_init 4 = .ok (.aload_n 0, 1) := by decide +kernel
theorem dX1_init_5 : decode cX1_init 5 = .ok (.bipush 100, 2) := by decide +kernel
theorem dX1_init_7 : decode cX1_init 7 = .ok (.newarray .int, 2) := by decide +kernel
theorem dX1_init_9 : decode cX1_init 9 = .ok (.putfield 11, 3) := by decide +kernel
theorem dX1_init_12 : decode cX1_init 12 = .ok (.return_, 1) := by decide +kernel
theorem dX1_amongSkills_0 : decode cX1_amongSkills 0 = .ok (.aload_n 0, 1) := by decide +kernel
theorem dX1_amongSkills_1 : decode cX1_amongSkills 1 = .ok (.iconst 0, 1) := by decide +kernel
theorem dX1_amongSkills_2 : decode cX1_amongSkills 2 = .ok (.putfield 15, 3) := by decide +kernel
theorem dX1_amongSkills_5 : decode cX1_amongSkills 5 = .ok (.aload_n 0, 1) := by decide +kernel
theorem dX1_amongSkills_6 : decode cX1_amongSkills 6 = .ok (.bipush 9, 2) := by decide +kernel
theorem dX1_amongSkills_8 : decode cX1_amongSkills 8 = .ok (.putfield 19, 3) := by decide +kernel
theorem dX1_amongSkills_11 : decode cX1_amongSkills 11 = .ok (.iconst 0, 1) := by decide +kernel
theorem dX1_amongSkills_12 : decode cX1_amongSkills 12 = .ok (.istore_n 3, 1) := by decide +kernel
theorem dX1_amongSkills_13 : decode cX1_amongSkills 13 = .ok (.iload_n 3, 1) := by decide +kernel
theorem dX1_amongSkills_14 : decode cX1_amongSkills 14 = .ok (.aload_n 0, 1) := by decide +kernel
theorem dX1_amongSkills_15 : decode cX1_amongSkills 15 = .ok (.getfield 11, 3) := by decide +kernel
theorem dX1_amongSkills_18 : decode cX1_amongSkills 18 = .ok (.arraylength, 1) := by decide +kernel
theorem dX1_amongSkills_19 : decode cX1_amongSkills 19 = .ok (.if_icmp .ge 39, 3) := by decide +kernel
theorem dX1_amongSkills_22 : decode cX1_amongSkills 22 = .ok (.aload_n 0, 1) := by decide +kernel
theorem dX1_amongSkills_23 : decode cX1_amongSkills 23 = .ok (.getfield 11, 3) := by decide +kernel
theorem dX1_amongSkills_26 : decode cX1_amongSkills 26 = .ok (.iload_n 3, 1) := by decide +kernel
theorem dX1_amongSkills_27 : decode cX1_amongSkills 27 = .ok (.aload_n 1, 1) := by decide +kernel
theorem dX1_amongSkills_28 : decode cX1_amongSkills 28 = .ok (.iload_n 2, 1) := by decide +kernel
theorem dX1_amongSkills_29 : decode cX1_amongSkills 29 = .ok (.iconst 0, 1) := by decide +kernel
theorem dX1_amongSkills_30 : decode cX1_amongSkills 30 = .ok (.invokevirtual 22, 3) := by decide +kernel
theorem dX1_amongSkills_33 : decode cX1_amongSkills 33 = .ok (.iload_n 3, 1) := by decide +kernel
theorem dX1_amongSkills_34 : decode cX1_amongSkills 34 = .ok (.bipush 10, 2) := by decide +kernel
theorem dX1_amongSkills_36 : decode cX1_amongSkills 36 = .ok (.idiv, 1) := by decide +kernel
theorem dX1_amongSkills_37 : decode cX1_amongSkills 37 = .ok (.aload_n 1, 1) := by decide +kernel
theorem dX1_amongSkills_38 : decode cX1_amongSkills 38 = .ok (.iload_n 2, 1) := by decide +kernel
theorem dX1_amongSkills_39 : decode cX1_amongSkills 39 = .ok (.bipush 6, 2) := by decide +kernel
theorem dX1_amongSkills_41 : decode cX1_amongSkills 41 = .ok (.invokevirtual 22, 3) := by decide +kernel
theorem dX1_amongSkills_44 : decode cX1_amongSkills 44 = .ok (.iload_n 3, 1) := by decide +kernel
theorem dX1_amongSkills_45 : decode cX1_amongSkills 45 = .ok (.bipush 10, 2) := by decide +kernel
theorem dX1_amongSkills_47 : decode cX1_amongSkills 47 = .ok (.irem, 1) := by decide +kernel
theorem dX1_amongSkills_48 : decode cX1_amongSkills 48 = .ok (.invokestatic 28, 3) := by decide +kernel
theorem dX1_amongSkills_51 : decode cX1_amongSkills 51 = .ok (.iastore, 1) := by decide +kernel
theorem dX1_amongSkills_52 : decode cX1_amongSkills 52 = .ok (.iinc 3 1, 3) := by decide +kernel
theorem dX1_amongSkills_55 : decode cX1_amongSkills 55 = .ok (.goto (-42), 3) := by decide +kernel
theorem dX1_amongSkills_58 : decode cX1_amongSkills 58 = .ok (.return_, 1) := by decide +kernel
theorem dX1_amongKinds_0 : decode cX1_amongKinds 0 = .ok (.aload_n 0, 1) := by decide +kernel
theorem dX1_amongKinds_1 : decode cX1_amongKinds 1 = .ok (.iconst 1, 1) := by decide +kernel
theorem dX1_amongKinds_2 : decode cX1_amongKinds 2 = .ok (.putfield 15, 3) := by decide +kernel
theorem dX1_amongKinds_5 : decode cX1_amongKinds 5 = .ok (.aload_n 0, 1) := by decide +kernel
theorem dX1_amongKinds_6 : decode cX1_amongKinds 6 = .ok (.iconst 5, 1) := by decide +kernel
theorem dX1_amongKinds_7 : decode cX1_amongKinds 7 = .ok (.putfield 19, 3) := by decide +kernel
theorem dX1_amongKinds_10 : decode cX1_amongKinds 10 = .ok (.iconst 0, 1) := by decide +kernel
theorem dX1_amongKinds_11 : decode cX1_amongKinds 11 = .ok (.istore_n 3, 1) := by decide +kernel
theorem dX1_amongKinds_12 : decode cX1_amongKinds 12 = .ok (.iload_n 3, 1) := by decide +kernel
theorem dX1_amongKinds_13 : decode cX1_amongKinds 13 = .ok (.aload_n 0, 1) := by decide +kernel
theorem dX1_amongKinds_14 : decode cX1_amongKinds 14 = .ok (.getfield 11, 3) := by decide +kernel
theorem dX1_amongKinds_17 : decode cX1_amongKinds 17 = .ok (.arraylength, 1) := by decide +kernel
theorem dX1_amongKinds_18 : decode cX1_amongKinds 18 = .ok (.if_icmp .ge 39, 3) := by decide +kernel
theorem dX1_amongKinds_21 : decode cX1_amongKinds 21 = .ok (.aload_n 0, 1) := by decide +kernel
theorem dX1_amongKinds_22 : decode cX1_amongKinds 22 = .ok (.getfield 11, 3) := by decide +kernel
theorem dX1_amongKinds_25 : decode cX1_amongKinds 25 = .ok (.iload_n 3, 1) := by decide +kernel
theorem dX1_amongKinds_26 : decode cX1_amongKinds 26 = .ok (.iload_n 3, 1) := by decide +kernel
theorem dX1_amongKinds_27 : decode cX1_amongKinds 27 = .ok (.bipush 10, 2) := by decide +kernel
theorem dX1_amongKinds_29 : decode cX1_amongKinds 29 = .ok (.idiv, 1) := by decide +kernel
theorem dX1_amongKinds_30 : decode cX1_amongKinds 30 = .ok (.aload_n 1, 1) := by decide +kernel
theorem dX1_amongKinds_31 : decode cX1_amongKinds 31 = .ok (.iload_n 2, 1) := by decide +kernel
theorem dX1_amongKinds_32 : decode cX1_amongKinds 32 = .ok (.iconst 1, 1) := by decide +kernel
theorem dX1_amongKinds_33 : decode cX1_amongKinds 33 = .ok (.invokevirtual 22, 3) := by decide +kernel
theorem dX1_amongKinds_36 : decode cX1_amongKinds 36 = .ok (.aload_n 1, 1) := by decide +kernel
theorem dX1_amongKinds_37 : decode cX1_amongKinds 37 = .ok (.iload_n 2, 1) := by decide +kernel
theorem dX1_amongKinds_38 : decode cX1_amongKinds 38 = .ok (.bipush 6, 2) := by decide +kernel
theorem dX1_amongKinds_40 : decode cX1_amongKinds 40 = .ok (.invokevirtual 22, 3) := by decide +kernel
theorem dX1_amongKinds_43 : decode cX1_amongKinds 43 = .ok (.iload_n 3, 1) := by decide +kernel
theorem dX1_amongKinds_44 : decode cX1_amongKinds 44 = .ok (.bipush 10, 2) := by decide +kernel
theorem dX1_amongKinds_46 : decode cX1_amongKinds 46 = .ok (.irem, 1) := by decide +kernel
theorem dX1_amongKinds_47 : decode cX1_amongKinds 47 = .ok (.invokestatic 28, 3) := by decide +kernel
theorem dX1_amongKinds_50 : decode cX1_amongKinds 50 = .ok (.iastore, 1) := by decide +kernel
theorem dX1_amongKinds_51 : decode cX1_amongKinds 51 = .ok (.iinc 3 1, 3) := by decide +kernel
theorem dX1_amongKinds_54 : decode cX1_amongKinds 54 = .ok (.goto (-42), 3) := by decide +kernel
theorem dX1_amongKinds_57 : decode cX1_amongKinds 57 = .ok (.return_, 1) := by decide +kernel
theorem dX1_answer_0 : decode cX1_answer 0 = .ok (.aload_n 1, 1) := by decide +kernel
theorem dX1_answer_1 : decode cX1_answer 1 = .ok (.ifnonnull 6, 3) := by decide +kernel
theorem dX1_answer_4 : decode cX1_answer 4 = .ok (.bipush (-11), 2) := by decide +kernel
theorem dX1_answer_6 : decode cX1_answer 6 = .ok (.ireturn, 1) := by decide +kernel
theorem dX1_answer_7 : decode cX1_answer 7 = .ok (.aload_n 0, 1) := by decide +kernel
theorem dX1_answer_8 : decode cX1_answer 8 = .ok (.aload_n 1, 1) := by decide +kernel
theorem dX1_answer_9 : decode cX1_answer 9 = .ok (.iload_n 2, 1) := by decide +kernel
theorem dX1_answer_10 : decode cX1_answer 10 = .ok (.iload_n 3, 1) := by decide +kernel
theorem dX1_answer_11 : decode cX1_answer 11 = .ok (.invokevirtual 32, 3) := by decide +kernel
theorem dX1_answer_14 : decode cX1_answer 14 = .ok (.istore 5, 2) := by decide +kernel
theorem dX1_answer_16 : decode cX1_answer 16 = .ok (.iload 4, 2) := by decide +kernel
theorem dX1_answer_18 : decode cX1_answer 18 = .ok (.ifCond .ne 8, 3) := by decide +kernel
theorem dX1_answer_21 : decode cX1_answer 21 = .ok (.iload 5, 2) := by decide +kernel
theorem dX1_answer_23 : decode cX1_answer 23 = .ok (.goto 9, 3) := by decide +kernel
theorem dX1_answer_26 : decode cX1_answer 26 = .ok (.aload_n 0, 1) := by decide +kernel
theorem dX1_answer_27 : decode cX1_answer 27 = .ok (.iload 5, 2) := by decide +kernel
theorem dX1_answer_29 : decode cX1_answer 29 = .ok (.invokevirtual 36, 3) := by decide +kernel
theorem dX1_answer_32 : decode cX1_answer 32 = .ok (.ireturn, 1) := by decide +kernel
theorem dX1_fitting_0 : decode cX1_fitting 0 = .ok (.iconst 0, 1) := by decide +kernel
theorem dX1_fitting_1 : decode cX1_fitting 1 = .ok (.istore 4, 2) := by decide +kernel
theorem dX1_fitting_3 : decode cX1_fitting 3 = .ok (.aload_n 0, 1) := by decide +kernel
theorem dX1_fitting_4 : decode cX1_fitting 4 = .ok (.getfield 15, 3) := by decide +kernel
theorem dX1_fitting_7 : decode cX1_fitting 7 = .ok (.istore 5, 2) := by decide +kernel
theorem dX1_fitting_9 : decode cX1_fitting 9 = .ok (.iload 5, 2) := by decide +kernel
theorem dX1_fitting_11 : decode cX1_fitting 11 = .ok (.aload_n 0, 1) := by decide +kernel
theorem dX1_fitting_12 : decode cX1_fitting 12 = .ok (.getfield 19, 3) := by decide +kernel
theorem dX1_fitting_15 : decode cX1_fitting 15 = .ok (.if_icmp .gt 30, 3) := by decide +kernel
theorem dX1_fitting_18 : decode cX1_fitting 18 = .ok (.aload_n 0, 1) := by decide +kernel
theorem dX1_fitting_19 : decode cX1_fitting 19 = .ok (.iload 5, 2) := by decide +kernel
theorem dX1_fitting_21 : decode cX1_fitting 21 = .ok (.aload_n 1, 1) := by decide +kernel
theorem dX1_fitting_22 : decode cX1_fitting 22 = .ok (.iload_n 2, 1) := by decide +kernel
theorem dX1_fitting_23 : decode cX1_fitting 23 = .ok (.iload_n 3, 1) := by decide +kernel
theorem dX1_fitting_24 : decode cX1_fitting 24 = .ok (.invokevirtual 40, 3) := by decide +kernel
theorem dX1_fitting_27 : decode cX1_fitting 27 = .ok (.ifCond .eq 12, 3) := by decide +kernel
theorem dX1_fitting_30 : decode cX1_fitting 30 = .ok (.iload 4, 2) := by decide +kernel
theorem dX1_fitting_32 : decode cX1_fitting 32 = .ok (.iconst 1, 1) := by decide +kernel
theorem dX1_fitting_33 : decode cX1_fitting 33 = .ok (.iload 5, 2) := by decide +kernel
theorem dX1_fitting_35 : decode cX1_fitting 35 = .ok (.ishl, 1) := by decide +kernel
theorem dX1_fitting_36 : decode cX1_fitting 36 = .ok (.ior, 1) := by decide +kernel
theorem dX1_fitting_37 : decode cX1_fitting 37 = .ok (.istore 4, 2) := by decide +kernel
theorem dX1_fitting_39 : decode cX1_fitting 39 = .ok (.iinc 5 1, 3) := by decide +kernel
theorem dX1_fitting_42 : decode cX1_fitting 42 = .ok (.goto (-33), 3) := by decide +kernel
theorem dX1_fitting_45 : decode cX1_fitting 45 = .ok (.iload 4, 2) := by decide +kernel
theorem dX1_fitting_47 : decode cX1_fitting 47 = .ok (.ireturn, 1) := by decide +kernel
theorem dX1_fits_0 : decode cX1_fits 0 = .ok (.iconst 0, 1) := by decide +kernel
theorem dX1_fits_1 : decode cX1_fits 1 = .ok (.istore 5, 2) := by decide +kernel
theorem dX1_fits_3 : decode cX1_fits 3 = .ok (.iload 5, 2) := by decide +kernel
theorem dX1_fits_5 : decode cX1_fits 5 = .ok (.iload 4, 2) := by decide +kernel
theorem dX1_fits_7 : decode cX1_fits 7 = .ok (.if_icmp .ge 48, 3) := by decide +kernel
theorem dX1_fits_10 : decode cX1_fits 10 = .ok (.aload_n 2, 1) := by decide +kernel
theorem dX1_fits_11 : decode cX1_fits 11 = .ok (.iload_n 3, 1) := by decide +kernel
theorem dX1_fits_12 : decode cX1_fits 12 = .ok (.iconst 2, 1) := by decide +kernel
theorem dX1_fits_13 : decode cX1_fits 13 = .ok (.iload 5, 2) := by decide +kernel
theorem dX1_fits_15 : decode cX1_fits 15 = .ok (.imul, 1) := by decide +kernel
theorem dX1_fits_16 : decode cX1_fits 16 = .ok (.iadd, 1) := by decide +kernel
theorem dX1_fits_17 : decode cX1_fits 17 = .ok (.invokevirtual 44, 3) := by decide +kernel
theorem dX1_fits_20 : decode cX1_fits 20 = .ok (.l2i, 1) := by decide +kernel
theorem dX1_fits_21 : decode cX1_fits 21 = .ok (.istore 6, 2) := by decide +kernel
theorem dX1_fits_23 : decode cX1_fits 23 = .ok (.aload_n 2, 1) := by decide +kernel
theorem dX1_fits_24 : decode cX1_fits 24 = .ok (.iload_n 3, 1) := by decide +kernel
theorem dX1_fits_25 : decode cX1_fits 25 = .ok (.iconst 2, 1) := by decide +kernel
theorem dX1_fits_26 : decode cX1_fits 26 = .ok (.iload 5, 2) := by decide +kernel
theorem dX1_fits_28 : decode cX1_fits 28 = .ok (.imul, 1) := by decide +kernel
theorem dX1_fits_29 : decode cX1_fits 29 = .ok (.iadd, 1) := by decide +kernel
theorem dX1_fits_30 : decode cX1_fits 30 = .ok (.iconst 1, 1) := by decide +kernel
theorem dX1_fits_31 : decode cX1_fits 31 = .ok (.iadd, 1) := by decide +kernel
theorem dX1_fits_32 : decode cX1_fits 32 = .ok (.invokevirtual 44, 3) := by decide +kernel
theorem dX1_fits_35 : decode cX1_fits 35 = .ok (.aload_n 0, 1) := by decide +kernel
theorem dX1_fits_36 : decode cX1_fits 36 = .ok (.iload_n 1, 1) := by decide +kernel
theorem dX1_fits_37 : decode cX1_fits 37 = .ok (.iload 6, 2) := by decide +kernel
theorem dX1_fits_39 : decode cX1_fits 39 = .ok (.invokevirtual 50, 3) := by decide +kernel
theorem dX1_fits_42 : decode cX1_fits 42 = .ok (.i2l, 1) := by decide +kernel
theorem dX1_fits_43 : decode cX1_fits 43 = .ok (.lcmp, 1) := by decide +kernel
theorem dX1_fits_44 : decode cX1_fits 44 = .ok (.ifCond .eq 5, 3) := by decide +kernel
theorem dX1_fits_47 : decode cX1_fits 47 = .ok (.iconst 0, 1) := by decide +kernel
theorem dX1_fits_48 : decode cX1_fits 48 = .ok (.ireturn, 1) := by decide +kernel
theorem dX1_fits_49 : decode cX1_fits 49 = .ok (.iinc 5 1, 3) := by decide +kernel
theorem dX1_fits_52 : decode cX1_fits 52 = .ok (.goto (-49), 3) := by decide +kernel
theorem dX1_fits_55 : decode cX1_fits 55 = .ok (.iconst 1, 1) := by decide +kernel
theorem dX1_fits_56 : decode cX1_fits 56 = .ok (.ireturn, 1) := by decide +kernel
theorem dX1_sayingAt_0 : decode cX1_sayingAt 0 = .ok (.iload_n 1, 1) := by decide +kernel
theorem dX1_sayingAt_1 : decode cX1_sayingAt 1 = .ok (.bipush 10, 2) := by decide +kernel
theorem dX1_sayingAt_3 : decode cX1_sayingAt 3 = .ok (.imul, 1) := by decide +kernel
theorem dX1_sayingAt_4 : decode cX1_sayingAt 4 = .ok (.iload_n 2, 1) := by decide +kernel
theorem dX1_sayingAt_5 : decode cX1_sayingAt 5 = .ok (.iadd, 1) := by decide +kernel
theorem dX1_sayingAt_6 : decode cX1_sayingAt 6 = .ok (.istore_n 3, 1) := by decide +kernel
theorem dX1_sayingAt_7 : decode cX1_sayingAt 7 = .ok (.iload_n 3, 1) := by decide +kernel
theorem dX1_sayingAt_8 : decode cX1_sayingAt 8 = .ok (.ifCond .lt 12, 3) := by decide +kernel
theorem dX1_sayingAt_11 : decode cX1_sayingAt 11 = .ok (.iload_n 3, 1) := by decide +kernel
theorem dX1_sayingAt_12 : decode cX1_sayingAt 12 = .ok (.aload_n 0, 1) := by decide +kernel
theorem dX1_sayingAt_13 : decode cX1_sayingAt 13 = .ok (.getfield 11, 3) := by decide +kernel
theorem dX1_sayingAt_16 : decode cX1_sayingAt 16 = .ok (.arraylength, 1) := by decide +kernel
theorem dX1_sayingAt_17 : decode cX1_sayingAt 17 = .ok (.if_icmp .lt 7, 3) := by decide +kernel
theorem dX1_sayingAt_20 : decode cX1_sayingAt 20 = .ok (.iconst 0, 1) := by decide +kernel
theorem dX1_sayingAt_21 : decode cX1_sayingAt 21 = .ok (.goto 9, 3) := by decide +kernel
theorem dX1_sayingAt_24 : decode cX1_sayingAt 24 = .ok (.aload_n 0, 1) := by decide +kernel
theorem dX1_sayingAt_25 : decode cX1_sayingAt 25 = .ok (.getfield 11, 3) := by decide +kernel
theorem dX1_sayingAt_28 : decode cX1_sayingAt 28 = .ok (.iload_n 3, 1) := by decide +kernel
theorem dX1_sayingAt_29 : decode cX1_sayingAt 29 = .ok (.iaload, 1) := by decide +kernel
theorem dX1_sayingAt_30 : decode cX1_sayingAt 30 = .ok (.ireturn, 1) := by decide +kernel
theorem dX1_bestTry_0 : decode cX1_bestTry 0 = .ok (.bipush (-4), 2) := by decide +kernel
theorem dX1_bestTry_2 : decode cX1_bestTry 2 = .ok (.istore_n 2, 1) := by decide +kernel
theorem dX1_bestTry_3 : decode cX1_bestTry 3 = .ok (.iload_n 1, 1) := by decide +kernel
theorem dX1_bestTry_4 : decode cX1_bestTry 4 = .ok (.invokestatic 53, 3) := by decide +kernel
theorem dX1_bestTry_7 : decode cX1_bestTry 7 = .ok (.iconst 1, 1) := by decide +kernel
theorem dX1_bestTry_8 : decode cX1_bestTry 8 = .ok (.iadd, 1) := by decide +kernel
theorem dX1_bestTry_9 : decode cX1_bestTry 9 = .ok (.istore_n 3, 1) := by decide +kernel
theorem dX1_bestTry_10 : decode cX1_bestTry 10 = .ok (.iconst 0, 1) := by decide +kernel
theorem dX1_bestTry_11 : decode cX1_bestTry 11 = .ok (.istore 4, 2) := by decide +kernel
theorem dX1_bestTry_13 : decode cX1_bestTry 13 = .ok (.iload_n 1, 1) := by decide +kernel
theorem dX1_bestTry_14 : decode cX1_bestTry 14 = .ok (.ifCond .eq 37, 3) := by decide +kernel
theorem dX1_bestTry_17 : decode cX1_bestTry 17 = .ok (.iload 4, 2) := by decide +kernel
theorem dX1_bestTry_19 : decode cX1_bestTry 19 = .ok (.bipush 10, 2) := by decide +kernel
theorem dX1_bestTry_21 : decode cX1_bestTry 21 = .ok (.if_icmp .ge 30, 3) := by decide +kernel
theorem dX1_bestTry_24 : decode cX1_bestTry 24 = .ok (.aload_n 0, 1) := by decide +kernel
theorem dX1_bestTry_25 : decode cX1_bestTry 25 = .ok (.iload_n 1, 1) := by decide +kernel
theorem dX1_bestTry_26 : decode cX1_bestTry 26 = .ok (.iload 4, 2) := by decide +kernel
theorem dX1_bestTry_28 : decode cX1_bestTry 28 = .ok (.invokevirtual 58, 3) := by decide +kernel
theorem dX1_bestTry_31 : decode cX1_bestTry 31 = .ok (.istore 5, 2) := by decide +kernel
theorem dX1_bestTry_33 : decode cX1_bestTry 33 = .ok (.iload 5, 2) := by decide +kernel
theorem dX1_bestTry_35 : decode cX1_bestTry 35 = .ok (.iload_n 3, 1) := by decide +kernel
theorem dX1_bestTry_36 : decode cX1_bestTry 36 = .ok (.if_icmp .ge 9, 3) := by decide +kernel
theorem dX1_bestTry_39 : decode cX1_bestTry 39 = .ok (.iload 5, 2) := by decide +kernel
theorem dX1_bestTry_41 : decode cX1_bestTry 41 = .ok (.istore_n 3, 1) := by decide +kernel
theorem dX1_bestTry_42 : decode cX1_bestTry 42 = .ok (.iload 4, 2) := by decide +kernel
theorem dX1_bestTry_44 : decode cX1_bestTry 44 = .ok (.istore_n 2, 1) := by decide +kernel
theorem dX1_bestTry_45 : decode cX1_bestTry 45 = .ok (.iinc 4 1, 3) := by decide +kernel
theorem dX1_bestTry_48 : decode cX1_bestTry 48 = .ok (.goto (-35), 3) := by decide +kernel
theorem dX1_bestTry_51 : decode cX1_bestTry 51 = .ok (.iload_n 2, 1) := by decide +kernel
theorem dX1_bestTry_52 : decode cX1_bestTry 52 = .ok (.ireturn, 1) := by decide +kernel
theorem dX1_greatestPart_0 : decode cX1_greatestPart 0 = .ok (.iconst 0, 1) := by decide +kernel
theorem dX1_greatestPart_1 : decode cX1_greatestPart 1 = .ok (.istore_n 3, 1) := by decide +kernel
theorem dX1_greatestPart_2 : decode cX1_greatestPart 2 = .ok (.aload_n 0, 1) := by decide +kernel
theorem dX1_greatestPart_3 : decode cX1_greatestPart 3 = .ok (.getfield 15, 3) := by decide +kernel
theorem dX1_greatestPart_6 : decode cX1_greatestPart 6 = .ok (.istore 4, 2) := by decide +kernel
theorem dX1_greatestPart_8 : decode cX1_greatestPart 8 = .ok (.iload 4, 2) := by decide +kernel
theorem dX1_greatestPart_10 : decode cX1_greatestPart 10 = .ok (.aload_n 0, 1) := by decide +kernel
theorem dX1_greatestPart_11 : decode cX1_greatestPart 11 = .ok (.getfield 19, 3) := by decide +kernel
theorem dX1_greatestPart_14 : decode cX1_greatestPart 14 = .ok (.if_icmp .gt 22, 3) := by decide +kernel
theorem dX1_greatestPart_17 : decode cX1_greatestPart 17 = .ok (.iload_n 3, 1) := by decide +kernel
theorem dX1_greatestPart_18 : decode cX1_greatestPart 18 = .ok (.aload_n 0, 1) := by decide +kernel
theorem dX1_greatestPart_19 : decode cX1_greatestPart 19 = .ok (.iload 4, 2) := by decide +kernel
theorem dX1_greatestPart_21 : decode cX1_greatestPart 21 = .ok (.iload_n 1, 1) := by decide +kernel
theorem dX1_greatestPart_22 : decode cX1_greatestPart 22 = .ok (.iload_n 2, 1) := by decide +kernel
theorem dX1_greatestPart_23 : decode cX1_greatestPart 23 = .ok (.invokevirtual 61, 3) := by decide +kernel
theorem dX1_greatestPart_26 : decode cX1_greatestPart 26 = .ok (.invokestatic 65, 3) := by decide +kernel
theorem dX1_greatestPart_29 : decode cX1_greatestPart 29 = .ok (.istore_n 3, 1) := by decide +kernel
theorem dX1_greatestPart_30 : decode cX1_greatestPart 30 = .ok (.iinc 4 1, 3) := by decide +kernel
theorem dX1_greatestPart_33 : decode cX1_greatestPart 33 = .ok (.goto (-25), 3) := by decide +kernel
theorem dX1_greatestPart_36 : decode cX1_greatestPart 36 = .ok (.iload_n 3, 1) := by decide +kernel
theorem dX1_greatestPart_37 : decode cX1_greatestPart 37 = .ok (.ireturn, 1) := by decide +kernel
theorem dX1_partLike_0 : decode cX1_partLike 0 = .ok (.iconst 0, 1) := by decide +kernel
theorem dX1_partLike_1 : decode cX1_partLike 1 = .ok (.istore 4, 2) := by decide +kernel
theorem dX1_partLike_3 : decode cX1_partLike 3 = .ok (.aload_n 0, 1) := by decide +kernel
theorem dX1_partLike_4 : decode cX1_partLike 4 = .ok (.getfield 15, 3) := by decide +kernel
theorem dX1_partLike_7 : decode cX1_partLike 7 = .ok (.istore 5, 2) := by decide +kernel
theorem dX1_partLike_9 : decode cX1_partLike 9 = .ok (.iload 5, 2) := by decide +kernel
theorem dX1_partLike_11 : decode cX1_partLike 11 = .ok (.aload_n 0, 1) := by decide +kernel
theorem dX1_partLike_12 : decode cX1_partLike 12 = .ok (.getfield 19, 3) := by decide +kernel
theorem dX1_partLike_15 : decode cX1_partLike 15 = .ok (.if_icmp .gt 45, 3) := by decide +kernel
theorem dX1_partLike_18 : decode cX1_partLike 18 = .ok (.iload_n 2, 1) := by decide +kernel
theorem dX1_partLike_19 : decode cX1_partLike 19 = .ok (.iload_n 1, 1) := by decide +kernel
theorem dX1_partLike_20 : decode cX1_partLike 20 = .ok (.ishr, 1) := by decide +kernel
theorem dX1_partLike_21 : decode cX1_partLike 21 = .ok (.iconst 1, 1) := by decide +kernel
theorem dX1_partLike_22 : decode cX1_partLike 22 = .ok (.iand, 1) := by decide +kernel
theorem dX1_partLike_23 : decode cX1_partLike 23 = .ok (.ifCond .eq 37, 3) := by decide +kernel
theorem dX1_partLike_26 : decode cX1_partLike 26 = .ok (.iload_n 2, 1) := by decide +kernel
theorem dX1_partLike_27 : decode cX1_partLike 27 = .ok (.iload 5, 2) := by decide +kernel
theorem dX1_partLike_29 : decode cX1_partLike 29 = .ok (.ishr, 1) := by decide +kernel
theorem dX1_partLike_30 : decode cX1_partLike 30 = .ok (.iconst 1, 1) := by decide +kernel
theorem dX1_partLike_31 : decode cX1_partLike 31 = .ok (.iand, 1) := by decide +kernel
theorem dX1_partLike_32 : decode cX1_partLike 32 = .ok (.ifCond .eq 22, 3) := by decide +kernel
theorem dX1_partLike_35 : decode cX1_partLike 35 = .ok (.aload_n 0, 1) := by decide +kernel
theorem dX1_partLike_36 : decode cX1_partLike 36 = .ok (.iload 5, 2) := by decide +kernel
theorem dX1_partLike_38 : decode cX1_partLike 38 = .ok (.iload_n 3, 1) := by decide +kernel
theorem dX1_partLike_39 : decode cX1_partLike 39 = .ok (.invokevirtual 50, 3) := by decide +kernel
theorem dX1_partLike_42 : decode cX1_partLike 42 = .ok (.aload_n 0, 1) := by decide +kernel
theorem dX1_partLike_43 : decode cX1_partLike 43 = .ok (.iload_n 1, 1) := by decide +kernel
theorem dX1_partLike_44 : decode cX1_partLike 44 = .ok (.iload_n 3, 1) := by decide +kernel
theorem dX1_partLike_45 : decode cX1_partLike 45 = .ok (.invokevirtual 50, 3) := by decide +kernel
theorem dX1_partLike_48 : decode cX1_partLike 48 = .ok (.if_icmp .ne 6, 3) := by decide +kernel
theorem dX1_partLike_51 : decode cX1_partLike 51 = .ok (.iinc 4 1, 3) := by decide +kernel
theorem dX1_partLike_54 : decode cX1_partLike 54 = .ok (.iinc 5 1, 3) := by decide +kernel
theorem dX1_partLike_57 : decode cX1_partLike 57 = .ok (.goto (-48), 3) := by decide +kernel
theorem dX1_partLike_60 : decode cX1_partLike 60 = .ok (.iload 4, 2) := by decide +kernel
theorem dX1_partLike_62 : decode cX1_partLike 62 = .ok (.ireturn, 1) := by decide +kernel
theorem dX2_init_0 : decode cX2_init 0 = .ok (.aload_n 0, 1) := by decide +kernel
theorem dX2_init_1 : decode cX2_init 1 = .ok (.invokespecial 3, 3) := by decide +kernel
theorem dX2_init_4 : decode cX2_init 4 = .ok (.aload_n 0, 1) := by decide +kernel
theorem dX2_init_5 : decode cX2_init 5 = .ok (.bipush 48, 2) := by decide +kernel
theorem dX2_init_7 : decode cX2_init 7 = .ok (.newarray .int, 2) := by decide +kernel
theorem dX2_init_9 : decode cX2_init 9 = .ok (.putfield 9, 3) := by decide +kernel
theorem dX2_init_12 : decode cX2_init 12 = .ok (.aload_n 0, 1) := by decide +kernel
theorem dX2_init_13 : decode cX2_init 13 = .ok (.sipush 576, 3) := by decide +kernel
theorem dX2_init_16 : decode cX2_init 16 = .ok (.newarray .int, 2) := by decide +kernel
theorem dX2_init_18 : decode cX2_init 18 = .ok (.putfield 15, 3) := by decide +kernel
theorem dX2_init_21 : decode cX2_init 21 = .ok (.aload_n 0, 1) := by decide +kernel
theorem dX2_init_22 : decode cX2_init 22 = .ok (.bipush 8, 2) := by decide +kernel
theorem dX2_init_24 : decode cX2_init 24 = .ok (.newarray .int, 2) := by decide +kernel
theorem dX2_init_26 : decode cX2_init 26 = .ok (.putfield 18, 3) := by decide +kernel
theorem dX2_init_29 : decode cX2_init 29 = .ok (.return_, 1) := by decide +kernel
theorem dX2_forgiven_0 : decode cX2_forgiven 0 = .ok (.aload_n 0, 1) := by decide +kernel
theorem dX2_forgiven_1 : decode cX2_forgiven 1 = .ok (.getfield 21, 3) := by decide +kernel
theorem dX2_forgiven_4 : decode cX2_forgiven 4 = .ok (.ireturn, 1) := by decide +kernel
theorem dX2_carrierOf_0 : decode cX2_carrierOf 0 = .ok (.iload_n 1, 1) := by decide +kernel
theorem dX2_carrierOf_1 : decode cX2_carrierOf 1 = .ok (.ifCond .lt 12, 3) := by decide +kernel
theorem dX2_carrierOf_4 : decode cX2_carrierOf 4 = .ok (.iload_n 1, 1) := by decide +kernel
theorem dX2_carrierOf_5 : decode cX2_carrierOf 5 = .ok (.aload_n 0, 1) := by decide +kernel
theorem dX2_carrierOf_6 : decode cX2_carrierOf 6 = .ok (.getfield 18, 3) := by decide +kernel
theorem dX2_carrierOf_9 : decode cX2_carrierOf 9 = .ok (.arraylength, 1) := by decide +kernel
theorem dX2_carrierOf_10 : decode cX2_carrierOf 10 = .ok (.if_icmp .lt 8, 3) := by decide +kernel
theorem dX2_carrierOf_13 : decode cX2_carrierOf 13 = .ok (.bipush (-4), 2) := by decide +kernel
theorem dX2_carrierOf_15 : decode cX2_carrierOf 15 = .ok (.goto 9, 3) := by decide +kernel
theorem dX2_carrierOf_18 : decode cX2_carrierOf 18 = .ok (.aload_n 0, 1) := by decide +kernel
theorem dX2_carrierOf_19 : decode cX2_carrierOf 19 = .ok (.getfield 18, 3) := by decide +kernel
theorem dX2_carrierOf_22 : decode cX2_carrierOf 22 = .ok (.iload_n 1, 1) := by decide +kernel
theorem dX2_carrierOf_23 : decode cX2_carrierOf 23 = .ok (.iaload, 1) := by decide +kernel
theorem dX2_carrierOf_24 : decode cX2_carrierOf 24 = .ok (.ireturn, 1) := by decide +kernel
theorem dX2_settle_0 : decode cX2_settle 0 = .ok (.aload_n 0, 1) := by decide +kernel
theorem dX2_settle_1 : decode cX2_settle 1 = .ok (.aload_n 1, 1) := by decide +kernel
theorem dX2_settle_2 : decode cX2_settle 2 = .ok (.invokevirtual 25, 3) := by decide +kernel
theorem dX2_settle_5 : decode cX2_settle 5 = .ok (.aload_n 0, 1) := by decide +kernel
theorem dX2_settle_6 : decode cX2_settle 6 = .ok (.getfield 15, 3) := by decide +kernel
theorem dX2_settle_9 : decode cX2_settle 9 = .ok (.iconst 0, 1) := by decide +kernel
theorem dX2_settle_10 : decode cX2_settle 10 = .ok (.invokestatic 29, 3) := by decide +kernel
theorem dX2_settle_13 : decode cX2_settle 13 = .ok (.aload_n 1, 1) := by decide +kernel
theorem dX2_settle_14 : decode cX2_settle 14 = .ok (.invokevirtual 35, 3) := by decide +kernel
theorem dX2_settle_17 : decode cX2_settle 17 = .ok (.iconst 1, 1) := by decide +kernel
theorem dX2_settle_18 : decode cX2_settle 18 = .ok (.isub, 1) := by decide +kernel
theorem dX2_settle_19 : decode cX2_settle 19 = .ok (.istore_n 2, 1) := by decide +kernel
theorem dX2_settle_20 : decode cX2_settle 20 = .ok (.iload_n 2, 1) := by decide +kernel
theorem dX2_settle_21 : decode cX2_settle 21 = .ok (.ifCond .lt 41, 3) := by decide +kernel
theorem dX2_settle_24 : decode cX2_settle 24 = .ok (.iconst 0, 1) := by decide +kernel
theorem dX2_settle_25 : decode cX2_settle 25 = .ok (.istore_n 3, 1) := by decide +kernel
theorem dX2_settle_26 : decode cX2_settle 26 = .ok (.iload_n 3, 1) := by decide +kernel
theorem dX2_settle_27 : decode cX2_settle 27 = .ok (.bipush 64, 2) := by decide +kernel
theorem dX2_settle_29 : decode cX2_settle 29 = .ok (.if_icmp .ge 27, 3) := by decide +kernel
theorem dX2_settle_32 : decode cX2_settle 32 = .ok (.aload_n 0, 1) := by decide +kernel
theorem dX2_settle_33 : decode cX2_settle 33 = .ok (.iload_n 2, 1) := by decide +kernel
theorem dX2_settle_34 : decode cX2_settle 34 = .ok (.iload_n 3, 1) := by decide +kernel
theorem dX2_settle_35 : decode cX2_settle 35 = .ok (.aload_n 0, 1) := by decide +kernel
theorem dX2_settle_36 : decode cX2_settle 36 = .ok (.iload_n 2, 1) := by decide +kernel
theorem dX2_settle_37 : decode cX2_settle 37 = .ok (.iload_n 3, 1) := by decide +kernel
theorem dX2_settle_38 : decode cX2_settle 38 = .ok (.aload_n 0, 1) := by decide +kernel
theorem dX2_settle_39 : decode cX2_settle 39 = .ok (.iload_n 2, 1) := by decide +kernel
theorem dX2_settle_40 : decode cX2_settle 40 = .ok (.iload_n 3, 1) := by decide +kernel
theorem dX2_settle_41 : decode cX2_settle 41 = .ok (.invokevirtual 41, 3) := by decide +kernel
theorem dX2_settle_44 : decode cX2_settle 44 = .ok (.invokevirtual 45, 3) := by decide +kernel
theorem dX2_settle_47 : decode cX2_settle 47 = .ok (.invokevirtual 49, 3) := by decide +kernel
theorem dX2_settle_50 : decode cX2_settle 50 = .ok (.iinc 3 1, 3) := by decide +kernel
theorem dX2_settle_53 : decode cX2_settle 53 = .ok (.goto (-27), 3) := by decide +kernel
theorem dX2_settle_56 : decode cX2_settle 56 = .ok (.iinc 2 (-1), 3) := by decide +kernel
theorem dX2_settle_59 : decode cX2_settle 59 = .ok (.goto (-39), 3) := by decide +kernel
theorem dX2_settle_62 : decode cX2_settle 62 = .ok (.aload_n 0, 1) := by decide +kernel
theorem dX2_settle_63 : decode cX2_settle 63 = .ok (.aload_n 1, 1) := by decide +kernel
theorem dX2_settle_64 : decode cX2_settle 64 = .ok (.invokevirtual 35, 3) := by decide +kernel
theorem dX2_settle_67 : decode cX2_settle 67 = .ok (.invokevirtual 53, 3) := by decide +kernel
theorem dX2_settle_70 : decode cX2_settle 70 = .ok (.return_, 1) := by decide +kernel
theorem dX2_weigh_0 : decode cX2_weigh 0 = .ok (.iconst 0, 1) := by decide +kernel
theorem dX2_weigh_1 : decode cX2_weigh 1 = .ok (.istore_n 2, 1) := by decide +kernel
theorem dX2_weigh_2 : decode cX2_weigh 2 = .ok (.iload_n 2, 1) := by decide +kernel
theorem dX2_weigh_3 : decode cX2_weigh 3 = .ok (.aload_n 0, 1) := by decide +kernel
theorem dX2_weigh_4 : decode cX2_weigh 4 = .ok (.getfield 9, 3) := by decide +kernel
theorem dX2_weigh_7 : decode cX2_weigh 7 = .ok (.arraylength, 1) := by decide +kernel
theorem dX2_weigh_8 : decode cX2_weigh 8 = .ok (.if_icmp .ge 71, 3) := by decide +kernel
theorem dX2_weigh_11 : decode cX2_weigh 11 = .ok (.iload_n 2, 1) := by decide +kernel
theorem dX2_weigh_12 : decode cX2_weigh 12 = .ok (.bipush 6, 2) := by decide +kernel
theorem dX2_weigh_14 : decode cX2_weigh 14 = .ok (.idiv, 1) := by decide +kernel
theorem dX2_weigh_15 : decode cX2_weigh 15 = .ok (.istore_n 3, 1) := by decide +kernel
theorem dX2_weigh_16 : decode cX2_weigh 16 = .ok (.iload_n 2, 1) := by decide +kernel
theorem dX2_weigh_17 : decode cX2_weigh 17 = .ok (.bipush 6, 2) := by decide +kernel
theorem dX2_weigh_19 : decode cX2_weigh 19 = .ok (.irem, 1) := by decide +kernel
theorem dX2_weigh_20 : decode cX2_weigh 20 = .ok (.istore 4, 2) := by decide +kernel
theorem dX2_weigh_22 : decode cX2_weigh 22 = .ok (.aload_n 1, 1) := by decide +kernel
theorem dX2_weigh_23 : decode cX2_weigh 23 = .ok (.iload_n 3, 1) := by decide +kernel
theorem dX2_weigh_24 : decode cX2_weigh 24 = .ok (.iload 4, 2) := by decide +kernel
theorem dX2_weigh_26 : decode cX2_weigh 26 = .ok (.invokevirtual 57, 3) := by decide +kernel
theorem dX2_weigh_29 : decode cX2_weigh 29 = .ok (.ifCond .eq 13, 3) := by decide +kernel
theorem dX2_weigh_32 : decode cX2_weigh 32 = .ok (.aload_n 1, 1) := by decide +kernel
theorem dX2_weigh_33 : decode cX2_weigh 33 = .ok (.iload_n 3, 1) := by decide +kernel
theorem dX2_weigh_34 : decode cX2_weigh 34 = .ok (.iload 4, 2) := by decide +kernel
theorem dX2_weigh_36 : decode cX2_weigh 36 = .ok (.invokevirtual 61, 3) := by decide +kernel
theorem dX2_weigh_39 : decode cX2_weigh 39 = .ok (.goto 4, 3) := by decide +kernel
theorem dX2_weigh_42 : decode cX2_weigh 42 = .ok (.iconst 0, 1) := by decide +kernel
theorem dX2_weigh_43 : decode cX2_weigh 43 = .ok (.istore 5, 2) := by decide +kernel
theorem dX2_weigh_45 : decode cX2_weigh 45 = .ok (.aload_n 0, 1) := by decide +kernel
theorem dX2_weigh_46 : decode cX2_weigh 46 = .ok (.getfield 9, 3) := by decide +kernel
theorem dX2_weigh_49 : decode cX2_weigh 49 = .ok (.iload_n 2, 1) := by decide +kernel
theorem dX2_weigh_50 : decode cX2_weigh 50 = .ok (.iload 5, 2) := by decide +kernel
theorem dX2_weigh_52 : decode cX2_weigh 52 = .ok (.ifCond .ne 7, 3) := by decide +kernel
theorem dX2_weigh_55 : decode cX2_weigh 55 = .ok (.iconst 0, 1) := by decide +kernel
theorem dX2_weigh_56 : decode cX2_weigh 56 = .ok (.goto 16, 3) := by decide +kernel
theorem dX2_weigh_59 : decode cX2_weigh 59 = .ok (.iload 5, 2) := by decide +kernel
theorem dX2_weigh_61 : decode cX2_weigh 61 = .ok (.iconst 1, 1) := by decide +kernel
theorem dX2_weigh_62 : decode cX2_weigh 62 = .ok (.if_icmp .ne 8, 3) := by decide +kernel
theorem dX2_weigh_65 : decode cX2_weigh 65 = .ok (.bipush 16, 2) := by decide +kernel
theorem dX2_weigh_67 : decode cX2_weigh 67 = .ok (.goto 5, 3) := by decide +kernel
theorem dX2_weigh_70 : decode cX2_weigh 70 = .ok (.bipush 15, 2) := by decide +kernel
theorem dX2_weigh_72 : decode cX2_weigh 72 = .ok (.iastore, 1) := by decide +kernel
theorem dX2_weigh_73 : decode cX2_weigh 73 = .ok (.iinc 2 1, 3) := by decide +kernel
theorem dX2_weigh_76 : decode cX2_weigh 76 = .ok (.goto (-74), 3) := by decide +kernel
theorem dX2_weigh_79 : decode cX2_weigh 79 = .ok (.return_, 1) := by decide +kernel
theorem dX2_firstCarrier_0 : decode cX2_firstCarrier 0 = .ok (.bipush (-4), 2) := by decide +kernel
theorem dX2_firstCarrier_2 : decode cX2_firstCarrier 2 = .ok (.istore_n 3, 1) := by decide +kernel
theorem dX2_firstCarrier_3 : decode cX2_firstCarrier 3 = .ok (.iconst (-1), 1) := by decide +kernel
theorem dX2_firstCarrier_4 : decode cX2_firstCarrier 4 = .ok (.istore 4, 2) := by decide +kernel
theorem dX2_firstCarrier_6 : decode cX2_firstCarrier 6 = .ok (.iconst 0, 1) := by decide +kernel
theorem dX2_firstCarrier_7 : decode cX2_firstCarrier 7 = .ok (.istore 5, 2) := by decide +kernel
theorem dX2_firstCarrier_9 : decode cX2_firstCarrier 9 = .ok (.iload 5, 2) := by decide +kernel
theorem dX2_firstCarrier_11 : decode cX2_firstCarrier 11 = .ok (.bipush 6, 2) := by decide +kernel
theorem dX2_firstCarrier_13 : decode cX2_firstCarrier 13 = .ok (.if_icmp .ge 54, 3) := by decide +kernel
theorem dX2_firstCarrier_16 : decode cX2_firstCarrier 16 = .ok (.aload_n 0, 1) := by decide +kernel
theorem dX2_firstCarrier_17 : decode cX2_firstCarrier 17 = .ok (.iload_n 1, 1) := by decide +kernel
theorem dX2_firstCarrier_18 : decode cX2_firstCarrier 18 = .ok (.iload 5, 2) := by decide +kernel
theorem dX2_firstCarrier_20 : decode cX2_firstCarrier 20 = .ok (.invokevirtual 64, 3) := by decide +kernel
theorem dX2_firstCarrier_23 : decode cX2_firstCarrier 23 = .ok (.ifCond .le 38, 3) := by decide +kernel
theorem dX2_firstCarrier_26 : decode cX2_firstCarrier 26 = .ok (.iload_n 2, 1) := by decide +kernel
theorem dX2_firstCarrier_27 : decode cX2_firstCarrier 27 = .ok (.iload 5, 2) := by decide +kernel
theorem dX2_firstCarrier_29 : decode cX2_firstCarrier 29 = .ok (.ishr, 1) := by decide +kernel
theorem dX2_firstCarrier_30 : decode cX2_firstCarrier 30 = .ok (.iconst 1, 1) := by decide +kernel
theorem dX2_firstCarrier_31 : decode cX2_firstCarrier 31 = .ok (.iand, 1) := by decide +kernel
theorem dX2_firstCarrier_32 : decode cX2_firstCarrier 32 = .ok (.ifCond .ne 29, 3) := by decide +kernel
theorem dX2_firstCarrier_35 : decode cX2_firstCarrier 35 = .ok (.aload_n 0, 1) := by decide +kernel
theorem dX2_firstCarrier_36 : decode cX2_firstCarrier 36 = .ok (.iload_n 1, 1) := by decide +kernel
theorem dX2_firstCarrier_37 : decode cX2_firstCarrier 37 = .ok (.iload_n 2, 1) := by decide +kernel
theorem dX2_firstCarrier_38 : decode cX2_firstCarrier 38 = .ok (.iload 5, 2) := by decide +kernel
theorem dX2_firstCarrier_40 : decode cX2_firstCarrier 40 = .ok (.invokevirtual 45, 3) := by decide +kernel
theorem dX2_firstCarrier_43 : decode cX2_firstCarrier 43 = .ok (.iload 4, 2) := by decide +kernel
theorem dX2_firstCarrier_45 : decode cX2_firstCarrier 45 = .ok (.if_icmp .le 16, 3) := by decide +kernel
theorem dX2_firstCarrier_48 : decode cX2_firstCarrier 48 = .ok (.aload_n 0, 1) := by decide +kernel
theorem dX2_firstCarrier_49 : decode cX2_firstCarrier 49 = .ok (.iload_n 1, 1) := by decide +kernel
theorem dX2_firstCarrier_50 : decode cX2_firstCarrier 50 = .ok (.iload_n 2, 1) := by decide +kernel
theorem dX2_firstCarrier_51 : decode cX2_firstCarrier 51 = .ok (.iload 5, 2) := by decide +kernel
theorem dX2_firstCarrier_53 : decode cX2_firstCarrier 53 = .ok (.invokevirtual 45, 3) := by decide +kernel
theorem dX2_firstCarrier_56 : decode cX2_firstCarrier 56 = .ok (.istore 4, 2) := by decide +kernel
theorem dX2_firstCarrier_58 : decode cX2_firstCarrier 58 = .ok (.iload 5, 2) := by decide +kernel
theorem dX2_firstCarrier_60 : decode cX2_firstCarrier 60 = .ok (.istore_n 3, 1) := by decide +kernel
theorem dX2_firstCarrier_61 : decode cX2_firstCarrier 61 = .ok (.iinc 5 1, 3) := by decide +kernel
theorem dX2_firstCarrier_64 : decode cX2_firstCarrier 64 = .ok (.goto (-55), 3) := by decide +kernel
theorem dX2_firstCarrier_67 : decode cX2_firstCarrier 67 = .ok (.aload_n 0, 1) := by decide +kernel
theorem dX2_firstCarrier_68 : decode cX2_firstCarrier 68 = .ok (.iload_n 1, 1) := by decide +kernel
theorem dX2_firstCarrier_69 : decode cX2_firstCarrier 69 = .ok (.iload_n 2, 1) := by decide +kernel
theorem dX2_firstCarrier_70 : decode cX2_firstCarrier 70 = .ok (.bipush (-4), 2) := by decide +kernel
theorem dX2_firstCarrier_72 : decode cX2_firstCarrier 72 = .ok (.invokevirtual 45, 3) := by decide +kernel
theorem dX2_firstCarrier_75 : decode cX2_firstCarrier 75 = .ok (.iload 4, 2) := by decide +kernel
theorem dX2_firstCarrier_77 : decode cX2_firstCarrier 77 = .ok (.if_icmp .le 8, 3) := by decide +kernel
theorem dX2_firstCarrier_80 : decode cX2_firstCarrier 80 = .ok (.bipush (-4), 2) := by decide +kernel
theorem dX2_firstCarrier_82 : decode cX2_firstCarrier 82 = .ok (.goto 4, 3) := by decide +kernel
theorem dX2_firstCarrier_85 : decode cX2_firstCarrier 85 = .ok (.iload_n 3, 1) := by decide +kernel
theorem dX2_firstCarrier_86 : decode cX2_firstCarrier 86 = .ok (.ireturn, 1) := by decide +kernel
theorem dX2_worthOf_0 : decode cX2_worthOf 0 = .ok (.iload_n 3, 1) := by decide +kernel
theorem dX2_worthOf_1 : decode cX2_worthOf 1 = .ok (.ifCond .ge 14, 3) := by decide +kernel
theorem dX2_worthOf_4 : decode cX2_worthOf 4 = .ok (.aload_n 0, 1) := by decide +kernel
theorem dX2_worthOf_5 : decode cX2_worthOf 5 = .ok (.iload_n 1, 1) := by decide +kernel
theorem dX2_worthOf_6 : decode cX2_worthOf 6 = .ok (.iconst 1, 1) := by decide +kernel
theorem dX2_worthOf_7 : decode cX2_worthOf 7 = .ok (.iadd, 1) := by decide +kernel
theorem dX2_worthOf_8 : decode cX2_worthOf 8 = .ok (.iload_n 2, 1) := by decide +kernel
theorem dX2_worthOf_9 : decode cX2_worthOf 9 = .ok (.invokevirtual 67, 3) := by decide +kernel
theorem dX2_worthOf_12 : decode cX2_worthOf 12 = .ok (.goto 22, 3) := by decide +kernel
theorem dX2_worthOf_15 : decode cX2_worthOf 15 = .ok (.aload_n 0, 1) := by decide +kernel
theorem dX2_worthOf_16 : decode cX2_worthOf 16 = .ok (.iload_n 1, 1) := by decide +kernel
theorem dX2_worthOf_17 : decode cX2_worthOf 17 = .ok (.iload_n 3, 1) := by decide +kernel
theorem dX2_worthOf_18 : decode cX2_worthOf 18 = .ok (.invokevirtual 64, 3) := by decide +kernel
theorem dX2_worthOf_21 : decode cX2_worthOf 21 = .ok (.aload_n 0, 1) := by decide +kernel
theorem dX2_worthOf_22 : decode cX2_worthOf 22 = .ok (.iload_n 1, 1) := by decide +kernel
theorem dX2_worthOf_23 : decode cX2_worthOf 23 = .ok (.iconst 1, 1) := by decide +kernel
theorem dX2_worthOf_24 : decode cX2_worthOf 24 = .ok (.iadd, 1) := by decide +kernel
theorem dX2_worthOf_25 : decode cX2_worthOf 25 = .ok (.iload_n 2, 1) := by decide +kernel
theorem dX2_worthOf_26 : decode cX2_worthOf 26 = .ok (.iconst 1, 1) := by decide +kernel
theorem dX2_worthOf_27 : decode cX2_worthOf 27 = .ok (.iload_n 3, 1) := by decide +kernel
theorem dX2_worthOf_28 : decode cX2_worthOf 28 = .ok (.ishl, 1) := by decide +kernel
theorem dX2_worthOf_29 : decode cX2_worthOf 29 = .ok (.ior, 1) := by decide +kernel
theorem dX2_worthOf_30 : decode cX2_worthOf 30 = .ok (.invokevirtual 67, 3) := by decide +kernel
theorem dX2_worthOf_33 : decode cX2_worthOf 33 = .ok (.iadd, 1) := by decide +kernel
theorem dX2_worthOf_34 : decode cX2_worthOf 34 = .ok (.ireturn, 1) := by decide +kernel
theorem dX2_pairWorth_0 : decode cX2_pairWorth 0 = .ok (.iload_n 1, 1) := by decide +kernel
theorem dX2_pairWorth_1 : decode cX2_pairWorth 1 = .ok (.bipush 6, 2) := by decide +kernel
theorem dX2_pairWorth_3 : decode cX2_pairWorth 3 = .ok (.imul, 1) := by decide +kernel
theorem dX2_pairWorth_4 : decode cX2_pairWorth 4 = .ok (.iload_n 2, 1) := by decide +kernel
theorem dX2_pairWorth_5 : decode cX2_pairWorth 5 = .ok (.iadd, 1) := by decide +kernel
theorem dX2_pairWorth_6 : decode cX2_pairWorth 6 = .ok (.istore_n 3, 1) := by decide +kernel
theorem dX2_pairWorth_7 : decode cX2_pairWorth 7 = .ok (.iload_n 3, 1) := by decide +kernel
theorem dX2_pairWorth_8 : decode cX2_pairWorth 8 = .ok (.ifCond .lt 12, 3) := by decide +kernel
theorem dX2_pairWorth_11 : decode cX2_pairWorth 11 = .ok (.iload_n 3, 1) := by decide +kernel
theorem dX2_pairWorth_12 : decode cX2_pairWorth 12 = .ok (.aload_n 0, 1) := by decide +kernel
theorem dX2_pairWorth_13 : decode cX2_pairWorth 13 = .ok (.getfield 9, 3) := by decide +kernel
theorem dX2_pairWorth_16 : decode cX2_pairWorth 16 = .ok (.arraylength, 1) := by decide +kernel
theorem dX2_pairWorth_17 : decode cX2_pairWorth 17 = .ok (.if_icmp .lt 7, 3) := by decide +kernel
theorem dX2_pairWorth_20 : decode cX2_pairWorth 20 = .ok (.iconst 0, 1) := by decide +kernel
theorem dX2_pairWorth_21 : decode cX2_pairWorth 21 = .ok (.goto 9, 3) := by decide +kernel
theorem dX2_pairWorth_24 : decode cX2_pairWorth 24 = .ok (.aload_n 0, 1) := by decide +kernel
theorem dX2_pairWorth_25 : decode cX2_pairWorth 25 = .ok (.getfield 9, 3) := by decide +kernel
theorem dX2_pairWorth_28 : decode cX2_pairWorth 28 = .ok (.iload_n 3, 1) := by decide +kernel
theorem dX2_pairWorth_29 : decode cX2_pairWorth 29 = .ok (.iaload, 1) := by decide +kernel
theorem dX2_pairWorth_30 : decode cX2_pairWorth 30 = .ok (.ireturn, 1) := by decide +kernel
theorem dX2_bestAt_0 : decode cX2_bestAt 0 = .ok (.iload_n 1, 1) := by decide +kernel
theorem dX2_bestAt_1 : decode cX2_bestAt 1 = .ok (.bipush 64, 2) := by decide +kernel
theorem dX2_bestAt_3 : decode cX2_bestAt 3 = .ok (.imul, 1) := by decide +kernel
theorem dX2_bestAt_4 : decode cX2_bestAt 4 = .ok (.iload_n 2, 1) := by decide +kernel
theorem dX2_bestAt_5 : decode cX2_bestAt 5 = .ok (.iadd, 1) := by decide +kernel
theorem dX2_bestAt_6 : decode cX2_bestAt 6 = .ok (.istore_n 3, 1) := by decide +kernel
theorem dX2_bestAt_7 : decode cX2_bestAt 7 = .ok (.iload_n 3, 1) := by decide +kernel
theorem dX2_bestAt_8 : decode cX2_bestAt 8 = .ok (.ifCond .lt 12, 3) := by decide +kernel
theorem dX2_bestAt_11 : decode cX2_bestAt 11 = .ok (.iload_n 3, 1) := by decide +kernel
theorem dX2_bestAt_12 : decode cX2_bestAt 12 = .ok (.aload_n 0, 1) := by decide +kernel
theorem dX2_bestAt_13 : decode cX2_bestAt 13 = .ok (.getfield 15, 3) := by decide +kernel
theorem dX2_bestAt_16 : decode cX2_bestAt 16 = .ok (.arraylength, 1) := by decide +kernel
theorem dX2_bestAt_17 : decode cX2_bestAt 17 = .ok (.if_icmp .lt 7, 3) := by decide +kernel
theorem dX2_bestAt_20 : decode cX2_bestAt 20 = .ok (.iconst 0, 1) := by decide +kernel
theorem dX2_bestAt_21 : decode cX2_bestAt 21 = .ok (.goto 9, 3) := by decide +kernel
theorem dX2_bestAt_24 : decode cX2_bestAt 24 = .ok (.aload_n 0, 1) := by decide +kernel
theorem dX2_bestAt_25 : decode cX2_bestAt 25 = .ok (.getfield 15, 3) := by decide +kernel
theorem dX2_bestAt_28 : decode cX2_bestAt 28 = .ok (.iload_n 3, 1) := by decide +kernel
theorem dX2_bestAt_29 : decode cX2_bestAt 29 = .ok (.iaload, 1) := by decide +kernel
theorem dX2_bestAt_30 : decode cX2_bestAt 30 = .ok (.ireturn, 1) := by decide +kernel
theorem dX2_setBest_0 : decode cX2_setBest 0 = .ok (.iload_n 1, 1) := by decide +kernel
theorem dX2_setBest_1 : decode cX2_setBest 1 = .ok (.bipush 64, 2) := by decide +kernel
theorem dX2_setBest_3 : decode cX2_setBest 3 = .ok (.imul, 1) := by decide +kernel
theorem dX2_setBest_4 : decode cX2_setBest 4 = .ok (.iload_n 2, 1) := by decide +kernel
theorem dX2_setBest_5 : decode cX2_setBest 5 = .ok (.iadd, 1) := by decide +kernel
theorem dX2_setBest_6 : decode cX2_setBest 6 = .ok (.istore 4, 2) := by decide +kernel
theorem dX2_setBest_8 : decode cX2_setBest 8 = .ok (.iload 4, 2) := by decide +kernel
theorem dX2_setBest_10 : decode cX2_setBest 10 = .ok (.ifCond .lt 21, 3) := by decide +kernel
theorem dX2_setBest_13 : decode cX2_setBest 13 = .ok (.iload 4, 2) := by decide +kernel
theorem dX2_setBest_15 : decode cX2_setBest 15 = .ok (.aload_n 0, 1) := by decide +kernel
theorem dX2_setBest_16 : decode cX2_setBest 16 = .ok (.getfield 15, 3) := by decide +kernel
theorem dX2_setBest_19 : decode cX2_setBest 19 = .ok (.arraylength, 1) := by decide +kernel
theorem dX2_setBest_20 : decode cX2_setBest 20 = .ok (.if_icmp .ge 11, 3) := by decide +kernel
theorem dX2_setBest_23 : decode cX2_setBest 23 = .ok (.aload_n 0, 1) := by decide +kernel
theorem dX2_setBest_24 : decode cX2_setBest 24 = .ok (.getfield 15, 3) := by decide +kernel
theorem dX2_setBest_27 : decode cX2_setBest 27 = .ok (.iload 4, 2) := by decide +kernel
theorem dX2_setBest_29 : decode cX2_setBest 29 = .ok (.iload_n 3, 1) := by decide +kernel
theorem dX2_setBest_30 : decode cX2_setBest 30 = .ok (.iastore, 1) := by decide +kernel
theorem dX2_setBest_31 : decode cX2_setBest 31 = .ok (.return_, 1) := by decide +kernel
theorem dX2_choose_0 : decode cX2_choose 0 = .ok (.iconst 0, 1) := by decide +kernel
theorem dX2_choose_1 : decode cX2_choose 1 = .ok (.istore_n 2, 1) := by decide +kernel
theorem dX2_choose_2 : decode cX2_choose 2 = .ok (.aload_n 0, 1) := by decide +kernel
theorem dX2_choose_3 : decode cX2_choose 3 = .ok (.iconst 0, 1) := by decide +kernel
theorem dX2_choose_4 : decode cX2_choose 4 = .ok (.putfield 21, 3) := by decide +kernel
theorem dX2_choose_7 : decode cX2_choose 7 = .ok (.iconst 0, 1) := by decide +kernel
theorem dX2_choose_8 : decode cX2_choose 8 = .ok (.istore_n 3, 1) := by decide +kernel
theorem dX2_choose_9 : decode cX2_choose 9 = .ok (.iload_n 3, 1) := by decide +kernel
theorem dX2_choose_10 : decode cX2_choose 10 = .ok (.iload_n 1, 1) := by decide +kernel
theorem dX2_choose_11 : decode cX2_choose 11 = .ok (.if_icmp .ge 56, 3) := by decide +kernel
theorem dX2_choose_14 : decode cX2_choose 14 = .ok (.iload_n 3, 1) := by decide +kernel
theorem dX2_choose_15 : decode cX2_choose 15 = .ok (.aload_n 0, 1) := by decide +kernel
theorem dX2_choose_16 : decode cX2_choose 16 = .ok (.getfield 18, 3) := by decide +kernel
theorem dX2_choose_19 : decode cX2_choose 19 = .ok (.arraylength, 1) := by decide +kernel
theorem dX2_choose_20 : decode cX2_choose 20 = .ok (.if_icmp .ge 47, 3) := by decide +kernel
theorem dX2_choose_23 : decode cX2_choose 23 = .ok (.aload_n 0, 1) := by decide +kernel
theorem dX2_choose_24 : decode cX2_choose 24 = .ok (.iload_n 3, 1) := by decide +kernel
theorem dX2_choose_25 : decode cX2_choose 25 = .ok (.iload_n 2, 1) := by decide +kernel
theorem dX2_choose_26 : decode cX2_choose 26 = .ok (.invokevirtual 41, 3) := by decide +kernel
theorem dX2_choose_29 : decode cX2_choose 29 = .ok (.istore 4, 2) := by decide +kernel
theorem dX2_choose_31 : decode cX2_choose 31 = .ok (.aload_n 0, 1) := by decide +kernel
theorem dX2_choose_32 : decode cX2_choose 32 = .ok (.getfield 18, 3) := by decide +kernel
theorem dX2_choose_35 : decode cX2_choose 35 = .ok (.iload_n 3, 1) := by decide +kernel
theorem dX2_choose_36 : decode cX2_choose 36 = .ok (.iload 4, 2) := by decide +kernel
theorem dX2_choose_38 : decode cX2_choose 38 = .ok (.iastore, 1) := by decide +kernel
theorem dX2_choose_39 : decode cX2_choose 39 = .ok (.iload 4, 2) := by decide +kernel
theorem dX2_choose_41 : decode cX2_choose 41 = .ok (.ifCond .lt 20, 3) := by decide +kernel
theorem dX2_choose_44 : decode cX2_choose 44 = .ok (.iload_n 2, 1) := by decide +kernel
theorem dX2_choose_45 : decode cX2_choose 45 = .ok (.iconst 1, 1) := by decide +kernel
theorem dX2_choose_46 : decode cX2_choose 46 = .ok (.iload 4, 2) := by decide +kernel
theorem dX2_choose_48 : decode cX2_choose 48 = .ok (.ishl, 1) := by decide +kernel
theorem dX2_choose_49 : decode cX2_choose 49 = .ok (.ior, 1) := by decide +kernel
theorem dX2_choose_50 : decode cX2_choose 50 = .ok (.istore_n 2, 1) := by decide +kernel
theorem dX2_choose_51 : decode cX2_choose 51 = .ok (.aload_n 0, 1) := by decide +kernel
theorem dX2_choose_52 : decode cX2_choose 52 = .ok (.dup, 1) := by decide +kernel
theorem dX2_choose_53 : decode cX2_choose 53 = .ok (.getfield 21, 3) := by decide +kernel
theorem dX2_choose_56 : decode cX2_choose 56 = .ok (.iconst 1, 1) := by decide +kernel
theorem dX2_choose_57 : decode cX2_choose 57 = .ok (.iadd, 1) := by decide +kernel
theorem dX2_choose_58 : decode cX2_choose 58 = .ok (.putfield 21, 3) := by decide +kernel
theorem dX2_choose_61 : decode cX2_choose 61 = .ok (.iinc 3 1, 3) := by decide +kernel
theorem dX2_choose_64 : decode cX2_choose 64 = .ok (.goto (-55), 3) := by decide +kernel
theorem dX2_choose_67 : decode cX2_choose 67 = .ok (.return_, 1) := by decide +kernel
theorem dX3_init_0 : decode cX3_init 0 = .ok (.aload_n 0, 1) := by decide +kernel
theorem dX3_init_1 : decode cX3_init 1 = .ok (.invokespecial 3, 3) := by decide +kernel
theorem dX3_init_4 : decode cX3_init 4 = .ok (.aload_n 0, 1) := by decide +kernel
theorem dX3_init_5 : decode cX3_init 5 = .ok (.bipush 24, 2) := by decide +kernel
theorem dX3_init_7 : decode cX3_init 7 = .ok (.anewarray 9, 3) := by decide +kernel
theorem dX3_init_10 : decode cX3_init 10 = .ok (.putfield 11, 3) := by decide +kernel
theorem dX3_init_13 : decode cX3_init 13 = .ok (.iconst 0, 1) := by decide +kernel
theorem dX3_init_14 : decode cX3_init 14 = .ok (.istore_n 1, 1) := by decide +kernel
theorem dX3_init_15 : decode cX3_init 15 = .ok (.iload_n 1, 1) := by decide +kernel
theorem dX3_init_16 : decode cX3_init 16 = .ok (.aload_n 0, 1) := by decide +kernel
theorem dX3_init_17 : decode cX3_init 17 = .ok (.getfield 11, 3) := by decide +kernel
theorem dX3_init_20 : decode cX3_init 20 = .ok (.arraylength, 1) := by decide +kernel
theorem dX3_init_21 : decode cX3_init 21 = .ok (.if_icmp .ge 22, 3) := by decide +kernel
theorem dX3_init_24 : decode cX3_init 24 = .ok (.aload_n 0, 1) := by decide +kernel
theorem dX3_init_25 : decode cX3_init 25 = .ok (.getfield 11, 3) := by decide +kernel
theorem dX3_init_28 : decode cX3_init 28 = .ok (.iload_n 1, 1) := by decide +kernel
theorem dX3_init_29 : decode cX3_init 29 = .ok (.new 9, 3) := by decide +kernel
theorem dX3_init_32 : decode cX3_init 32 = .ok (.dup, 1) := by decide +kernel
theorem dX3_init_33 : decode cX3_init 33 = .ok (.invokespecial 17, 3) := by decide +kernel
theorem dX3_init_36 : decode cX3_init 36 = .ok (.aastore, 1) := by decide +kernel
theorem dX3_init_37 : decode cX3_init 37 = .ok (.iinc 1 1, 3) := by decide +kernel
theorem dX3_init_40 : decode cX3_init 40 = .ok (.goto (-25), 3) := by decide +kernel
theorem dX3_init_43 : decode cX3_init 43 = .ok (.return_, 1) := by decide +kernel
theorem dX3_acts_0 : decode cX3_acts 0 = .ok (.aload_n 0, 1) := by decide +kernel
theorem dX3_acts_1 : decode cX3_acts 1 = .ok (.getfield 18, 3) := by decide +kernel
theorem dX3_acts_4 : decode cX3_acts 4 = .ok (.ireturn, 1) := by decide +kernel
theorem dX3_forget_0 : decode cX3_forget 0 = .ok (.aload_n 0, 1) := by decide +kernel
theorem dX3_forget_1 : decode cX3_forget 1 = .ok (.iconst 0, 1) := by decide +kernel
theorem dX3_forget_2 : decode cX3_forget 2 = .ok (.putfield 18, 3) := by decide +kernel
theorem dX3_forget_5 : decode cX3_forget 5 = .ok (.return_, 1) := by decide +kernel
theorem dX3_keep_0 : decode cX3_keep 0 = .ok (.aload_n 0, 1) := by decide +kernel
theorem dX3_keep_1 : decode cX3_keep 1 = .ok (.aload_n 0, 1) := by decide +kernel
theorem dX3_keep_2 : decode cX3_keep 2 = .ok (.getfield 22, 3) := by decide +kernel
theorem dX3_keep_5 : decode cX3_keep 5 = .ok (.invokevirtual 25, 3) := by decide +kernel
theorem dX3_keep_8 : decode cX3_keep 8 = .ok (.astore_n 2, 1) := by decide +kernel
theorem dX3_keep_9 : decode cX3_keep 9 = .ok (.aload_n 2, 1) := by decide +kernel
theorem dX3_keep_10 : decode cX3_keep 10 = .ok (.ifnonnull 4, 3) := by decide +kernel
theorem dX3_keep_13 : decode cX3_keep 13 = .ok (.return_, 1) := by decide +kernel
theorem dX3_keep_14 : decode cX3_keep 14 = .ok (.aload_n 2, 1) := by decide +kernel
theorem dX3_keep_15 : decode cX3_keep 15 = .ok (.aload_n 1, 1) := by decide +kernel
theorem dX3_keep_16 : decode cX3_keep 16 = .ok (.invokevirtual 29, 3) := by decide +kernel
theorem dX3_keep_19 : decode cX3_keep 19 = .ok (.aload_n 0, 1) := by decide +kernel
theorem dX3_keep_20 : decode cX3_keep 20 = .ok (.aload_n 0, 1) := by decide +kernel
theorem dX3_keep_21 : decode cX3_keep 21 = .ok (.getfield 22, 3) := by decide +kernel
theorem dX3_keep_24 : decode cX3_keep 24 = .ok (.iconst 1, 1) := by decide +kernel
theorem dX3_keep_25 : decode cX3_keep 25 = .ok (.iadd, 1) := by decide +kernel
theorem dX3_keep_26 : decode cX3_keep 26 = .ok (.bipush 24, 2) := by decide +kernel
theorem dX3_keep_28 : decode cX3_keep 28 = .ok (.irem, 1) := by decide +kernel
theorem dX3_keep_29 : decode cX3_keep 29 = .ok (.putfield 22, 3) := by decide +kernel
theorem dX3_keep_32 : decode cX3_keep 32 = .ok (.aload_n 0, 1) := by decide +kernel
theorem dX3_keep_33 : decode cX3_keep 33 = .ok (.bipush 24, 2) := by decide +kernel
theorem dX3_keep_35 : decode cX3_keep 35 = .ok (.aload_n 0, 1) := by decide +kernel
theorem dX3_keep_36 : decode cX3_keep 36 = .ok (.getfield 18, 3) := by decide +kernel
theorem dX3_keep_39 : decode cX3_keep 39 = .ok (.iconst 1, 1) := by decide +kernel
theorem dX3_keep_40 : decode cX3_keep 40 = .ok (.iadd, 1) := by decide +kernel
theorem dX3_keep_41 : decode cX3_keep 41 = .ok (.invokestatic 33, 3) := by decide +kernel
theorem dX3_keep_44 : decode cX3_keep 44 = .ok (.putfield 18, 3) := by decide +kernel
theorem dX3_keep_47 : decode cX3_keep 47 = .ok (.return_, 1) := by decide +kernel
theorem dX3_takeBack_0 : decode cX3_takeBack 0 = .ok (.aload_n 0, 1) := by decide +kernel
theorem dX3_takeBack_1 : decode cX3_takeBack 1 = .ok (.getfield 22, 3) := by decide +kernel
theorem dX3_takeBack_4 : decode cX3_takeBack 4 = .ok (.bipush 24, 2) := by decide +kernel
theorem dX3_takeBack_6 : decode cX3_takeBack 6 = .ok (.iadd, 1) := by decide +kernel
theorem dX3_takeBack_7 : decode cX3_takeBack 7 = .ok (.iconst 1, 1) := by decide +kernel
theorem dX3_takeBack_8 : decode cX3_takeBack 8 = .ok (.isub, 1) := by decide +kernel
theorem dX3_takeBack_9 : decode cX3_takeBack 9 = .ok (.bipush 24, 2) := by decide +kernel
theorem dX3_takeBack_11 : decode cX3_takeBack 11 = .ok (.irem, 1) := by decide +kernel
theorem dX3_takeBack_12 : decode cX3_takeBack 12 = .ok (.istore_n 2, 1) := by decide +kernel
theorem dX3_takeBack_13 : decode cX3_takeBack 13 = .ok (.aload_n 0, 1) := by decide +kernel
theorem dX3_takeBack_14 : decode cX3_takeBack 14 = .ok (.iload_n 2, 1) := by decide +kernel
theorem dX3_takeBack_15 : decode cX3_takeBack 15 = .ok (.invokevirtual 25, 3) := by decide +kernel
theorem dX3_takeBack_18 : decode cX3_takeBack 18 = .ok (.astore_n 3, 1) := by decide +kernel
theorem dX3_takeBack_19 : decode cX3_takeBack 19 = .ok (.aload_n 0, 1) := by decide +kernel
theorem dX3_takeBack_20 : decode cX3_takeBack 20 = .ok (.getfield 18, 3) := by decide +kernel
theorem dX3_takeBack_23 : decode cX3_takeBack 23 = .ok (.iconst 1, 1) := by decide +kernel
theorem dX3_takeBack_24 : decode cX3_takeBack 24 = .ok (.if_icmp .lt 7, 3) := by decide +kernel
theorem dX3_takeBack_27 : decode cX3_takeBack 27 = .ok (.aload_n 3, 1) := by decide +kernel
theorem dX3_takeBack_28 : decode cX3_takeBack 28 = .ok (.ifnonnull 5, 3) := by decide +kernel
theorem dX3_takeBack_31 : decode cX3_takeBack 31 = .ok (.iconst 0, 1) := by decide +kernel
theorem dX3_takeBack_32 : decode cX3_takeBack 32 = .ok (.ireturn, 1) := by decide +kernel
theorem dX3_takeBack_33 : decode cX3_takeBack 33 = .ok (.aload_n 1, 1) := by decide +kernel
theorem dX3_takeBack_34 : decode cX3_takeBack 34 = .ok (.aload_n 3, 1) := by decide +kernel
theorem dX3_takeBack_35 : decode cX3_takeBack 35 = .ok (.invokevirtual 29, 3) := by decide +kernel
theorem dX3_takeBack_38 : decode cX3_takeBack 38 = .ok (.aload_n 0, 1) := by decide +kernel
theorem dX3_takeBack_39 : decode cX3_takeBack 39 = .ok (.iload_n 2, 1) := by decide +kernel
theorem dX3_takeBack_40 : decode cX3_takeBack 40 = .ok (.putfield 22, 3) := by decide +kernel
theorem dX3_takeBack_43 : decode cX3_takeBack 43 = .ok (.aload_n 0, 1) := by decide +kernel
theorem dX3_takeBack_44 : decode cX3_takeBack 44 = .ok (.dup, 1) := by decide +kernel
theorem dX3_takeBack_45 : decode cX3_takeBack 45 = .ok (.getfield 18, 3) := by decide +kernel
theorem dX3_takeBack_48 : decode cX3_takeBack 48 = .ok (.iconst 1, 1) := by decide +kernel
theorem dX3_takeBack_49 : decode cX3_takeBack 49 = .ok (.isub, 1) := by decide +kernel
theorem dX3_takeBack_50 : decode cX3_takeBack 50 = .ok (.putfield 18, 3) := by decide +kernel
theorem dX3_takeBack_53 : decode cX3_takeBack 53 = .ok (.iconst 1, 1) := by decide +kernel
theorem dX3_takeBack_54 : decode cX3_takeBack 54 = .ok (.ireturn, 1) := by decide +kernel
theorem dX3_at_0 : decode cX3_at 0 = .ok (.iload_n 1, 1) := by decide +kernel
theorem dX3_at_1 : decode cX3_at 1 = .ok (.ifCond .lt 12, 3) := by decide +kernel
theorem dX3_at_4 : decode cX3_at 4 = .ok (.iload_n 1, 1) := by decide +kernel
theorem dX3_at_5 : decode cX3_at 5 = .ok (.aload_n 0, 1) := by decide +kernel
theorem dX3_at_6 : decode cX3_at 6 = .ok (.getfield 11, 3) := by decide +kernel
theorem dX3_at_9 : decode cX3_at 9 = .ok (.arraylength, 1) := by decide +kernel
theorem dX3_at_10 : decode cX3_at 10 = .ok (.if_icmp .lt 7, 3) := by decide +kernel
theorem dX3_at_13 : decode cX3_at 13 = .ok (.aconst_null, 1) := by decide +kernel
theorem dX3_at_14 : decode cX3_at 14 = .ok (.goto 9, 3) := by decide +kernel
theorem dX3_at_17 : decode cX3_at 17 = .ok (.aload_n 0, 1) := by decide +kernel
theorem dX3_at_18 : decode cX3_at 18 = .ok (.getfield 11, 3) := by decide +kernel
theorem dX3_at_21 : decode cX3_at 21 = .ok (.iload_n 1, 1) := by decide +kernel
theorem dX3_at_22 : decode cX3_at 22 = .ok (.aaload, 1) := by decide +kernel
theorem dX3_at_23 : decode cX3_at 23 = .ok (.areturn, 1) := by decide +kernel
theorem dX4_init_0 : decode cX4_init 0 = .ok (.aload_n 0, 1) := by decide +kernel
theorem dX4_init_1 : decode cX4_init 1 = .ok (.invokespecial 3, 3) := by decide +kernel
theorem dX4_init_4 : decode cX4_init 4 = .ok (.aload_n 0, 1) := by decide +kernel
theorem dX4_init_5 : decode cX4_init 5 = .ok (.iconst 3, 1) := by decide +kernel
theorem dX4_init_6 : decode cX4_init 6 = .ok (.anewarray 9, 3) := by decide +kernel
theorem dX4_init_9 : decode cX4_init 9 = .ok (.dup, 1) := by decide +kernel
theorem dX4_init_10 : decode cX4_init 10 = .ok (.iconst 0, 1) := by decide +kernel
theorem dX4_init_11 : decode cX4_init 11 = .ok (.new 9, 3) := by decide +kernel
theorem dX4_init_14 : decode cX4_init 14 = .ok (.dup, 1) := by decide +kernel
theorem dX4_init_15 : decode cX4_init 15 = .ok (.invokespecial 11, 3) := by decide +kernel
theorem dX4_init_18 : decode cX4_init 18 = .ok (.aastore, 1) := by decide +kernel
theorem dX4_init_19 : decode cX4_init 19 = .ok (.dup, 1) := by decide +kernel
theorem dX4_init_20 : decode cX4_init 20 = .ok (.iconst 1, 1) := by decide +kernel
theorem dX4_init_21 : decode cX4_init 21 = .ok (.new 9, 3) := by decide +kernel
theorem dX4_init_24 : decode cX4_init 24 = .ok (.dup, 1) := by decide +kernel
theorem dX4_init_25 : decode cX4_init 25 = .ok (.invokespecial 11, 3) := by decide +kernel
theorem dX4_init_28 : decode cX4_init 28 = .ok (.aastore, 1) := by decide +kernel
theorem dX4_init_29 : decode cX4_init 29 = .ok (.dup, 1) := by decide +kernel
theorem dX4_init_30 : decode cX4_init 30 = .ok (.iconst 2, 1) := by decide +kernel
theorem dX4_init_31 : decode cX4_init 31 = .ok (.new 9, 3) := by decide +kernel
theorem dX4_init_34 : decode cX4_init 34 = .ok (.dup, 1) := by decide +kernel
theorem dX4_init_35 : decode cX4_init 35 = .ok (.invokespecial 11, 3) := by decide +kernel
theorem dX4_init_38 : decode cX4_init 38 = .ok (.aastore, 1) := by decide +kernel
theorem dX4_init_39 : decode cX4_init 39 = .ok (.putfield 12, 3) := by decide +kernel
theorem dX4_init_42 : decode cX4_init 42 = .ok (.aload_n 0, 1) := by decide +kernel
theorem dX4_init_43 : decode cX4_init 43 = .ok (.bipush 12, 2) := by decide +kernel
theorem dX4_init_45 : decode cX4_init 45 = .ok (.newarray .int, 2) := by decide +kernel
theorem dX4_init_47 : decode cX4_init 47 = .ok (.putfield 18, 3) := by decide +kernel
theorem dX4_init_50 : decode cX4_init 50 = .ok (.return_, 1) := by decide +kernel
theorem dX4_step_0 : decode cX4_step 0 = .ok (.iload_n 1, 1) := by decide +kernel
theorem dX4_step_1 : decode cX4_step 1 = .ok (.ifCond .lt 8, 3) := by decide +kernel
theorem dX4_step_4 : decode cX4_step 4 = .ok (.iload_n 1, 1) := by decide +kernel
theorem dX4_step_5 : decode cX4_step 5 = .ok (.iconst 3, 1) := by decide +kernel
theorem dX4_step_6 : decode cX4_step 6 = .ok (.if_icmp .lt 8, 3) := by decide +kernel
theorem dX4_step_9 : decode cX4_step 9 = .ok (.bipush (-4), 2) := by decide +kernel
theorem dX4_step_11 : decode cX4_step 11 = .ok (.goto 9, 3) := by decide +kernel
theorem dX4_step_14 : decode cX4_step 14 = .ok (.aload_n 0, 1) := by decide +kernel
theorem dX4_step_15 : decode cX4_step 15 = .ok (.getfield 18, 3) := by decide +kernel
theorem dX4_step_18 : decode cX4_step 18 = .ok (.iload_n 1, 1) := by decide +kernel
theorem dX4_step_19 : decode cX4_step 19 = .ok (.iaload, 1) := by decide +kernel
theorem dX4_step_20 : decode cX4_step 20 = .ok (.ireturn, 1) := by decide +kernel
theorem dX4_bestFrom_0 : decode cX4_bestFrom 0 = .ok (.iload_n 3, 1) := by decide +kernel
theorem dX4_bestFrom_1 : decode cX4_bestFrom 1 = .ok (.iconst 1, 1) := by decide +kernel
theorem dX4_bestFrom_2 : decode cX4_bestFrom 2 = .ok (.if_icmp .lt 12, 3) := by decide +kernel
theorem dX4_bestFrom_5 : decode cX4_bestFrom 5 = .ok (.iload_n 2, 1) := by decide +kernel
theorem dX4_bestFrom_6 : decode cX4_bestFrom 6 = .ok (.ifCond .lt 8, 3) := by decide +kernel
theorem dX4_bestFrom_9 : decode cX4_bestFrom 9 = .ok (.iload_n 2, 1) := by decide +kernel
theorem dX4_bestFrom_10 : decode cX4_bestFrom 10 = .ok (.iconst 3, 1) := by decide +kernel
theorem dX4_bestFrom_11 : decode cX4_bestFrom 11 = .ok (.if_icmp .lt 5, 3) := by decide +kernel
theorem dX4_bestFrom_14 : decode cX4_bestFrom 14 = .ok (.iconst 0, 1) := by decide +kernel
theorem dX4_bestFrom_15 : decode cX4_bestFrom 15 = .ok (.ireturn, 1) := by decide +kernel
theorem dX4_bestFrom_16 : decode cX4_bestFrom 16 = .ok (.iconst (-1), 1) := by decide +kernel
theorem dX4_bestFrom_17 : decode cX4_bestFrom 17 = .ok (.istore 4, 2) := by decide +kernel
theorem dX4_bestFrom_19 : decode cX4_bestFrom 19 = .ok (.iconst 0, 1) := by decide +kernel
theorem dX4_bestFrom_20 : decode cX4_bestFrom 20 = .ok (.istore 5, 2) := by decide +kernel
theorem dX4_bestFrom_22 : decode cX4_bestFrom 22 = .ok (.iload 5, 2) := by decide +kernel
theorem dX4_bestFrom_24 : decode cX4_bestFrom 24 = .ok (.bipush 99, 2) := by decide +kernel
theorem dX4_bestFrom_26 : decode cX4_bestFrom 26 = .ok (.if_icmp .gt 74, 3) := by decide +kernel
theorem dX4_bestFrom_29 : decode cX4_bestFrom 29 = .ok (.iload 4, 2) := by decide +kernel
theorem dX4_bestFrom_31 : decode cX4_bestFrom 31 = .ok (.iload_n 3, 1) := by decide +kernel
theorem dX4_bestFrom_32 : decode cX4_bestFrom 32 = .ok (.if_icmp .ge 68, 3) := by decide +kernel
theorem dX4_bestFrom_35 : decode cX4_bestFrom 35 = .ok (.aload_n 1, 1) := by decide +kernel
theorem dX4_bestFrom_36 : decode cX4_bestFrom 36 = .ok (.iload 5, 2) := by decide +kernel
theorem dX4_bestFrom_38 : decode cX4_bestFrom 38 = .ok (.invokestatic 22, 3) := by decide +kernel
theorem dX4_bestFrom_41 : decode cX4_bestFrom 41 = .ok (.istore 6, 2) := by decide +kernel
theorem dX4_bestFrom_43 : decode cX4_bestFrom 43 = .ok (.iload 6, 2) := by decide +kernel
theorem dX4_bestFrom_45 : decode cX4_bestFrom 45 = .ok (.ifCond .lt 49, 3) := by decide +kernel
theorem dX4_bestFrom_48 : decode cX4_bestFrom 48 = .ok (.iload 6, 2) := by decide +kernel
theorem dX4_bestFrom_50 : decode cX4_bestFrom 50 = .ok (.iload_n 3, 1) := by decide +kernel
theorem dX4_bestFrom_51 : decode cX4_bestFrom 51 = .ok (.iadd, 1) := by decide +kernel
theorem dX4_bestFrom_52 : decode cX4_bestFrom 52 = .ok (.iconst 1, 1) := by decide +kernel
theorem dX4_bestFrom_53 : decode cX4_bestFrom 53 = .ok (.isub, 1) := by decide +kernel
theorem dX4_bestFrom_54 : decode cX4_bestFrom 54 = .ok (.iload 4, 2) := by decide +kernel
theorem dX4_bestFrom_56 : decode cX4_bestFrom 56 = .ok (.if_icmp .gt 6, 3) := by decide +kernel
theorem dX4_bestFrom_59 : decode cX4_bestFrom 59 = .ok (.goto 35, 3) := by decide +kernel
theorem dX4_bestFrom_62 : decode cX4_bestFrom 62 = .ok (.iload 6, 2) := by decide +kernel
theorem dX4_bestFrom_64 : decode cX4_bestFrom 64 = .ok (.aload_n 0, 1) := by decide +kernel
theorem dX4_bestFrom_65 : decode cX4_bestFrom 65 = .ok (.aload_n 1, 1) := by decide +kernel
theorem dX4_bestFrom_66 : decode cX4_bestFrom 66 = .ok (.iload 5, 2) := by decide +kernel
theorem dX4_bestFrom_68 : decode cX4_bestFrom 68 = .ok (.iload_n 2, 1) := by decide +kernel
theorem dX4_bestFrom_69 : decode cX4_bestFrom 69 = .ok (.iload_n 3, 1) := by decide +kernel
theorem dX4_bestFrom_70 : decode cX4_bestFrom 70 = .ok (.invokevirtual 26, 3) := by decide +kernel
theorem dX4_bestFrom_73 : decode cX4_bestFrom 73 = .ok (.iadd, 1) := by decide +kernel
theorem dX4_bestFrom_74 : decode cX4_bestFrom 74 = .ok (.istore 7, 2) := by decide +kernel
theorem dX4_bestFrom_76 : decode cX4_bestFrom 76 = .ok (.iload 7, 2) := by decide +kernel
theorem dX4_bestFrom_78 : decode cX4_bestFrom 78 = .ok (.iload 4, 2) := by decide +kernel
theorem dX4_bestFrom_80 : decode cX4_bestFrom 80 = .ok (.if_icmp .le 14, 3) := by decide +kernel
theorem dX4_bestFrom_83 : decode cX4_bestFrom 83 = .ok (.iload 7, 2) := by decide +kernel
theorem dX4_bestFrom_85 : decode cX4_bestFrom 85 = .ok (.istore 4, 2) := by decide +kernel
theorem dX4_bestFrom_87 : decode cX4_bestFrom 87 = .ok (.aload_n 0, 1) := by decide +kernel
theorem dX4_bestFrom_88 : decode cX4_bestFrom 88 = .ok (.iload_n 2, 1) := by decide +kernel
theorem dX4_bestFrom_89 : decode cX4_bestFrom 89 = .ok (.iload 5, 2) := by decide +kernel
theorem dX4_bestFrom_91 : decode cX4_bestFrom 91 = .ok (.invokevirtual 30, 3) := by decide +kernel
theorem dX4_bestFrom_94 : decode cX4_bestFrom 94 = .ok (.iinc 5 1, 3) := by decide +kernel
theorem dX4_bestFrom_97 : decode cX4_bestFrom 97 = .ok (.goto (-75), 3) := by decide +kernel
theorem dX4_bestFrom_100 : decode cX4_bestFrom 100 = .ok (.iload 4, 2) := by decide +kernel
theorem dX4_bestFrom_102 : decode cX4_bestFrom 102 = .ok (.ireturn, 1) := by decide +kernel
theorem dX4_bestBehind_0 : decode cX4_bestBehind 0 = .ok (.iload_n 3, 1) := by decide +kernel
theorem dX4_bestBehind_1 : decode cX4_bestBehind 1 = .ok (.ifCond .lt 12, 3) := by decide +kernel
theorem dX4_bestBehind_4 : decode cX4_bestBehind 4 = .ok (.iload_n 3, 1) := by decide +kernel
theorem dX4_bestBehind_5 : decode cX4_bestBehind 5 = .ok (.aload_n 0, 1) := by decide +kernel
theorem dX4_bestBehind_6 : decode cX4_bestBehind 6 = .ok (.getfield 12, 3) := by decide +kernel
theorem dX4_bestBehind_9 : decode cX4_bestBehind 9 = .ok (.arraylength, 1) := by decide +kernel
theorem dX4_bestBehind_10 : decode cX4_bestBehind 10 = .ok (.if_icmp .lt 7, 3) := by decide +kernel
theorem dX4_bestBehind_13 : decode cX4_bestBehind 13 = .ok (.aconst_null, 1) := by decide +kernel
theorem dX4_bestBehind_14 : decode cX4_bestBehind 14 = .ok (.goto 9, 3) := by decide +kernel
theorem dX4_bestBehind_17 : decode cX4_bestBehind 17 = .ok (.aload_n 0, 1) := by decide +kernel
theorem dX4_bestBehind_18 : decode cX4_bestBehind 18 = .ok (.getfield 12, 3) := by decide +kernel
theorem dX4_bestBehind_21 : decode cX4_bestBehind 21 = .ok (.iload_n 3, 1) := by decide +kernel
theorem dX4_bestBehind_22 : decode cX4_bestBehind 22 = .ok (.aaload, 1) := by decide +kernel
theorem dX4_bestBehind_23 : decode cX4_bestBehind 23 = .ok (.astore 5, 2) := by decide +kernel
theorem dX4_bestBehind_25 : decode cX4_bestBehind 25 = .ok (.iload 4, 2) := by decide +kernel
theorem dX4_bestBehind_27 : decode cX4_bestBehind 27 = .ok (.iconst 1, 1) := by decide +kernel
theorem dX4_bestBehind_28 : decode cX4_bestBehind 28 = .ok (.if_icmp .le 8, 3) := by decide +kernel
theorem dX4_bestBehind_31 : decode cX4_bestBehind 31 = .ok (.aload 5, 2) := by decide +kernel
theorem dX4_bestBehind_33 : decode cX4_bestBehind 33 = .ok (.ifnonnull 5, 3) := by decide +kernel
theorem dX4_bestBehind_36 : decode cX4_bestBehind 36 = .ok (.iconst 0, 1) := by decide +kernel
theorem dX4_bestBehind_37 : decode cX4_bestBehind 37 = .ok (.ireturn, 1) := by decide +kernel
theorem dX4_bestBehind_38 : decode cX4_bestBehind 38 = .ok (.aload 5, 2) := by decide +kernel
theorem dX4_bestBehind_40 : decode cX4_bestBehind 40 = .ok (.aload_n 1, 1) := by decide +kernel
theorem dX4_bestBehind_41 : decode cX4_bestBehind 41 = .ok (.invokevirtual 34, 3) := by decide +kernel
theorem dX4_bestBehind_44 : decode cX4_bestBehind 44 = .ok (.iload_n 2, 1) := by decide +kernel
theorem dX4_bestBehind_45 : decode cX4_bestBehind 45 = .ok (.bipush 99, 2) := by decide +kernel
theorem dX4_bestBehind_47 : decode cX4_bestBehind 47 = .ok (.if_icmp .ne 11, 3) := by decide +kernel
theorem dX4_bestBehind_50 : decode cX4_bestBehind 50 = .ok (.aload 5, 2) := by decide +kernel
theorem dX4_bestBehind_52 : decode cX4_bestBehind 52 = .ok (.invokevirtual 38, 3) := by decide +kernel
theorem dX4_bestBehind_55 : decode cX4_bestBehind 55 = .ok (.goto 17, 3) := by decide +kernel
theorem dX4_bestBehind_58 : decode cX4_bestBehind 58 = .ok (.aload 5, 2) := by decide +kernel
theorem dX4_bestBehind_60 : decode cX4_bestBehind 60 = .ok (.iload_n 2, 1) := by decide +kernel
theorem dX4_bestBehind_61 : decode cX4_bestBehind 61 = .ok (.bipush 10, 2) := by decide +kernel
theorem dX4_bestBehind_63 : decode cX4_bestBehind 63 = .ok (.idiv, 1) := by decide +kernel
theorem dX4_bestBehind_64 : decode cX4_bestBehind 64 = .ok (.iload_n 2, 1) := by decide +kernel
theorem dX4_bestBehind_65 : decode cX4_bestBehind 65 = .ok (.bipush 10, 2) := by decide +kernel
theorem dX4_bestBehind_67 : decode cX4_bestBehind 67 = .ok (.irem, 1) := by decide +kernel
theorem dX4_bestBehind_68 : decode cX4_bestBehind 68 = .ok (.invokevirtual 41, 3) := by decide +kernel
theorem dX4_bestBehind_71 : decode cX4_bestBehind 71 = .ok (.pop, 1) := by decide +kernel
theorem dX4_bestBehind_72 : decode cX4_bestBehind 72 = .ok (.aload_n 0, 1) := by decide +kernel
theorem dX4_bestBehind_73 : decode cX4_bestBehind 73 = .ok (.aload 5, 2) := by decide +kernel
theorem dX4_bestBehind_75 : decode cX4_bestBehind 75 = .ok (.iload_n 3, 1) := by decide +kernel
theorem dX4_bestBehind_76 : decode cX4_bestBehind 76 = .ok (.iconst 1, 1) := by decide +kernel
theorem dX4_bestBehind_77 : decode cX4_bestBehind 77 = .ok (.iadd, 1) := by decide +kernel
theorem dX4_bestBehind_78 : decode cX4_bestBehind 78 = .ok (.iload 4, 2) := by decide +kernel
theorem dX4_bestBehind_80 : decode cX4_bestBehind 80 = .ok (.iconst 1, 1) := by decide +kernel
theorem dX4_bestBehind_81 : decode cX4_bestBehind 81 = .ok (.isub, 1) := by decide +kernel
theorem dX4_bestBehind_82 : decode cX4_bestBehind 82 = .ok (.invokevirtual 45, 3) := by decide +kernel
theorem dX4_bestBehind_85 : decode cX4_bestBehind 85 = .ok (.ireturn, 1) := by decide +kernel
theorem dX4_gainOf_0 : decode cX4_gainOf 0 = .ok (.iload_n 1, 1) := by decide +kernel
theorem dX4_gainOf_1 : decode cX4_gainOf 1 = .ok (.bipush 99, 2) := by decide +kernel
theorem dX4_gainOf_3 : decode cX4_gainOf 3 = .ok (.if_icmp .ne 5, 3) := by decide +kernel
theorem dX4_gainOf_6 : decode cX4_gainOf 6 = .ok (.iconst 0, 1) := by decide +kernel
theorem dX4_gainOf_7 : decode cX4_gainOf 7 = .ok (.ireturn, 1) := by decide +kernel
theorem dX4_gainOf_8 : decode cX4_gainOf 8 = .ok (.aload_n 0, 1) := by decide +kernel
theorem dX4_gainOf_9 : decode cX4_gainOf 9 = .ok (.iload_n 1, 1) := by decide +kernel
theorem dX4_gainOf_10 : decode cX4_gainOf 10 = .ok (.bipush 10, 2) := by decide +kernel
theorem dX4_gainOf_12 : decode cX4_gainOf 12 = .ok (.idiv, 1) := by decide +kernel
theorem dX4_gainOf_13 : decode cX4_gainOf 13 = .ok (.iload_n 1, 1) := by decide +kernel
theorem dX4_gainOf_14 : decode cX4_gainOf 14 = .ok (.bipush 10, 2) := by decide +kernel
theorem dX4_gainOf_16 : decode cX4_gainOf 16 = .ok (.irem, 1) := by decide +kernel
theorem dX4_gainOf_17 : decode cX4_gainOf 17 = .ok (.invokevirtual 49, 3) := by decide +kernel
theorem dX4_gainOf_20 : decode cX4_gainOf 20 = .ok (.ifCond .ne 5, 3) := by decide +kernel
theorem dX4_gainOf_23 : decode cX4_gainOf 23 = .ok (.iconst (-1), 1) := by decide +kernel
theorem dX4_gainOf_24 : decode cX4_gainOf 24 = .ok (.ireturn, 1) := by decide +kernel
theorem dX4_gainOf_25 : decode cX4_gainOf 25 = .ok (.aload_n 0, 1) := by decide +kernel
theorem dX4_gainOf_26 : decode cX4_gainOf 26 = .ok (.iload_n 1, 1) := by decide +kernel
theorem dX4_gainOf_27 : decode cX4_gainOf 27 = .ok (.bipush 10, 2) := by decide +kernel
theorem dX4_gainOf_29 : decode cX4_gainOf 29 = .ok (.idiv, 1) := by decide +kernel
theorem dX4_gainOf_30 : decode cX4_gainOf 30 = .ok (.iload_n 1, 1) := by decide +kernel
theorem dX4_gainOf_31 : decode cX4_gainOf 31 = .ok (.bipush 10, 2) := by decide +kernel
theorem dX4_gainOf_33 : decode cX4_gainOf 33 = .ok (.irem, 1) := by decide +kernel
theorem dX4_gainOf_34 : decode cX4_gainOf 34 = .ok (.invokevirtual 53, 3) := by decide +kernel
theorem dX4_gainOf_37 : decode cX4_gainOf 37 = .ok (.ifCond .le 7, 3) := by decide +kernel
theorem dX4_gainOf_40 : decode cX4_gainOf 40 = .ok (.iconst 1, 1) := by decide +kernel
theorem dX4_gainOf_41 : decode cX4_gainOf 41 = .ok (.goto 4, 3) := by decide +kernel
theorem dX4_gainOf_44 : decode cX4_gainOf 44 = .ok (.iconst 0, 1) := by decide +kernel
theorem dX4_gainOf_45 : decode cX4_gainOf 45 = .ok (.ireturn, 1) := by decide +kernel
theorem dX4_keep_0 : decode cX4_keep 0 = .ok (.iload_n 1, 1) := by decide +kernel
theorem dX4_keep_1 : decode cX4_keep 1 = .ok (.iconst 3, 1) := by decide +kernel
theorem dX4_keep_2 : decode cX4_keep 2 = .ok (.imul, 1) := by decide +kernel
theorem dX4_keep_3 : decode cX4_keep 3 = .ok (.istore_n 3, 1) := by decide +kernel
theorem dX4_keep_4 : decode cX4_keep 4 = .ok (.iload_n 3, 1) := by decide +kernel
theorem dX4_keep_5 : decode cX4_keep 5 = .ok (.iconst 3, 1) := by decide +kernel
theorem dX4_keep_6 : decode cX4_keep 6 = .ok (.iadd, 1) := by decide +kernel
theorem dX4_keep_7 : decode cX4_keep 7 = .ok (.istore 4, 2) := by decide +kernel
theorem dX4_keep_9 : decode cX4_keep 9 = .ok (.iload_n 3, 1) := by decide +kernel
theorem dX4_keep_10 : decode cX4_keep 10 = .ok (.ifCond .lt 15, 3) := by decide +kernel
theorem dX4_keep_13 : decode cX4_keep 13 = .ok (.iload 4, 2) := by decide +kernel
theorem dX4_keep_15 : decode cX4_keep 15 = .ok (.iconst 3, 1) := by decide +kernel
theorem dX4_keep_16 : decode cX4_keep 16 = .ok (.iadd, 1) := by decide +kernel
theorem dX4_keep_17 : decode cX4_keep 17 = .ok (.aload_n 0, 1) := by decide +kernel
theorem dX4_keep_18 : decode cX4_keep 18 = .ok (.getfield 18, 3) := by decide +kernel
theorem dX4_keep_21 : decode cX4_keep 21 = .ok (.arraylength, 1) := by decide +kernel
theorem dX4_keep_22 : decode cX4_keep 22 = .ok (.if_icmp .le 4, 3) := by decide +kernel
theorem dX4_keep_25 : decode cX4_keep 25 = .ok (.return_, 1) := by decide +kernel
theorem dX4_keep_26 : decode cX4_keep 26 = .ok (.aload_n 0, 1) := by decide +kernel
theorem dX4_keep_27 : decode cX4_keep 27 = .ok (.getfield 18, 3) := by decide +kernel
theorem dX4_keep_30 : decode cX4_keep 30 = .ok (.iload_n 3, 1) := by decide +kernel
theorem dX4_keep_31 : decode cX4_keep 31 = .ok (.iload_n 2, 1) := by decide +kernel
theorem dX4_keep_32 : decode cX4_keep 32 = .ok (.iastore, 1) := by decide +kernel
theorem dX4_keep_33 : decode cX4_keep 33 = .ok (.aload_n 0, 1) := by decide +kernel
theorem dX4_keep_34 : decode cX4_keep 34 = .ok (.getfield 18, 3) := by decide +kernel
theorem dX4_keep_37 : decode cX4_keep 37 = .ok (.iload 4, 2) := by decide +kernel
theorem dX4_keep_39 : decode cX4_keep 39 = .ok (.aload_n 0, 1) := by decide +kernel
theorem dX4_keep_40 : decode cX4_keep 40 = .ok (.getfield 18, 3) := by decide +kernel
theorem dX4_keep_43 : decode cX4_keep 43 = .ok (.iload_n 3, 1) := by decide +kernel
theorem dX4_keep_44 : decode cX4_keep 44 = .ok (.iconst 1, 1) := by decide +kernel
theorem dX4_keep_45 : decode cX4_keep 45 = .ok (.iadd, 1) := by decide +kernel
theorem dX4_keep_46 : decode cX4_keep 46 = .ok (.iconst 2, 1) := by decide +kernel
theorem dX4_keep_47 : decode cX4_keep 47 = .ok (.invokestatic 56, 3) := by decide +kernel
theorem dX4_keep_50 : decode cX4_keep 50 = .ok (.return_, 1) := by decide +kernel
theorem dX5_init_0 : decode cX5_init 0 = .ok (.aload_n 0, 1) := by decide +kernel
theorem dX5_init_1 : decode cX5_init 1 = .ok (.invokespecial 3, 3) := by decide +kernel
theorem dX5_init_4 : decode cX5_init 4 = .ok (.aload_n 0, 1) := by decide +kernel
theorem dX5_init_5 : decode cX5_init 5 = .ok (.bipush 24, 2) := by decide +kernel
theorem dX5_init_7 : decode cX5_init 7 = .ok (.newarray .long, 2) := by decide +kernel
theorem dX5_init_9 : decode cX5_init 9 = .ok (.putfield 9, 3) := by decide +kernel
theorem dX5_init_12 : decode cX5_init 12 = .ok (.aload_n 0, 1) := by decide +kernel
theorem dX5_init_13 : decode cX5_init 13 = .ok (.iconst (-1), 1) := by decide +kernel
theorem dX5_init_14 : decode cX5_init 14 = .ok (.putfield 15, 3) := by decide +kernel
theorem dX5_init_17 : decode cX5_init 17 = .ok (.return_, 1) := by decide +kernel
theorem dX5_isNothing_0 : decode cX5_isNothing 0 = .ok (.aload_n 0, 1) := by decide +kernel
theorem dX5_isNothing_1 : decode cX5_isNothing 1 = .ok (.getfield 15, 3) := by decide +kernel
theorem dX5_isNothing_4 : decode cX5_isNothing 4 = .ok (.iconst (-1), 1) := by decide +kernel
theorem dX5_isNothing_5 : decode cX5_isNothing 5 = .ok (.if_icmp .ne 7, 3) := by decide +kernel
theorem dX5_isNothing_8 : decode cX5_isNothing 8 = .ok (.iconst 1, 1) := by decide +kernel
theorem dX5_isNothing_9 : decode cX5_isNothing 9 = .ok (.goto 4, 3) := by decide +kernel
theorem dX5_isNothing_12 : decode cX5_isNothing 12 = .ok (.iconst 0, 1) := by decide +kernel
theorem dX5_isNothing_13 : decode cX5_isNothing 13 = .ok (.ireturn, 1) := by decide +kernel
theorem dX5_lane_0 : decode cX5_lane 0 = .ok (.aload_n 0, 1) := by decide +kernel
theorem dX5_lane_1 : decode cX5_lane 1 = .ok (.getfield 15, 3) := by decide +kernel
theorem dX5_lane_4 : decode cX5_lane 4 = .ok (.ireturn, 1) := by decide +kernel
theorem dX5_lay_0 : decode cX5_lay 0 = .ok (.aload_n 0, 1) := by decide +kernel
theorem dX5_lay_1 : decode cX5_lay 1 = .ok (.getfield 9, 3) := by decide +kernel
theorem dX5_lay_4 : decode cX5_lay 4 = .ok (.lconst 0, 1) := by decide +kernel
theorem dX5_lay_5 : decode cX5_lay 5 = .ok (.invokestatic 19, 3) := by decide +kernel
theorem dX5_lay_8 : decode cX5_lay 8 = .ok (.aload_n 0, 1) := by decide +kernel
theorem dX5_lay_9 : decode cX5_lay 9 = .ok (.iload_n 1, 1) := by decide +kernel
theorem dX5_lay_10 : decode cX5_lay 10 = .ok (.putfield 15, 3) := by decide +kernel
theorem dX5_lay_13 : decode cX5_lay 13 = .ok (.aload_n 0, 1) := by decide +kernel
theorem dX5_lay_14 : decode cX5_lay 14 = .ok (.iload_n 2, 1) := by decide +kernel
theorem dX5_lay_15 : decode cX5_lay 15 = .ok (.putfield 25, 3) := by decide +kernel
theorem dX5_lay_18 : decode cX5_lay 18 = .ok (.return_, 1) := by decide +kernel
theorem dX5_clear_0 : decode cX5_clear 0 = .ok (.aload_n 0, 1) := by decide +kernel
theorem dX5_clear_1 : decode cX5_clear 1 = .ok (.getfield 25, 3) := by decide +kernel
theorem dX5_clear_4 : decode cX5_clear 4 = .ok (.istore_n 1, 1) := by decide +kernel
theorem dX5_clear_5 : decode cX5_clear 5 = .ok (.aload_n 0, 1) := by decide +kernel
theorem dX5_clear_6 : decode cX5_clear 6 = .ok (.iconst (-1), 1) := by decide +kernel
theorem dX5_clear_7 : decode cX5_clear 7 = .ok (.iconst 0, 1) := by decide +kernel
theorem dX5_clear_8 : decode cX5_clear 8 = .ok (.invokevirtual 28, 3) := by decide +kernel
theorem dX5_clear_11 : decode cX5_clear 11 = .ok (.iload_n 1, 1) := by decide +kernel
theorem dX5_clear_12 : decode cX5_clear 12 = .ok (.ireturn, 1) := by decide +kernel
theorem dX5_holds_0 : decode cX5_holds 0 = .ok (.iload_n 1, 1) := by decide +kernel
theorem dX5_holds_1 : decode cX5_holds 1 = .ok (.ifCond .lt 29, 3) := by decide +kernel
theorem dX5_holds_4 : decode cX5_holds 4 = .ok (.iload_n 2, 1) := by decide +kernel
theorem dX5_holds_5 : decode cX5_holds 5 = .ok (.ifCond .lt 25, 3) := by decide +kernel
theorem dX5_holds_8 : decode cX5_holds 8 = .ok (.iload_n 2, 1) := by decide +kernel
theorem dX5_holds_9 : decode cX5_holds 9 = .ok (.aload_n 0, 1) := by decide +kernel
theorem dX5_holds_10 : decode cX5_holds 10 = .ok (.getfield 25, 3) := by decide +kernel
theorem dX5_holds_13 : decode cX5_holds 13 = .ok (.if_icmp .gt 17, 3) := by decide +kernel
theorem dX5_holds_16 : decode cX5_holds 16 = .ok (.iload_n 1, 1) := by decide +kernel
theorem dX5_holds_17 : decode cX5_holds 17 = .ok (.aload_n 0, 1) := by decide +kernel
theorem dX5_holds_18 : decode cX5_holds 18 = .ok (.getfield 25, 3) := by decide +kernel
theorem dX5_holds_21 : decode cX5_holds 21 = .ok (.iload_n 2, 1) := by decide +kernel
theorem dX5_holds_22 : decode cX5_holds 22 = .ok (.isub, 1) := by decide +kernel
theorem dX5_holds_23 : decode cX5_holds 23 = .ok (.if_icmp .gt 7, 3) := by decide +kernel
theorem dX5_holds_26 : decode cX5_holds 26 = .ok (.iconst 1, 1) := by decide +kernel
theorem dX5_holds_27 : decode cX5_holds 27 = .ok (.goto 4, 3) := by decide +kernel
theorem dX5_holds_30 : decode cX5_holds 30 = .ok (.iconst 0, 1) := by decide +kernel
theorem dX5_holds_31 : decode cX5_holds 31 = .ok (.ireturn, 1) := by decide +kernel
theorem dX5_get_0 : decode cX5_get 0 = .ok (.iload_n 1, 1) := by decide +kernel
theorem dX5_get_1 : decode cX5_get 1 = .ok (.ifCond .lt 12, 3) := by decide +kernel
theorem dX5_get_4 : decode cX5_get 4 = .ok (.iload_n 1, 1) := by decide +kernel
theorem dX5_get_5 : decode cX5_get 5 = .ok (.aload_n 0, 1) := by decide +kernel
theorem dX5_get_6 : decode cX5_get 6 = .ok (.getfield 9, 3) := by decide +kernel
theorem dX5_get_9 : decode cX5_get 9 = .ok (.arraylength, 1) := by decide +kernel
theorem dX5_get_10 : decode cX5_get 10 = .ok (.if_icmp .lt 7, 3) := by decide +kernel
theorem dX5_get_13 : decode cX5_get 13 = .ok (.lconst 0, 1) := by decide +kernel
theorem dX5_get_14 : decode cX5_get 14 = .ok (.goto 9, 3) := by decide +kernel
theorem dX5_get_17 : decode cX5_get 17 = .ok (.aload_n 0, 1) := by decide +kernel
theorem dX5_get_18 : decode cX5_get 18 = .ok (.getfield 9, 3) := by decide +kernel
theorem dX5_get_21 : decode cX5_get 21 = .ok (.iload_n 1, 1) := by decide +kernel
theorem dX5_get_22 : decode cX5_get 22 = .ok (.laload, 1) := by decide +kernel
theorem dX5_get_23 : decode cX5_get 23 = .ok (.lreturn, 1) := by decide +kernel
theorem dX5_put_0 : decode cX5_put 0 = .ok (.iload_n 1, 1) := by decide +kernel
theorem dX5_put_1 : decode cX5_put 1 = .ok (.ifCond .lt 23, 3) := by decide +kernel
theorem dX5_put_4 : decode cX5_put 4 = .ok (.iload_n 1, 1) := by decide +kernel
theorem dX5_put_5 : decode cX5_put 5 = .ok (.aload_n 0, 1) := by decide +kernel
theorem dX5_put_6 : decode cX5_put 6 = .ok (.getfield 9, 3) := by decide +kernel
theorem dX5_put_9 : decode cX5_put 9 = .ok (.arraylength, 1) := by decide +kernel
theorem dX5_put_10 : decode cX5_put 10 = .ok (.if_icmp .ge 14, 3) := by decide +kernel
theorem dX5_put_13 : decode cX5_put 13 = .ok (.aload_n 0, 1) := by decide +kernel
theorem dX5_put_14 : decode cX5_put 14 = .ok (.getfield 9, 3) := by decide +kernel
theorem dX5_put_17 : decode cX5_put 17 = .ok (.iload_n 1, 1) := by decide +kernel
theorem dX5_put_18 : decode cX5_put 18 = .ok (.aload_n 0, 1) := by decide +kernel
theorem dX5_put_19 : decode cX5_put 19 = .ok (.lload_n 2, 1) := by decide +kernel
theorem dX5_put_20 : decode cX5_put 20 = .ok (.invokevirtual 32, 3) := by decide +kernel
theorem dX5_put_23 : decode cX5_put 23 = .ok (.lastore, 1) := by decide +kernel
theorem dX5_put_24 : decode cX5_put 24 = .ok (.return_, 1) := by decide +kernel
theorem dX5_take_0 : decode cX5_take 0 = .ok (.aload_n 1, 1) := by decide +kernel
theorem dX5_take_1 : decode cX5_take 1 = .ok (.iload_n 2, 1) := by decide +kernel
theorem dX5_take_2 : decode cX5_take 2 = .ok (.iload 4, 2) := by decide +kernel
theorem dX5_take_4 : decode cX5_take 4 = .ok (.invokevirtual 36, 3) := by decide +kernel
theorem dX5_take_7 : decode cX5_take 7 = .ok (.ifCond .eq 28, 3) := by decide +kernel
theorem dX5_take_10 : decode cX5_take 10 = .ok (.aload_n 0, 1) := by decide +kernel
theorem dX5_take_11 : decode cX5_take 11 = .ok (.iload_n 3, 1) := by decide +kernel
theorem dX5_take_12 : decode cX5_take 12 = .ok (.iload 4, 2) := by decide +kernel
theorem dX5_take_14 : decode cX5_take 14 = .ok (.invokevirtual 36, 3) := by decide +kernel
theorem dX5_take_17 : decode cX5_take 17 = .ok (.ifCond .eq 18, 3) := by decide +kernel
theorem dX5_take_20 : decode cX5_take 20 = .ok (.aload_n 1, 1) := by decide +kernel
theorem dX5_take_21 : decode cX5_take 21 = .ok (.getfield 9, 3) := by decide +kernel
theorem dX5_take_24 : decode cX5_take 24 = .ok (.iload_n 2, 1) := by decide +kernel
theorem dX5_take_25 : decode cX5_take 25 = .ok (.aload_n 0, 1) := by decide +kernel
theorem dX5_take_26 : decode cX5_take 26 = .ok (.getfield 9, 3) := by decide +kernel
theorem dX5_take_29 : decode cX5_take 29 = .ok (.iload_n 3, 1) := by decide +kernel
theorem dX5_take_30 : decode cX5_take 30 = .ok (.iload 4, 2) := by decide +kernel
theorem dX5_take_32 : decode cX5_take 32 = .ok (.invokestatic 40, 3) := by decide +kernel
theorem dX5_take_35 : decode cX5_take 35 = .ok (.return_, 1) := by decide +kernel
theorem dX5_lowestBits_0 : decode cX5_lowestBits 0 = .ok (.aload_n 0, 1) := by decide +kernel
theorem dX5_lowestBits_1 : decode cX5_lowestBits 1 = .ok (.getfield 15, 3) := by decide +kernel
theorem dX5_lowestBits_4 : decode cX5_lowestBits 4 = .ok (.tableswitch 42 0 2 #[28, 33, 38], 28) := by decide +kernel
theorem dX5_lowestBits_32 : decode cX5_lowestBits 32 = .ok (.lload_n 1, 1) := by decide +kernel
theorem dX5_lowestBits_33 : decode cX5_lowestBits 33 = .ok (.l2i, 1) := by decide +kernel
theorem dX5_lowestBits_34 : decode cX5_lowestBits 34 = .ok (.i2b, 1) := by decide +kernel
theorem dX5_lowestBits_35 : decode cX5_lowestBits 35 = .ok (.i2l, 1) := by decide +kernel
theorem dX5_lowestBits_36 : decode cX5_lowestBits 36 = .ok (.lreturn, 1) := by decide +kernel
theorem dX5_lowestBits_37 : decode cX5_lowestBits 37 = .ok (.lload_n 1, 1) := by decide +kernel
theorem dX5_lowestBits_38 : decode cX5_lowestBits 38 = .ok (.l2i, 1) := by decide +kernel
theorem dX5_lowestBits_39 : decode cX5_lowestBits 39 = .ok (.i2s, 1) := by decide +kernel
theorem dX5_lowestBits_40 : decode cX5_lowestBits 40 = .ok (.i2l, 1) := by decide +kernel
theorem dX5_lowestBits_41 : decode cX5_lowestBits 41 = .ok (.lreturn, 1) := by decide +kernel
theorem dX5_lowestBits_42 : decode cX5_lowestBits 42 = .ok (.lload_n 1, 1) := by decide +kernel
theorem dX5_lowestBits_43 : decode cX5_lowestBits 43 = .ok (.l2i, 1) := by decide +kernel
theorem dX5_lowestBits_44 : decode cX5_lowestBits 44 = .ok (.i2l, 1) := by decide +kernel
theorem dX5_lowestBits_45 : decode cX5_lowestBits 45 = .ok (.lreturn, 1) := by decide +kernel
theorem dX5_lowestBits_46 : decode cX5_lowestBits 46 = .ok (.lload_n 1, 1) := by decide +kernel
theorem dX5_lowestBits_47 : decode cX5_lowestBits 47 = .ok (.lreturn, 1) := by decide +kernel
theorem dX6_init_0 : decode cX6_init 0 = .ok (.aload_n 0, 1) := by decide +kernel
theorem dX6_init_1 : decode cX6_init 1 = .ok (.invokespecial 3, 3) := by decide +kernel
theorem dX6_init_4 : decode cX6_init 4 = .ok (.aload_n 0, 1) := by decide +kernel
theorem dX6_init_5 : decode cX6_init 5 = .ok (.sipush 130, 3) := by decide +kernel
theorem dX6_init_8 : decode cX6_init 8 = .ok (.newarray .int, 2) := by decide +kernel
theorem dX6_init_10 : decode cX6_init 10 = .ok (.putfield 9, 3) := by decide +kernel
theorem dX6_init_13 : decode cX6_init 13 = .ok (.return_, 1) := by decide +kernel
theorem dX6_length_0 : decode cX6_length 0 = .ok (.aload_n 0, 1) := by decide +kernel
theorem dX6_length_1 : decode cX6_length 1 = .ok (.getfield 15, 3) := by decide +kernel
theorem dX6_length_4 : decode cX6_length 4 = .ok (.ireturn, 1) := by decide +kernel
theorem dX6_add_0 : decode cX6_add 0 = .ok (.aload_n 0, 1) := by decide +kernel
theorem dX6_add_1 : decode cX6_add 1 = .ok (.getfield 15, 3) := by decide +kernel
theorem dX6_add_4 : decode cX6_add 4 = .ok (.ifCond .lt 15, 3) := by decide +kernel
theorem dX6_add_7 : decode cX6_add 7 = .ok (.aload_n 0, 1) := by decide +kernel
theorem dX6_add_8 : decode cX6_add 8 = .ok (.getfield 15, 3) := by decide +kernel
theorem dX6_add_11 : decode cX6_add 11 = .ok (.aload_n 0, 1) := by decide +kernel
theorem dX6_add_12 : decode cX6_add 12 = .ok (.getfield 9, 3) := by decide +kernel
theorem dX6_add_15 : decode cX6_add 15 = .ok (.arraylength, 1) := by decide +kernel
theorem dX6_add_16 : decode cX6_add 16 = .ok (.if_icmp .lt 5, 3) := by decide +kernel
theorem dX6_add_19 : decode cX6_add 19 = .ok (.iconst 0, 1) := by decide +kernel
theorem dX6_add_20 : decode cX6_add 20 = .ok (.ireturn, 1) := by decide +kernel
theorem dX6_add_21 : decode cX6_add 21 = .ok (.aload_n 0, 1) := by decide +kernel
theorem dX6_add_22 : decode cX6_add 22 = .ok (.getfield 9, 3) := by decide +kernel
theorem dX6_add_25 : decode cX6_add 25 = .ok (.aload_n 0, 1) := by decide +kernel
theorem dX6_add_26 : decode cX6_add 26 = .ok (.getfield 15, 3) := by decide +kernel
theorem dX6_add_29 : decode cX6_add 29 = .ok (.iload_n 1, 1) := by decide +kernel
theorem dX6_add_30 : decode cX6_add 30 = .ok (.iastore, 1) := by decide +kernel
theorem dX6_add_31 : decode cX6_add 31 = .ok (.aload_n 0, 1) := by decide +kernel
theorem dX6_add_32 : decode cX6_add 32 = .ok (.dup, 1) := by decide +kernel
theorem dX6_add_33 : decode cX6_add 33 = .ok (.getfield 15, 3) := by decide +kernel
theorem dX6_add_36 : decode cX6_add 36 = .ok (.iconst 1, 1) := by decide +kernel
theorem dX6_add_37 : decode cX6_add 37 = .ok (.iadd, 1) := by decide +kernel
theorem dX6_add_38 : decode cX6_add 38 = .ok (.putfield 15, 3) := by decide +kernel
theorem dX6_add_41 : decode cX6_add 41 = .ok (.iconst 1, 1) := by decide +kernel
theorem dX6_add_42 : decode cX6_add 42 = .ok (.ireturn, 1) := by decide +kernel
theorem dX6_clear_0 : decode cX6_clear 0 = .ok (.aload_n 0, 1) := by decide +kernel
theorem dX6_clear_1 : decode cX6_clear 1 = .ok (.iconst 0, 1) := by decide +kernel
theorem dX6_clear_2 : decode cX6_clear 2 = .ok (.putfield 15, 3) := by decide +kernel
theorem dX6_clear_5 : decode cX6_clear 5 = .ok (.return_, 1) := by decide +kernel
theorem dX6_readInto_0 : decode cX6_readInto 0 = .ok (.aload_n 0, 1) := by decide +kernel
theorem dX6_readInto_1 : decode cX6_readInto 1 = .ok (.iconst 0, 1) := by decide +kernel
theorem dX6_readInto_2 : decode cX6_readInto 2 = .ok (.putfield 19, 3) := by decide +kernel
theorem dX6_readInto_5 : decode cX6_readInto 5 = .ok (.aload_n 1, 1) := by decide +kernel
theorem dX6_readInto_6 : decode cX6_readInto 6 = .ok (.invokevirtual 22, 3) := by decide +kernel
theorem dX6_readInto_9 : decode cX6_readInto 9 = .ok (.aload_n 0, 1) := by decide +kernel
theorem dX6_readInto_10 : decode cX6_readInto 10 = .ok (.bipush 114, 2) := by decide +kernel
theorem dX6_readInto_12 : decode cX6_readInto 12 = .ok (.invokevirtual 27, 3) := by decide +kernel
theorem dX6_readInto_15 : decode cX6_readInto 15 = .ok (.ifCond .eq 60, 3) := by decide +kernel
theorem dX6_readInto_18 : decode cX6_readInto 18 = .ok (.aload_n 0, 1) := by decide +kernel
theorem dX6_readInto_19 : decode cX6_readInto 19 = .ok (.aload_n 1, 1) := by decide +kernel
theorem dX6_readInto_20 : decode cX6_readInto 20 = .ok (.invokevirtual 31, 3) := by decide +kernel
theorem dX6_readInto_23 : decode cX6_readInto 23 = .ok (.ifCond .eq 52, 3) := by decide +kernel
theorem dX6_readInto_26 : decode cX6_readInto 26 = .ok (.aload_n 0, 1) := by decide +kernel
theorem dX6_readInto_27 : decode cX6_readInto 27 = .ok (.bipush 59, 2) := by decide +kernel
theorem dX6_readInto_29 : decode cX6_readInto 29 = .ok (.invokevirtual 27, 3) := by decide +kernel
theorem dX6_readInto_32 : decode cX6_readInto 32 = .ok (.ifCond .eq 43, 3) := by decide +kernel
theorem dX6_readInto_35 : decode cX6_readInto 35 = .ok (.aload_n 0, 1) := by decide +kernel
theorem dX6_readInto_36 : decode cX6_readInto 36 = .ok (.aload_n 1, 1) := by decide +kernel
theorem dX6_readInto_37 : decode cX6_readInto 37 = .ok (.invokevirtual 35, 3) := by decide +kernel
theorem dX6_readInto_40 : decode cX6_readInto 40 = .ok (.ifCond .eq 35, 3) := by decide +kernel
theorem dX6_readInto_43 : decode cX6_readInto 43 = .ok (.aload_n 0, 1) := by decide +kernel
theorem dX6_readInto_44 : decode cX6_readInto 44 = .ok (.bipush 59, 2) := by decide +kernel
theorem dX6_readInto_46 : decode cX6_readInto 46 = .ok (.invokevirtual 27, 3) := by decide +kernel
theorem dX6_readInto_49 : decode cX6_readInto 49 = .ok (.ifCond .eq 26, 3) := by decide +kernel
theorem dX6_readInto_52 : decode cX6_readInto 52 = .ok (.aload_n 0, 1) := by decide +kernel
theorem dX6_readInto_53 : decode cX6_readInto 53 = .ok (.aload_n 1, 1) := by decide +kernel
theorem dX6_readInto_54 : decode cX6_readInto 54 = .ok (.invokevirtual 38, 3) := by decide +kernel
theorem dX6_readInto_57 : decode cX6_readInto 57 = .ok (.ifCond .eq 18, 3) := by decide +kernel
theorem dX6_readInto_60 : decode cX6_readInto 60 = .ok (.aload_n 0, 1) := by decide +kernel
theorem dX6_readInto_61 : decode cX6_readInto 61 = .ok (.getfield 19, 3) := by decide +kernel
theorem dX6_readInto_64 : decode cX6_readInto 64 = .ok (.aload_n 0, 1) := by decide +kernel
theorem dX6_readInto_65 : decode cX6_readInto 65 = .ok (.getfield 15, 3) := by decide +kernel
theorem dX6_readInto_68 : decode cX6_readInto 68 = .ok (.if_icmp .ne 7, 3) := by decide +kernel
theorem dX6_readInto_71 : decode cX6_readInto 71 = .ok (.iconst 1, 1) := by decide +kernel
theorem dX6_readInto_72 : decode cX6_readInto 72 = .ok (.goto 4, 3) := by decide +kernel
theorem dX6_readInto_75 : decode cX6_readInto 75 = .ok (.iconst 0, 1) := by decide +kernel
theorem dX6_readInto_76 : decode cX6_readInto 76 = .ok (.istore_n 2, 1) := by decide +kernel
theorem dX6_readInto_77 : decode cX6_readInto 77 = .ok (.iload_n 2, 1) := by decide +kernel
theorem dX6_readInto_78 : decode cX6_readInto 78 = .ok (.ifCond .eq 7, 3) := by decide +kernel
theorem dX6_readInto_81 : decode cX6_readInto 81 = .ok (.iconst (-1), 1) := by decide +kernel
theorem dX6_readInto_82 : decode cX6_readInto 82 = .ok (.goto 7, 3) := by decide +kernel
theorem dX6_readInto_85 : decode cX6_readInto 85 = .ok (.aload_n 0, 1) := by decide +kernel
theorem dX6_readInto_86 : decode cX6_readInto 86 = .ok (.getfield 19, 3) := by decide +kernel
theorem dX6_readInto_89 : decode cX6_readInto 89 = .ok (.ireturn, 1) := by decide +kernel
theorem dX6_peek_0 : decode cX6_peek 0 = .ok (.aload_n 0, 1) := by decide +kernel
theorem dX6_peek_1 : decode cX6_peek 1 = .ok (.getfield 19, 3) := by decide +kernel
theorem dX6_peek_4 : decode cX6_peek 4 = .ok (.ifCond .lt 38, 3) := by decide +kernel
theorem dX6_peek_7 : decode cX6_peek 7 = .ok (.aload_n 0, 1) := by decide +kernel
theorem dX6_peek_8 : decode cX6_peek 8 = .ok (.getfield 19, 3) := by decide +kernel
theorem dX6_peek_11 : decode cX6_peek 11 = .ok (.aload_n 0, 1) := by decide +kernel
theorem dX6_peek_12 : decode cX6_peek 12 = .ok (.getfield 15, 3) := by decide +kernel
theorem dX6_peek_15 : decode cX6_peek 15 = .ok (.if_icmp .ge 27, 3) := by decide +kernel
theorem dX6_peek_18 : decode cX6_peek 18 = .ok (.aload_n 0, 1) := by decide +kernel
theorem dX6_peek_19 : decode cX6_peek 19 = .ok (.getfield 19, 3) := by decide +kernel
theorem dX6_peek_22 : decode cX6_peek 22 = .ok (.aload_n 0, 1) := by decide +kernel
theorem dX6_peek_23 : decode cX6_peek 23 = .ok (.getfield 9, 3) := by decide +kernel
theorem dX6_peek_26 : decode cX6_peek 26 = .ok (.arraylength, 1) := by decide +kernel
theorem dX6_peek_27 : decode cX6_peek 27 = .ok (.if_icmp .ge 15, 3) := by decide +kernel
theorem dX6_peek_30 : decode cX6_peek 30 = .ok (.aload_n 0, 1) := by decide +kernel
theorem dX6_peek_31 : decode cX6_peek 31 = .ok (.getfield 9, 3) := by decide +kernel
theorem dX6_peek_34 : decode cX6_peek 34 = .ok (.aload_n 0, 1) := by decide +kernel
theorem dX6_peek_35 : decode cX6_peek 35 = .ok (.getfield 19, 3) := by decide +kernel
theorem dX6_peek_38 : decode cX6_peek 38 = .ok (.iaload, 1) := by decide +kernel
theorem dX6_peek_39 : decode cX6_peek 39 = .ok (.goto 4, 3) := by decide +kernel
theorem dX6_peek_42 : decode cX6_peek 42 = .ok (.iconst (-1), 1) := by decide +kernel
theorem dX6_peek_43 : decode cX6_peek 43 = .ok (.ireturn, 1) := by decide +kernel
theorem dX6_takeSign_0 : decode cX6_takeSign 0 = .ok (.aload_n 0, 1) := by decide +kernel
theorem dX6_takeSign_1 : decode cX6_takeSign 1 = .ok (.invokevirtual 41, 3) := by decide +kernel
theorem dX6_takeSign_4 : decode cX6_takeSign 4 = .ok (.iload_n 1, 1) := by decide +kernel
theorem dX6_takeSign_5 : decode cX6_takeSign 5 = .ok (.if_icmp .eq 5, 3) := by decide +kernel
theorem dX6_takeSign_8 : decode cX6_takeSign 8 = .ok (.iconst 0, 1) := by decide +kernel
theorem dX6_takeSign_9 : decode cX6_takeSign 9 = .ok (.ireturn, 1) := by decide +kernel
theorem dX6_takeSign_10 : decode cX6_takeSign 10 = .ok (.aload_n 0, 1) := by decide +kernel
theorem dX6_takeSign_11 : decode cX6_takeSign 11 = .ok (.dup, 1) := by decide +kernel
theorem dX6_takeSign_12 : decode cX6_takeSign 12 = .ok (.getfield 19, 3) := by decide +kernel
theorem dX6_takeSign_15 : decode cX6_takeSign 15 = .ok (.iconst 1, 1) := by decide +kernel
theorem dX6_takeSign_16 : decode cX6_takeSign 16 = .ok (.iadd, 1) := by decide +kernel
theorem dX6_takeSign_17 : decode cX6_takeSign 17 = .ok (.putfield 19, 3) := by decide +kernel
theorem dX6_takeSign_20 : decode cX6_takeSign 20 = .ok (.iconst 1, 1) := by decide +kernel
theorem dX6_takeSign_21 : decode cX6_takeSign 21 = .ok (.ireturn, 1) := by decide +kernel
theorem dX6_takeFigure_0 : decode cX6_takeFigure 0 = .ok (.aload_n 0, 1) := by decide +kernel
theorem dX6_takeFigure_1 : decode cX6_takeFigure 1 = .ok (.invokevirtual 41, 3) := by decide +kernel
theorem dX6_takeFigure_4 : decode cX6_takeFigure 4 = .ok (.bipush 48, 2) := by decide +kernel
theorem dX6_takeFigure_6 : decode cX6_takeFigure 6 = .ok (.isub, 1) := by decide +kernel
theorem dX6_takeFigure_7 : decode cX6_takeFigure 7 = .ok (.istore_n 3, 1) := by decide +kernel
theorem dX6_takeFigure_8 : decode cX6_takeFigure 8 = .ok (.iload_n 3, 1) := by decide +kernel
theorem dX6_takeFigure_9 : decode cX6_takeFigure 9 = .ok (.iload_n 1, 1) := by decide +kernel
theorem dX6_takeFigure_10 : decode cX6_takeFigure 10 = .ok (.if_icmp .lt 8, 3) := by decide +kernel
theorem dX6_takeFigure_13 : decode cX6_takeFigure 13 = .ok (.iload_n 3, 1) := by decide +kernel
theorem dX6_takeFigure_14 : decode cX6_takeFigure 14 = .ok (.iload_n 2, 1) := by decide +kernel
theorem dX6_takeFigure_15 : decode cX6_takeFigure 15 = .ok (.if_icmp .le 5, 3) := by decide +kernel
theorem dX6_takeFigure_18 : decode cX6_takeFigure 18 = .ok (.iconst (-1), 1) := by decide +kernel
theorem dX6_takeFigure_19 : decode cX6_takeFigure 19 = .ok (.ireturn, 1) := by decide +kernel
theorem dX6_takeFigure_20 : decode cX6_takeFigure 20 = .ok (.aload_n 0, 1) := by decide +kernel
theorem dX6_takeFigure_21 : decode cX6_takeFigure 21 = .ok (.dup, 1) := by decide +kernel
theorem dX6_takeFigure_22 : decode cX6_takeFigure 22 = .ok (.getfield 19, 3) := by decide +kernel
theorem dX6_takeFigure_25 : decode cX6_takeFigure 25 = .ok (.iconst 1, 1) := by decide +kernel
theorem dX6_takeFigure_26 : decode cX6_takeFigure 26 = .ok (.iadd, 1) := by decide +kernel
theorem dX6_takeFigure_27 : decode cX6_takeFigure 27 = .ok (.putfield 19, 3) := by decide +kernel
theorem dX6_takeFigure_30 : decode cX6_takeFigure 30 = .ok (.iload_n 3, 1) := by decide +kernel
theorem dX6_takeFigure_31 : decode cX6_takeFigure 31 = .ok (.ireturn, 1) := by decide +kernel
theorem dX6_takeOther_0 : decode cX6_takeOther 0 = .ok (.aload_n 0, 1) := by decide +kernel
theorem dX6_takeOther_1 : decode cX6_takeOther 1 = .ok (.invokevirtual 41, 3) := by decide +kernel
theorem dX6_takeOther_4 : decode cX6_takeOther 4 = .ok (.bipush 48, 2) := by decide +kernel
theorem dX6_takeOther_6 : decode cX6_takeOther 6 = .ok (.isub, 1) := by decide +kernel
theorem dX6_takeOther_7 : decode cX6_takeOther 7 = .ok (.iload_n 1, 1) := by decide +kernel
theorem dX6_takeOther_8 : decode cX6_takeOther 8 = .ok (.if_icmp .ne 7, 3) := by decide +kernel
theorem dX6_takeOther_11 : decode cX6_takeOther 11 = .ok (.iconst (-1), 1) := by decide +kernel
theorem dX6_takeOther_12 : decode cX6_takeOther 12 = .ok (.goto 11, 3) := by decide +kernel
theorem dX6_takeOther_15 : decode cX6_takeOther 15 = .ok (.aload_n 0, 1) := by decide +kernel
theorem dX6_takeOther_16 : decode cX6_takeOther 16 = .ok (.iconst 0, 1) := by decide +kernel
theorem dX6_takeOther_17 : decode cX6_takeOther 17 = .ok (.iload_n 2, 1) := by decide +kernel
theorem dX6_takeOther_18 : decode cX6_takeOther 18 = .ok (.iconst 1, 1) := by decide +kernel
theorem dX6_takeOther_19 : decode cX6_takeOther 19 = .ok (.isub, 1) := by decide +kernel
theorem dX6_takeOther_20 : decode cX6_takeOther 20 = .ok (.invokevirtual 45, 3) := by decide +kernel
theorem dX6_takeOther_23 : decode cX6_takeOther 23 = .ok (.ireturn, 1) := by decide +kernel
theorem dX6_takePeople_0 : decode cX6_takePeople 0 = .ok (.aload_n 0, 1) := by decide +kernel
theorem dX6_takePeople_1 : decode cX6_takePeople 1 = .ok (.iconst 2, 1) := by decide +kernel
theorem dX6_takePeople_2 : decode cX6_takePeople 2 = .ok (.bipush 6, 2) := by decide +kernel
theorem dX6_takePeople_4 : decode cX6_takePeople 4 = .ok (.invokevirtual 45, 3) := by decide +kernel
theorem dX6_takePeople_7 : decode cX6_takePeople 7 = .ok (.istore_n 2, 1) := by decide +kernel
theorem dX6_takePeople_8 : decode cX6_takePeople 8 = .ok (.iload_n 2, 1) := by decide +kernel
theorem dX6_takePeople_9 : decode cX6_takePeople 9 = .ok (.iconst (-1), 1) := by decide +kernel
theorem dX6_takePeople_10 : decode cX6_takePeople 10 = .ok (.if_icmp .ne 5, 3) := by decide +kernel
theorem dX6_takePeople_13 : decode cX6_takePeople 13 = .ok (.iconst 0, 1) := by decide +kernel
theorem dX6_takePeople_14 : decode cX6_takePeople 14 = .ok (.ireturn, 1) := by decide +kernel
theorem dX6_takePeople_15 : decode cX6_takePeople 15 = .ok (.iconst 0, 1) := by decide +kernel
theorem dX6_takePeople_16 : decode cX6_takePeople 16 = .ok (.istore_n 3, 1) := by decide +kernel
theorem dX6_takePeople_17 : decode cX6_takePeople 17 = .ok (.iload_n 3, 1) := by decide +kernel
theorem dX6_takePeople_18 : decode cX6_takePeople 18 = .ok (.iload_n 2, 1) := by decide +kernel
theorem dX6_takePeople_19 : decode cX6_takePeople 19 = .ok (.if_icmp .ge 34, 3) := by decide +kernel
theorem dX6_takePeople_22 : decode cX6_takePeople 22 = .ok (.iload_n 3, 1) := by decide +kernel
theorem dX6_takePeople_23 : decode cX6_takePeople 23 = .ok (.ifCond .le 12, 3) := by decide +kernel
theorem dX6_takePeople_26 : decode cX6_takePeople 26 = .ok (.aload_n 0, 1) := by decide +kernel
theorem dX6_takePeople_27 : decode cX6_takePeople 27 = .ok (.bipush 44, 2) := by decide +kernel
theorem dX6_takePeople_29 : decode cX6_takePeople 29 = .ok (.invokevirtual 27, 3) := by decide +kernel
theorem dX6_takePeople_32 : decode cX6_takePeople 32 = .ok (.ifCond .eq 13, 3) := by decide +kernel
theorem dX6_takePeople_35 : decode cX6_takePeople 35 = .ok (.aload_n 0, 1) := by decide +kernel
theorem dX6_takePeople_36 : decode cX6_takePeople 36 = .ok (.aload_n 1, 1) := by decide +kernel
theorem dX6_takePeople_37 : decode cX6_takePeople 37 = .ok (.iload_n 3, 1) := by decide +kernel
theorem dX6_takePeople_38 : decode cX6_takePeople 38 = .ok (.iload_n 2, 1) := by decide +kernel
theorem dX6_takePeople_39 : decode cX6_takePeople 39 = .ok (.invokevirtual 49, 3) := by decide +kernel
theorem dX6_takePeople_42 : decode cX6_takePeople 42 = .ok (.ifCond .ne 5, 3) := by decide +kernel
theorem dX6_takePeople_45 : decode cX6_takePeople 45 = .ok (.iconst 0, 1) := by decide +kernel
theorem dX6_takePeople_46 : decode cX6_takePeople 46 = .ok (.ireturn, 1) := by decide +kernel
theorem dX6_takePeople_47 : decode cX6_takePeople 47 = .ok (.iinc 3 1, 3) := by decide +kernel
theorem dX6_takePeople_50 : decode cX6_takePeople 50 = .ok (.goto (-33), 3) := by decide +kernel
theorem dX6_takePeople_53 : decode cX6_takePeople 53 = .ok (.iconst 1, 1) := by decide +kernel
theorem dX6_takePeople_54 : decode cX6_takePeople 54 = .ok (.ireturn, 1) := by decide +kernel
theorem dX6_takePerson_0 : decode cX6_takePerson 0 = .ok (.aload_n 0, 1) := by decide +kernel
theorem dX6_takePerson_1 : decode cX6_takePerson 1 = .ok (.invokevirtual 53, 3) := by decide +kernel
theorem dX6_takePerson_4 : decode cX6_takePerson 4 = .ok (.istore 4, 2) := by decide +kernel
theorem dX6_takePerson_6 : decode cX6_takePerson 6 = .ok (.iload 4, 2) := by decide +kernel
theorem dX6_takePerson_8 : decode cX6_takePerson 8 = .ok (.iconst (-1), 1) := by decide +kernel
theorem dX6_takePerson_9 : decode cX6_takePerson 9 = .ok (.if_icmp .ne 5, 3) := by decide +kernel
theorem dX6_takePerson_12 : decode cX6_takePerson 12 = .ok (.iconst 0, 1) := by decide +kernel
theorem dX6_takePerson_13 : decode cX6_takePerson 13 = .ok (.ireturn, 1) := by decide +kernel
theorem dX6_takePerson_14 : decode cX6_takePerson 14 = .ok (.aload_n 0, 1) := by decide +kernel
theorem dX6_takePerson_15 : decode cX6_takePerson 15 = .ok (.iconst 0, 1) := by decide +kernel
theorem dX6_takePerson_16 : decode cX6_takePerson 16 = .ok (.bipush 9, 2) := by decide +kernel
theorem dX6_takePerson_18 : decode cX6_takePerson 18 = .ok (.invokevirtual 45, 3) := by decide +kernel
theorem dX6_takePerson_21 : decode cX6_takePerson 21 = .ok (.istore 5, 2) := by decide +kernel
theorem dX6_takePerson_23 : decode cX6_takePerson 23 = .ok (.iload 5, 2) := by decide +kernel
theorem dX6_takePerson_25 : decode cX6_takePerson 25 = .ok (.iconst (-1), 1) := by decide +kernel
theorem dX6_takePerson_26 : decode cX6_takePerson 26 = .ok (.if_icmp .ne 5, 3) := by decide +kernel
theorem dX6_takePerson_29 : decode cX6_takePerson 29 = .ok (.iconst 0, 1) := by decide +kernel
theorem dX6_takePerson_30 : decode cX6_takePerson 30 = .ok (.ireturn, 1) := by decide +kernel
theorem dX6_takePerson_31 : decode cX6_takePerson 31 = .ok (.aload_n 0, 1) := by decide +kernel
theorem dX6_takePerson_32 : decode cX6_takePerson 32 = .ok (.iconst 0, 1) := by decide +kernel
theorem dX6_takePerson_33 : decode cX6_takePerson 33 = .ok (.bipush 9, 2) := by decide +kernel
theorem dX6_takePerson_35 : decode cX6_takePerson 35 = .ok (.invokevirtual 45, 3) := by decide +kernel
theorem dX6_takePerson_38 : decode cX6_takePerson 38 = .ok (.istore 6, 2) := by decide +kernel
theorem dX6_takePerson_40 : decode cX6_takePerson 40 = .ok (.iload 6, 2) := by decide +kernel
theorem dX6_takePerson_42 : decode cX6_takePerson 42 = .ok (.iconst (-1), 1) := by decide +kernel
theorem dX6_takePerson_43 : decode cX6_takePerson 43 = .ok (.if_icmp .ne 5, 3) := by decide +kernel
theorem dX6_takePerson_46 : decode cX6_takePerson 46 = .ok (.iconst 0, 1) := by decide +kernel
theorem dX6_takePerson_47 : decode cX6_takePerson 47 = .ok (.ireturn, 1) := by decide +kernel
theorem dX6_takePerson_48 : decode cX6_takePerson 48 = .ok (.aload_n 0, 1) := by decide +kernel
theorem dX6_takePerson_49 : decode cX6_takePerson 49 = .ok (.iconst 0, 1) := by decide +kernel
theorem dX6_takePerson_50 : decode cX6_takePerson 50 = .ok (.bipush 9, 2) := by decide +kernel
theorem dX6_takePerson_52 : decode cX6_takePerson 52 = .ok (.invokevirtual 45, 3) := by decide +kernel
theorem dX6_takePerson_55 : decode cX6_takePerson 55 = .ok (.istore 7, 2) := by decide +kernel
theorem dX6_takePerson_57 : decode cX6_takePerson 57 = .ok (.iload 7, 2) := by decide +kernel
theorem dX6_takePerson_59 : decode cX6_takePerson 59 = .ok (.iconst (-1), 1) := by decide +kernel
theorem dX6_takePerson_60 : decode cX6_takePerson 60 = .ok (.if_icmp .ne 5, 3) := by decide +kernel
theorem dX6_takePerson_63 : decode cX6_takePerson 63 = .ok (.iconst 0, 1) := by decide +kernel
theorem dX6_takePerson_64 : decode cX6_takePerson 64 = .ok (.ireturn, 1) := by decide +kernel
theorem dX6_takePerson_65 : decode cX6_takePerson 65 = .ok (.aload_n 0, 1) := by decide +kernel
theorem dX6_takePerson_66 : decode cX6_takePerson 66 = .ok (.bipush 45, 2) := by decide +kernel
theorem dX6_takePerson_68 : decode cX6_takePerson 68 = .ok (.invokevirtual 27, 3) := by decide +kernel
theorem dX6_takePerson_71 : decode cX6_takePerson 71 = .ok (.ifCond .eq 8, 3) := by decide +kernel
theorem dX6_takePerson_74 : decode cX6_takePerson 74 = .ok (.bipush (-4), 2) := by decide +kernel
theorem dX6_takePerson_76 : decode cX6_takePerson 76 = .ok (.goto 9, 3) := by decide +kernel
theorem dX6_takePerson_79 : decode cX6_takePerson 79 = .ok (.aload_n 0, 1) := by decide +kernel
theorem dX6_takePerson_80 : decode cX6_takePerson 80 = .ok (.iload_n 2, 1) := by decide +kernel
theorem dX6_takePerson_81 : decode cX6_takePerson 81 = .ok (.iload_n 3, 1) := by decide +kernel
theorem dX6_takePerson_82 : decode cX6_takePerson 82 = .ok (.invokevirtual 56, 3) := by decide +kernel
theorem dX6_takePerson_85 : decode cX6_takePerson 85 = .ok (.istore 8, 2) := by decide +kernel
theorem dX6_takePerson_87 : decode cX6_takePerson 87 = .ok (.iload 8, 2) := by decide +kernel
theorem dX6_takePerson_89 : decode cX6_takePerson 89 = .ok (.iconst (-1), 1) := by decide +kernel
theorem dX6_takePerson_90 : decode cX6_takePerson 90 = .ok (.if_icmp .ne 5, 3) := by decide +kernel
theorem dX6_takePerson_93 : decode cX6_takePerson 93 = .ok (.iconst 0, 1) := by decide +kernel
theorem dX6_takePerson_94 : decode cX6_takePerson 94 = .ok (.ireturn, 1) := by decide +kernel
theorem dX6_takePerson_95 : decode cX6_takePerson 95 = .ok (.aload_n 1, 1) := by decide +kernel
theorem dX6_takePerson_96 : decode cX6_takePerson 96 = .ok (.iload 4, 2) := by decide +kernel
theorem dX6_takePerson_98 : decode cX6_takePerson 98 = .ok (.iload 5, 2) := by decide +kernel
theorem dX6_takePerson_100 : decode cX6_takePerson 100 = .ok (.iload 6, 2) := by decide +kernel
theorem dX6_takePerson_102 : decode cX6_takePerson 102 = .ok (.iload 7, 2) := by decide +kernel
theorem dX6_takePerson_104 : decode cX6_takePerson 104 = .ok (.iload 8, 2) := by decide +kernel
theorem dX6_takePerson_106 : decode cX6_takePerson 106 = .ok (.invokevirtual 59, 3) := by decide +kernel
theorem dX6_takePerson_109 : decode cX6_takePerson 109 = .ok (.iconst 1, 1) := by decide +kernel
theorem dX6_takePerson_110 : decode cX6_takePerson 110 = .ok (.ireturn, 1) := by decide +kernel
theorem dX6_takeKind_0 : decode cX6_takeKind 0 = .ok (.aload_n 0, 1) := by decide +kernel
theorem dX6_takeKind_1 : decode cX6_takeKind 1 = .ok (.invokevirtual 41, 3) := by decide +kernel
theorem dX6_takeKind_4 : decode cX6_takeKind 4 = .ok (.invokestatic 63, 3) := by decide +kernel
theorem dX6_takeKind_7 : decode cX6_takeKind 7 = .ok (.istore_n 1, 1) := by decide +kernel
theorem dX6_takeKind_8 : decode cX6_takeKind 8 = .ok (.iload_n 1, 1) := by decide +kernel
theorem dX6_takeKind_9 : decode cX6_takeKind 9 = .ok (.iconst (-1), 1) := by decide +kernel
theorem dX6_takeKind_10 : decode cX6_takeKind 10 = .ok (.if_icmp .eq 13, 3) := by decide +kernel
theorem dX6_takeKind_13 : decode cX6_takeKind 13 = .ok (.aload_n 0, 1) := by decide +kernel
theorem dX6_takeKind_14 : decode cX6_takeKind 14 = .ok (.dup, 1) := by decide +kernel
theorem dX6_takeKind_15 : decode cX6_takeKind 15 = .ok (.getfield 19, 3) := by decide +kernel
theorem dX6_takeKind_18 : decode cX6_takeKind 18 = .ok (.iconst 1, 1) := by decide +kernel
theorem dX6_takeKind_19 : decode cX6_takeKind 19 = .ok (.iadd, 1) := by decide +kernel
theorem dX6_takeKind_20 : decode cX6_takeKind 20 = .ok (.putfield 19, 3) := by decide +kernel
theorem dX6_takeKind_23 : decode cX6_takeKind 23 = .ok (.iload_n 1, 1) := by decide +kernel
theorem dX6_takeKind_24 : decode cX6_takeKind 24 = .ok (.ireturn, 1) := by decide +kernel
theorem dX6_kindOf_0 : decode cX6_kindOf 0 = .ok (.iload_n 0, 1) := by decide +kernel
theorem dX6_kindOf_1 : decode cX6_kindOf 1 = .ok (.lookupswitch 61 #[(97, 53), (98, 57), (99, 51), (102, 55), (114, 59)], 51) := by decide +kernel
theorem dX6_kindOf_52 : decode cX6_kindOf 52 = .ok (.iconst 1, 1) := by decide +kernel
theorem dX6_kindOf_53 : decode cX6_kindOf 53 = .ok (.ireturn, 1) := by decide +kernel
theorem dX6_kindOf_54 : decode cX6_kindOf 54 = .ok (.iconst 2, 1) := by decide +kernel
theorem dX6_kindOf_55 : decode cX6_kindOf 55 = .ok (.ireturn, 1) := by decide +kernel
theorem dX6_kindOf_56 : decode cX6_kindOf 56 = .ok (.iconst 3, 1) := by decide +kernel
theorem dX6_kindOf_57 : decode cX6_kindOf 57 = .ok (.ireturn, 1) := by decide +kernel
theorem dX6_kindOf_58 : decode cX6_kindOf 58 = .ok (.iconst 4, 1) := by decide +kernel
theorem dX6_kindOf_59 : decode cX6_kindOf 59 = .ok (.ireturn, 1) := by decide +kernel
theorem dX6_kindOf_60 : decode cX6_kindOf 60 = .ok (.iconst 5, 1) := by decide +kernel
theorem dX6_kindOf_61 : decode cX6_kindOf 61 = .ok (.ireturn, 1) := by decide +kernel
theorem dX6_kindOf_62 : decode cX6_kindOf 62 = .ok (.iconst (-1), 1) := by decide +kernel
theorem dX6_kindOf_63 : decode cX6_kindOf 63 = .ok (.ireturn, 1) := by decide +kernel
theorem dX6_takeWrongs_0 : decode cX6_takeWrongs 0 = .ok (.aload_n 0, 1) := by decide +kernel
theorem dX6_takeWrongs_1 : decode cX6_takeWrongs 1 = .ok (.aload_n 1, 1) := by decide +kernel
theorem dX6_takeWrongs_2 : decode cX6_takeWrongs 2 = .ok (.invokevirtual 67, 3) := by decide +kernel
theorem dX6_takeWrongs_5 : decode cX6_takeWrongs 5 = .ok (.istore_n 2, 1) := by decide +kernel
theorem dX6_takeWrongs_6 : decode cX6_takeWrongs 6 = .ok (.iconst 1, 1) := by decide +kernel
theorem dX6_takeWrongs_7 : decode cX6_takeWrongs 7 = .ok (.istore_n 3, 1) := by decide +kernel
theorem dX6_takeWrongs_8 : decode cX6_takeWrongs 8 = .ok (.iload_n 2, 1) := by decide +kernel
theorem dX6_takeWrongs_9 : decode cX6_takeWrongs 9 = .ok (.ifCond .eq 30, 3) := by decide +kernel
theorem dX6_takeWrongs_12 : decode cX6_takeWrongs 12 = .ok (.iload_n 3, 1) := by decide +kernel
theorem dX6_takeWrongs_13 : decode cX6_takeWrongs 13 = .ok (.bipush 8, 2) := by decide +kernel
theorem dX6_takeWrongs_15 : decode cX6_takeWrongs 15 = .ok (.if_icmp .ge 24, 3) := by decide +kernel
theorem dX6_takeWrongs_18 : decode cX6_takeWrongs 18 = .ok (.aload_n 0, 1) := by decide +kernel
theorem dX6_takeWrongs_19 : decode cX6_takeWrongs 19 = .ok (.bipush 44, 2) := by decide +kernel
theorem dX6_takeWrongs_21 : decode cX6_takeWrongs 21 = .ok (.invokevirtual 27, 3) := by decide +kernel
theorem dX6_takeWrongs_24 : decode cX6_takeWrongs 24 = .ok (.ifCond .eq 15, 3) := by decide +kernel
theorem dX6_takeWrongs_27 : decode cX6_takeWrongs 27 = .ok (.aload_n 0, 1) := by decide +kernel
theorem dX6_takeWrongs_28 : decode cX6_takeWrongs 28 = .ok (.aload_n 1, 1) := by decide +kernel
theorem dX6_takeWrongs_29 : decode cX6_takeWrongs 29 = .ok (.invokevirtual 67, 3) := by decide +kernel
theorem dX6_takeWrongs_32 : decode cX6_takeWrongs 32 = .ok (.istore_n 2, 1) := by decide +kernel
theorem dX6_takeWrongs_33 : decode cX6_takeWrongs 33 = .ok (.iinc 3 1, 3) := by decide +kernel
theorem dX6_takeWrongs_36 : decode cX6_takeWrongs 36 = .ok (.goto (-28), 3) := by decide +kernel
theorem dX6_takeWrongs_39 : decode cX6_takeWrongs 39 = .ok (.iload_n 2, 1) := by decide +kernel
theorem dX6_takeWrongs_40 : decode cX6_takeWrongs 40 = .ok (.ireturn, 1) := by decide +kernel
theorem dX6_takeWrong_0 : decode cX6_takeWrong 0 = .ok (.aload_n 0, 1) := by decide +kernel
theorem dX6_takeWrong_1 : decode cX6_takeWrong 1 = .ok (.iconst 0, 1) := by decide +kernel
theorem dX6_takeWrong_2 : decode cX6_takeWrong 2 = .ok (.aload_n 1, 1) := by decide +kernel
theorem dX6_takeWrong_3 : decode cX6_takeWrong 3 = .ok (.invokevirtual 70, 3) := by decide +kernel
theorem dX6_takeWrong_6 : decode cX6_takeWrong 6 = .ok (.iconst 1, 1) := by decide +kernel
theorem dX6_takeWrong_7 : decode cX6_takeWrong 7 = .ok (.isub, 1) := by decide +kernel
theorem dX6_takeWrong_8 : decode cX6_takeWrong 8 = .ok (.invokevirtual 45, 3) := by decide +kernel
theorem dX6_takeWrong_11 : decode cX6_takeWrong 11 = .ok (.istore_n 2, 1) := by decide +kernel
theorem dX6_takeWrong_12 : decode cX6_takeWrong 12 = .ok (.iload_n 2, 1) := by decide +kernel
theorem dX6_takeWrong_13 : decode cX6_takeWrong 13 = .ok (.iconst (-1), 1) := by decide +kernel
theorem dX6_takeWrong_14 : decode cX6_takeWrong 14 = .ok (.if_icmp .ne 5, 3) := by decide +kernel
theorem dX6_takeWrong_17 : decode cX6_takeWrong 17 = .ok (.iconst 0, 1) := by decide +kernel
theorem dX6_takeWrong_18 : decode cX6_takeWrong 18 = .ok (.ireturn, 1) := by decide +kernel
theorem dX6_takeWrong_19 : decode cX6_takeWrong 19 = .ok (.aload_n 0, 1) := by decide +kernel
theorem dX6_takeWrong_20 : decode cX6_takeWrong 20 = .ok (.iload_n 2, 1) := by decide +kernel
theorem dX6_takeWrong_21 : decode cX6_takeWrong 21 = .ok (.aload_n 1, 1) := by decide +kernel
theorem dX6_takeWrong_22 : decode cX6_takeWrong 22 = .ok (.invokevirtual 70, 3) := by decide +kernel
theorem dX6_takeWrong_25 : decode cX6_takeWrong 25 = .ok (.invokevirtual 56, 3) := by decide +kernel
theorem dX6_takeWrong_28 : decode cX6_takeWrong 28 = .ok (.istore_n 3, 1) := by decide +kernel
theorem dX6_takeWrong_29 : decode cX6_takeWrong 29 = .ok (.iload_n 3, 1) := by decide +kernel
theorem dX6_takeWrong_30 : decode cX6_takeWrong 30 = .ok (.iconst (-1), 1) := by decide +kernel
theorem dX6_takeWrong_31 : decode cX6_takeWrong 31 = .ok (.if_icmp .ne 5, 3) := by decide +kernel
theorem dX6_takeWrong_34 : decode cX6_takeWrong 34 = .ok (.iconst 0, 1) := by decide +kernel
theorem dX6_takeWrong_35 : decode cX6_takeWrong 35 = .ok (.ireturn, 1) := by decide +kernel
theorem dX6_takeWrong_36 : decode cX6_takeWrong 36 = .ok (.aload_n 0, 1) := by decide +kernel
theorem dX6_takeWrong_37 : decode cX6_takeWrong 37 = .ok (.iconst 1, 1) := by decide +kernel
theorem dX6_takeWrong_38 : decode cX6_takeWrong 38 = .ok (.bipush 9, 2) := by decide +kernel
theorem dX6_takeWrong_40 : decode cX6_takeWrong 40 = .ok (.invokevirtual 45, 3) := by decide +kernel
theorem dX6_takeWrong_43 : decode cX6_takeWrong 43 = .ok (.istore 4, 2) := by decide +kernel
theorem dX6_takeWrong_45 : decode cX6_takeWrong 45 = .ok (.iload 4, 2) := by decide +kernel
theorem dX6_takeWrong_47 : decode cX6_takeWrong 47 = .ok (.iconst (-1), 1) := by decide +kernel
theorem dX6_takeWrong_48 : decode cX6_takeWrong 48 = .ok (.if_icmp .ne 5, 3) := by decide +kernel
theorem dX6_takeWrong_51 : decode cX6_takeWrong 51 = .ok (.iconst 0, 1) := by decide +kernel
theorem dX6_takeWrong_52 : decode cX6_takeWrong 52 = .ok (.ireturn, 1) := by decide +kernel
theorem dX6_takeWrong_53 : decode cX6_takeWrong 53 = .ok (.aload_n 1, 1) := by decide +kernel
theorem dX6_takeWrong_54 : decode cX6_takeWrong 54 = .ok (.iload_n 2, 1) := by decide +kernel
theorem dX6_takeWrong_55 : decode cX6_takeWrong 55 = .ok (.iload_n 3, 1) := by decide +kernel
theorem dX6_takeWrong_56 : decode cX6_takeWrong 56 = .ok (.iload 4, 2) := by decide +kernel
theorem dX6_takeWrong_58 : decode cX6_takeWrong 58 = .ok (.invokevirtual 73, 3) := by decide +kernel
theorem dX6_takeWrong_61 : decode cX6_takeWrong 61 = .ok (.iconst 1, 1) := by decide +kernel
theorem dX6_takeWrong_62 : decode cX6_takeWrong 62 = .ok (.ireturn, 1) := by decide +kernel
theorem dX6_takeDay_0 : decode cX6_takeDay 0 = .ok (.aload_n 0, 1) := by decide +kernel
theorem dX6_takeDay_1 : decode cX6_takeDay 1 = .ok (.iconst 0, 1) := by decide +kernel
theorem dX6_takeDay_2 : decode cX6_takeDay 2 = .ok (.iconst 1, 1) := by decide +kernel
theorem dX6_takeDay_3 : decode cX6_takeDay 3 = .ok (.invokevirtual 45, 3) := by decide +kernel
theorem dX6_takeDay_6 : decode cX6_takeDay 6 = .ok (.istore_n 2, 1) := by decide +kernel
theorem dX6_takeDay_7 : decode cX6_takeDay 7 = .ok (.iload_n 2, 1) := by decide +kernel
theorem dX6_takeDay_8 : decode cX6_takeDay 8 = .ok (.iconst (-1), 1) := by decide +kernel
theorem dX6_takeDay_9 : decode cX6_takeDay 9 = .ok (.if_icmp .ne 5, 3) := by decide +kernel
theorem dX6_takeDay_12 : decode cX6_takeDay 12 = .ok (.iconst 0, 1) := by decide +kernel
theorem dX6_takeDay_13 : decode cX6_takeDay 13 = .ok (.ireturn, 1) := by decide +kernel
theorem dX6_takeDay_14 : decode cX6_takeDay 14 = .ok (.aload_n 1, 1) := by decide +kernel
theorem dX6_takeDay_15 : decode cX6_takeDay 15 = .ok (.iload_n 2, 1) := by decide +kernel
theorem dX6_takeDay_16 : decode cX6_takeDay 16 = .ok (.invokevirtual 77, 3) := by decide +kernel
theorem dX6_takeDay_19 : decode cX6_takeDay 19 = .ok (.iconst 1, 1) := by decide +kernel
theorem dX6_takeDay_20 : decode cX6_takeDay 20 = .ok (.ireturn, 1) := by decide +kernel
theorem dJ6_bitCount_0f7a4_0 : decode cJ6_bitCount_0f7a4 0 = .ok (.iload_n 0, 1) := by decide +kernel
theorem dJ6_bitCount_0f7a4_1 : decode cJ6_bitCount_0f7a4 1 = .ok (.iload_n 0, 1) := by decide +kernel
theorem dJ6_bitCount_0f7a4_2 : decode cJ6_bitCount_0f7a4 2 = .ok (.iconst 1, 1) := by decide +kernel
theorem dJ6_bitCount_0f7a4_3 : decode cJ6_bitCount_0f7a4 3 = .ok (.iushr, 1) := by decide +kernel
theorem dJ6_bitCount_0f7a4_4 : decode cJ6_bitCount_0f7a4 4 = .ok (.ldc_w 265, 3) := by decide +kernel
theorem dJ6_bitCount_0f7a4_7 : decode cJ6_bitCount_0f7a4 7 = .ok (.iand, 1) := by decide +kernel
theorem dJ6_bitCount_0f7a4_8 : decode cJ6_bitCount_0f7a4 8 = .ok (.isub, 1) := by decide +kernel
theorem dJ6_bitCount_0f7a4_9 : decode cJ6_bitCount_0f7a4 9 = .ok (.istore_n 0, 1) := by decide +kernel
theorem dJ6_bitCount_0f7a4_10 : decode cJ6_bitCount_0f7a4 10 = .ok (.iload_n 0, 1) := by decide +kernel
theorem dJ6_bitCount_0f7a4_11 : decode cJ6_bitCount_0f7a4 11 = .ok (.ldc_w 266, 3) := by decide +kernel
theorem dJ6_bitCount_0f7a4_14 : decode cJ6_bitCount_0f7a4 14 = .ok (.iand, 1) := by decide +kernel
theorem dJ6_bitCount_0f7a4_15 : decode cJ6_bitCount_0f7a4 15 = .ok (.iload_n 0, 1) := by decide +kernel
theorem dJ6_bitCount_0f7a4_16 : decode cJ6_bitCount_0f7a4 16 = .ok (.iconst 2, 1) := by decide +kernel
theorem dJ6_bitCount_0f7a4_17 : decode cJ6_bitCount_0f7a4 17 = .ok (.iushr, 1) := by decide +kernel
theorem dJ6_bitCount_0f7a4_18 : decode cJ6_bitCount_0f7a4 18 = .ok (.ldc_w 266, 3) := by decide +kernel
theorem dJ6_bitCount_0f7a4_21 : decode cJ6_bitCount_0f7a4 21 = .ok (.iand, 1) := by decide +kernel
theorem dJ6_bitCount_0f7a4_22 : decode cJ6_bitCount_0f7a4 22 = .ok (.iadd, 1) := by decide +kernel
theorem dJ6_bitCount_0f7a4_23 : decode cJ6_bitCount_0f7a4 23 = .ok (.istore_n 0, 1) := by decide +kernel
theorem dJ6_bitCount_0f7a4_24 : decode cJ6_bitCount_0f7a4 24 = .ok (.iload_n 0, 1) := by decide +kernel
theorem dJ6_bitCount_0f7a4_25 : decode cJ6_bitCount_0f7a4 25 = .ok (.iload_n 0, 1) := by decide +kernel
theorem dJ6_bitCount_0f7a4_26 : decode cJ6_bitCount_0f7a4 26 = .ok (.iconst 4, 1) := by decide +kernel
theorem dJ6_bitCount_0f7a4_27 : decode cJ6_bitCount_0f7a4 27 = .ok (.iushr, 1) := by decide +kernel
theorem dJ6_bitCount_0f7a4_28 : decode cJ6_bitCount_0f7a4 28 = .ok (.iadd, 1) := by decide +kernel
theorem dJ6_bitCount_0f7a4_29 : decode cJ6_bitCount_0f7a4 29 = .ok (.ldc_w 267, 3) := by decide +kernel
theorem dJ6_bitCount_0f7a4_32 : decode cJ6_bitCount_0f7a4 32 = .ok (.iand, 1) := by decide +kernel
theorem dJ6_bitCount_0f7a4_33 : decode cJ6_bitCount_0f7a4 33 = .ok (.istore_n 0, 1) := by decide +kernel
theorem dJ6_bitCount_0f7a4_34 : decode cJ6_bitCount_0f7a4 34 = .ok (.iload_n 0, 1) := by decide +kernel
theorem dJ6_bitCount_0f7a4_35 : decode cJ6_bitCount_0f7a4 35 = .ok (.iload_n 0, 1) := by decide +kernel
theorem dJ6_bitCount_0f7a4_36 : decode cJ6_bitCount_0f7a4 36 = .ok (.bipush 8, 2) := by decide +kernel
theorem dJ6_bitCount_0f7a4_38 : decode cJ6_bitCount_0f7a4 38 = .ok (.iushr, 1) := by decide +kernel
theorem dJ6_bitCount_0f7a4_39 : decode cJ6_bitCount_0f7a4 39 = .ok (.iadd, 1) := by decide +kernel
theorem dJ6_bitCount_0f7a4_40 : decode cJ6_bitCount_0f7a4 40 = .ok (.istore_n 0, 1) := by decide +kernel
theorem dJ6_bitCount_0f7a4_41 : decode cJ6_bitCount_0f7a4 41 = .ok (.iload_n 0, 1) := by decide +kernel
theorem dJ6_bitCount_0f7a4_42 : decode cJ6_bitCount_0f7a4 42 = .ok (.iload_n 0, 1) := by decide +kernel
theorem dJ6_bitCount_0f7a4_43 : decode cJ6_bitCount_0f7a4 43 = .ok (.bipush 16, 2) := by decide +kernel
theorem dJ6_bitCount_0f7a4_45 : decode cJ6_bitCount_0f7a4 45 = .ok (.iushr, 1) := by decide +kernel
theorem dJ6_bitCount_0f7a4_46 : decode cJ6_bitCount_0f7a4 46 = .ok (.iadd, 1) := by decide +kernel
theorem dJ6_bitCount_0f7a4_47 : decode cJ6_bitCount_0f7a4 47 = .ok (.istore_n 0, 1) := by decide +kernel
theorem dJ6_bitCount_0f7a4_48 : decode cJ6_bitCount_0f7a4 48 = .ok (.iload_n 0, 1) := by decide +kernel
theorem dJ6_bitCount_0f7a4_49 : decode cJ6_bitCount_0f7a4 49 = .ok (.bipush 63, 2) := by decide +kernel
theorem dJ6_bitCount_0f7a4_51 : decode cJ6_bitCount_0f7a4 51 = .ok (.iand, 1) := by decide +kernel
theorem dJ6_bitCount_0f7a4_52 : decode cJ6_bitCount_0f7a4 52 = .ok (.ireturn, 1) := by decide +kernel
theorem dJ7_fill_d0a16_0 : decode cJ7_fill_d0a16 0 = .ok (.iconst 0, 1) := by decide +kernel
theorem dJ7_fill_d0a16_1 : decode cJ7_fill_d0a16 1 = .ok (.istore_n 3, 1) := by decide +kernel
theorem dJ7_fill_d0a16_2 : decode cJ7_fill_d0a16 2 = .ok (.aload_n 0, 1) := by decide +kernel
theorem dJ7_fill_d0a16_3 : decode cJ7_fill_d0a16 3 = .ok (.arraylength, 1) := by decide +kernel
theorem dJ7_fill_d0a16_4 : decode cJ7_fill_d0a16 4 = .ok (.istore 4, 2) := by decide +kernel
theorem dJ7_fill_d0a16_6 : decode cJ7_fill_d0a16 6 = .ok (.iload_n 3, 1) := by decide +kernel
theorem dJ7_fill_d0a16_7 : decode cJ7_fill_d0a16 7 = .ok (.iload 4, 2) := by decide +kernel
theorem dJ7_fill_d0a16_9 : decode cJ7_fill_d0a16 9 = .ok (.if_icmp .ge 13, 3) := by decide +kernel
theorem dJ7_fill_d0a16_12 : decode cJ7_fill_d0a16 12 = .ok (.aload_n 0, 1) := by decide +kernel
theorem dJ7_fill_d0a16_13 : decode cJ7_fill_d0a16 13 = .ok (.iload_n 3, 1) := by decide +kernel
theorem dJ7_fill_d0a16_14 : decode cJ7_fill_d0a16 14 = .ok (.lload_n 1, 1) := by decide +kernel
theorem dJ7_fill_d0a16_15 : decode cJ7_fill_d0a16 15 = .ok (.lastore, 1) := by decide +kernel
theorem dJ7_fill_d0a16_16 : decode cJ7_fill_d0a16 16 = .ok (.iinc 3 1, 3) := by decide +kernel
theorem dJ7_fill_d0a16_19 : decode cJ7_fill_d0a16 19 = .ok (.goto (-13), 3) := by decide +kernel
theorem dJ7_fill_d0a16_22 : decode cJ7_fill_d0a16 22 = .ok (.return_, 1) := by decide +kernel
theorem dJ7_fill_53178_0 : decode cJ7_fill_53178 0 = .ok (.iconst 0, 1) := by decide +kernel
theorem dJ7_fill_53178_1 : decode cJ7_fill_53178 1 = .ok (.istore_n 2, 1) := by decide +kernel
theorem dJ7_fill_53178_2 : decode cJ7_fill_53178 2 = .ok (.aload_n 0, 1) := by decide +kernel
theorem dJ7_fill_53178_3 : decode cJ7_fill_53178 3 = .ok (.arraylength, 1) := by decide +kernel
theorem dJ7_fill_53178_4 : decode cJ7_fill_53178 4 = .ok (.istore_n 3, 1) := by decide +kernel
theorem dJ7_fill_53178_5 : decode cJ7_fill_53178 5 = .ok (.iload_n 2, 1) := by decide +kernel
theorem dJ7_fill_53178_6 : decode cJ7_fill_53178 6 = .ok (.iload_n 3, 1) := by decide +kernel
theorem dJ7_fill_53178_7 : decode cJ7_fill_53178 7 = .ok (.if_icmp .ge 13, 3) := by decide +kernel
theorem dJ7_fill_53178_10 : decode cJ7_fill_53178 10 = .ok (.aload_n 0, 1) := by decide +kernel
theorem dJ7_fill_53178_11 : decode cJ7_fill_53178 11 = .ok (.iload_n 2, 1) := by decide +kernel
theorem dJ7_fill_53178_12 : decode cJ7_fill_53178 12 = .ok (.iload_n 1, 1) := by decide +kernel
theorem dJ7_fill_53178_13 : decode cJ7_fill_53178 13 = .ok (.iastore, 1) := by decide +kernel
theorem dJ7_fill_53178_14 : decode cJ7_fill_53178 14 = .ok (.iinc 2 1, 3) := by decide +kernel
theorem dJ7_fill_53178_17 : decode cJ7_fill_53178 17 = .ok (.goto (-12), 3) := by decide +kernel
theorem dJ7_fill_53178_20 : decode cJ7_fill_53178 20 = .ok (.return_, 1) := by decide +kernel
theorem dJ9_abs_0f7a4_0 : decode cJ9_abs_0f7a4 0 = .ok (.iload_n 0, 1) := by decide +kernel
theorem dJ9_abs_0f7a4_1 : decode cJ9_abs_0f7a4 1 = .ok (.ifCond .ge 8, 3) := by decide +kernel
theorem dJ9_abs_0f7a4_4 : decode cJ9_abs_0f7a4 4 = .ok (.iload_n 0, 1) := by decide +kernel
theorem dJ9_abs_0f7a4_5 : decode cJ9_abs_0f7a4 5 = .ok (.ineg, 1) := by decide +kernel
theorem dJ9_abs_0f7a4_6 : decode cJ9_abs_0f7a4 6 = .ok (.goto 4, 3) := by decide +kernel
theorem dJ9_abs_0f7a4_9 : decode cJ9_abs_0f7a4 9 = .ok (.iload_n 0, 1) := by decide +kernel
theorem dJ9_abs_0f7a4_10 : decode cJ9_abs_0f7a4 10 = .ok (.ireturn, 1) := by decide +kernel
theorem dJ9_max_7cf53_0 : decode cJ9_max_7cf53 0 = .ok (.iload_n 0, 1) := by decide +kernel
theorem dJ9_max_7cf53_1 : decode cJ9_max_7cf53 1 = .ok (.iload_n 1, 1) := by decide +kernel
theorem dJ9_max_7cf53_2 : decode cJ9_max_7cf53 2 = .ok (.if_icmp .lt 7, 3) := by decide +kernel
theorem dJ9_max_7cf53_5 : decode cJ9_max_7cf53 5 = .ok (.iload_n 0, 1) := by decide +kernel
theorem dJ9_max_7cf53_6 : decode cJ9_max_7cf53 6 = .ok (.goto 4, 3) := by decide +kernel
theorem dJ9_max_7cf53_9 : decode cJ9_max_7cf53 9 = .ok (.iload_n 1, 1) := by decide +kernel
theorem dJ9_max_7cf53_10 : decode cJ9_max_7cf53 10 = .ok (.ireturn, 1) := by decide +kernel
theorem dJ9_min_7cf53_0 : decode cJ9_min_7cf53 0 = .ok (.iload_n 0, 1) := by decide +kernel
theorem dJ9_min_7cf53_1 : decode cJ9_min_7cf53 1 = .ok (.iload_n 1, 1) := by decide +kernel
theorem dJ9_min_7cf53_2 : decode cJ9_min_7cf53 2 = .ok (.if_icmp .gt 7, 3) := by decide +kernel
theorem dJ9_min_7cf53_5 : decode cJ9_min_7cf53 5 = .ok (.iload_n 0, 1) := by decide +kernel
theorem dJ9_min_7cf53_6 : decode cJ9_min_7cf53 6 = .ok (.goto 4, 3) := by decide +kernel
theorem dJ9_min_7cf53_9 : decode cJ9_min_7cf53 9 = .ok (.iload_n 1, 1) := by decide +kernel
theorem dJ9_min_7cf53_10 : decode cJ9_min_7cf53 10 = .ok (.ireturn, 1) := by decide +kernel
end
section
theorem dX7_init_0 : decode cX7_init 0 = .ok (.aload_n 0, 1) := by decide +kernel
theorem dX7_init_1 : decode cX7_init 1 = .ok (.invokespecial 1, 3) := by decide +kernel
theorem dX7_init_4 : decode cX7_init 4 = .ok (.aload_n 0, 1) := by decide +kernel
theorem dX7_init_5 : decode cX7_init 5 = .ok (.new 7, 3) := by decide +kernel
theorem dX7_init_8 : decode cX7_init 8 = .ok (.dup, 1) := by decide +kernel
theorem dX7_init_9 : decode cX7_init 9 = .ok (.invokespecial 9, 3) := by decide +kernel
theorem dX7_init_12 : decode cX7_init 12 = .ok (.putfield 10, 3) := by decide +kernel
theorem dX7_init_15 : decode cX7_init 15 = .ok (.aload_n 0, 1) := by decide +kernel
theorem dX7_init_16 : decode cX7_init 16 = .ok (.new 16, 3) := by decide +kernel
theorem dX7_init_19 : decode cX7_init 19 = .ok (.dup, 1) := by decide +kernel
theorem dX7_init_20 : decode cX7_init 20 = .ok (.invokespecial 18, 3) := by decide +kernel
theorem dX7_init_23 : decode cX7_init 23 = .ok (.putfield 19, 3) := by decide +kernel
theorem dX7_init_26 : decode cX7_init 26 = .ok (.aload_n 0, 1) := by decide +kernel
theorem dX7_init_27 : decode cX7_init 27 = .ok (.new 16, 3) := by decide +kernel
theorem dX7_init_30 : decode cX7_init 30 = .ok (.dup, 1) := by decide +kernel
theorem dX7_init_31 : decode cX7_init 31 = .ok (.invokespecial 18, 3) := by decide +kernel
theorem dX7_init_34 : decode cX7_init 34 = .ok (.putfield 23, 3) := by decide +kernel
theorem dX7_init_37 : decode cX7_init 37 = .ok (.aload_n 0, 1) := by decide +kernel
theorem dX7_init_38 : decode cX7_init 38 = .ok (.new 26, 3) := by decide +kernel
theorem dX7_init_41 : decode cX7_init 41 = .ok (.dup, 1) := by decide +kernel
theorem dX7_init_42 : decode cX7_init 42 = .ok (.invokespecial 28, 3) := by decide +kernel
theorem dX7_init_45 : decode cX7_init 45 = .ok (.putfield 29, 3) := by decide +kernel
theorem dX7_init_48 : decode cX7_init 48 = .ok (.aload_n 0, 1) := by decide +kernel
theorem dX7_init_49 : decode cX7_init 49 = .ok (.iconst 2, 1) := by decide +kernel
theorem dX7_init_50 : decode cX7_init 50 = .ok (.anewarray 16, 3) := by decide +kernel
theorem dX7_init_53 : decode cX7_init 53 = .ok (.dup, 1) := by decide +kernel
theorem dX7_init_54 : decode cX7_init 54 = .ok (.iconst 0, 1) := by decide +kernel
theorem dX7_init_55 : decode cX7_init 55 = .ok (.new 16, 3) := by decide +kernel
theorem dX7_init_58 : decode cX7_init 58 = .ok (.dup, 1) := by decide +kernel
theorem dX7_init_59 : decode cX7_init 59 = .ok (.invokespecial 18, 3) := by decide +kernel
theorem dX7_init_62 : decode cX7_init 62 = .ok (.aastore, 1) := by decide +kernel
theorem dX7_init_63 : decode cX7_init 63 = .ok (.dup, 1) := by decide +kernel
theorem dX7_init_64 : decode cX7_init 64 = .ok (.iconst 1, 1) := by decide +kernel
theorem dX7_init_65 : decode cX7_init 65 = .ok (.new 16, 3) := by decide +kernel
theorem dX7_init_68 : decode cX7_init 68 = .ok (.dup, 1) := by decide +kernel
theorem dX7_init_69 : decode cX7_init 69 = .ok (.invokespecial 18, 3) := by decide +kernel
theorem dX7_init_72 : decode cX7_init 72 = .ok (.aastore, 1) := by decide +kernel
theorem dX7_init_73 : decode cX7_init 73 = .ok (.putfield 33, 3) := by decide +kernel
theorem dX7_init_76 : decode cX7_init 76 = .ok (.aload_n 0, 1) := by decide +kernel
theorem dX7_init_77 : decode cX7_init 77 = .ok (.iconst 4, 1) := by decide +kernel
theorem dX7_init_78 : decode cX7_init 78 = .ok (.anewarray 37, 3) := by decide +kernel
theorem dX7_init_81 : decode cX7_init 81 = .ok (.dup, 1) := by decide +kernel
theorem dX7_init_82 : decode cX7_init 82 = .ok (.iconst 0, 1) := by decide +kernel
theorem dX7_init_83 : decode cX7_init 83 = .ok (.new 37, 3) := by decide +kernel
theorem dX7_init_86 : decode cX7_init 86 = .ok (.dup, 1) := by decide +kernel
theorem dX7_init_87 : decode cX7_init 87 = .ok (.invokespecial 39, 3) := by decide +kernel
theorem dX7_init_90 : decode cX7_init 90 = .ok (.aastore, 1) := by decide +kernel
theorem dX7_init_91 : decode cX7_init 91 = .ok (.dup, 1) := by decide +kernel
theorem dX7_init_92 : decode cX7_init 92 = .ok (.iconst 1, 1) := by decide +kernel
theorem dX7_init_93 : decode cX7_init 93 = .ok (.new 37, 3) := by decide +kernel
theorem dX7_init_96 : decode cX7_init 96 = .ok (.dup, 1) := by decide +kernel
theorem dX7_init_97 : decode cX7_init 97 = .ok (.invokespecial 39, 3) := by decide +kernel
theorem dX7_init_100 : decode cX7_init 100 = .ok (.aastore, 1) := by decide +kernel
theorem dX7_init_101 : decode cX7_init 101 = .ok (.dup, 1) := by decide +kernel
theorem dX7_init_102 : decode cX7_init 102 = .ok (.iconst 2, 1) := by decide +kernel
theorem dX7_init_103 : decode cX7_init 103 = .ok (.new 37, 3) := by decide +kernel
theorem dX7_init_106 : decode cX7_init 106 = .ok (.dup, 1) := by decide +kernel
theorem dX7_init_107 : decode cX7_init 107 = .ok (.invokespecial 39, 3) := by decide +kernel
theorem dX7_init_110 : decode cX7_init 110 = .ok (.aastore, 1) := by decide +kernel
theorem dX7_init_111 : decode cX7_init 111 = .ok (.dup, 1) := by decide +kernel
theorem dX7_init_112 : decode cX7_init 112 = .ok (.iconst 3, 1) := by decide +kernel
theorem dX7_init_113 : decode cX7_init 113 = .ok (.new 37, 3) := by decide +kernel
theorem dX7_init_116 : decode cX7_init 116 = .ok (.dup, 1) := by decide +kernel
theorem dX7_init_117 : decode cX7_init 117 = .ok (.invokespecial 39, 3) := by decide +kernel
theorem dX7_init_120 : decode cX7_init 120 = .ok (.aastore, 1) := by decide +kernel
theorem dX7_init_121 : decode cX7_init 121 = .ok (.putfield 40, 3) := by decide +kernel
theorem dX7_init_124 : decode cX7_init 124 = .ok (.aload_n 0, 1) := by decide +kernel
theorem dX7_init_125 : decode cX7_init 125 = .ok (.new 44, 3) := by decide +kernel
theorem dX7_init_128 : decode cX7_init 128 = .ok (.dup, 1) := by decide +kernel
theorem dX7_init_129 : decode cX7_init 129 = .ok (.invokespecial 46, 3) := by decide +kernel
theorem dX7_init_132 : decode cX7_init 132 = .ok (.putfield 47, 3) := by decide +kernel
theorem dX7_init_135 : decode cX7_init 135 = .ok (.aload_n 0, 1) := by decide +kernel
theorem dX7_init_136 : decode cX7_init 136 = .ok (.new 51, 3) := by decide +kernel
theorem dX7_init_139 : decode cX7_init 139 = .ok (.dup, 1) := by decide +kernel
theorem dX7_init_140 : decode cX7_init 140 = .ok (.invokespecial 53, 3) := by decide +kernel
theorem dX7_init_143 : decode cX7_init 143 = .ok (.putfield 54, 3) := by decide +kernel
theorem dX7_init_146 : decode cX7_init 146 = .ok (.aload_n 0, 1) := by decide +kernel
theorem dX7_init_147 : decode cX7_init 147 = .ok (.new 58, 3) := by decide +kernel
theorem dX7_init_150 : decode cX7_init 150 = .ok (.dup, 1) := by decide +kernel
theorem dX7_init_151 : decode cX7_init 151 = .ok (.invokespecial 60, 3) := by decide +kernel
theorem dX7_init_154 : decode cX7_init 154 = .ok (.putfield 61, 3) := by decide +kernel
theorem dX7_init_157 : decode cX7_init 157 = .ok (.return_, 1) := by decide +kernel
theorem dX7_feed_0 : decode cX7_feed 0 = .ok (.iload_n 1, 1) := by decide +kernel
theorem dX7_feed_1 : decode cX7_feed 1 = .ok (.ifCond .lt 10, 3) := by decide +kernel
theorem dX7_feed_4 : decode cX7_feed 4 = .ok (.iload_n 1, 1) := by decide +kernel
theorem dX7_feed_5 : decode cX7_feed 5 = .ok (.sipush 255, 3) := by decide +kernel
theorem dX7_feed_8 : decode cX7_feed 8 = .ok (.if_icmp .le 5, 3) := by decide +kernel
theorem dX7_feed_11 : decode cX7_feed 11 = .ok (.iconst (-1), 1) := by decide +kernel
theorem dX7_feed_12 : decode cX7_feed 12 = .ok (.ireturn, 1) := by decide +kernel
theorem dX7_feed_13 : decode cX7_feed 13 = .ok (.aload_n 0, 1) := by decide +kernel
theorem dX7_feed_14 : decode cX7_feed 14 = .ok (.getfield 10, 3) := by decide +kernel
theorem dX7_feed_17 : decode cX7_feed 17 = .ok (.iload_n 1, 1) := by decide +kernel
theorem dX7_feed_18 : decode cX7_feed 18 = .ok (.invokevirtual 65, 3) := by decide +kernel
theorem dX7_feed_21 : decode cX7_feed 21 = .ok (.ifCond .eq 13, 3) := by decide +kernel
theorem dX7_feed_24 : decode cX7_feed 24 = .ok (.aload_n 0, 1) := by decide +kernel
theorem dX7_feed_25 : decode cX7_feed 25 = .ok (.getfield 10, 3) := by decide +kernel
theorem dX7_feed_28 : decode cX7_feed 28 = .ok (.invokevirtual 69, 3) := by decide +kernel
theorem dX7_feed_31 : decode cX7_feed 31 = .ok (.goto 5, 3) := by decide +kernel
theorem dX7_feed_34 : decode cX7_feed 34 = .ok (.bipush (-3), 2) := by decide +kernel
theorem dX7_feed_36 : decode cX7_feed 36 = .ok (.ireturn, 1) := by decide +kernel
theorem dX7_coast_0 : decode cX7_coast 0 = .ok (.aload_n 0, 1) := by decide +kernel
theorem dX7_coast_1 : decode cX7_coast 1 = .ok (.getfield 10, 3) := by decide +kernel
theorem dX7_coast_4 : decode cX7_coast 4 = .ok (.aload_n 0, 1) := by decide +kernel
theorem dX7_coast_5 : decode cX7_coast 5 = .ok (.getfield 23, 3) := by decide +kernel
theorem dX7_coast_8 : decode cX7_coast 8 = .ok (.invokevirtual 73, 3) := by decide +kernel
theorem dX7_coast_11 : decode cX7_coast 11 = .ok (.istore_n 1, 1) := by decide +kernel
theorem dX7_coast_12 : decode cX7_coast 12 = .ok (.aload_n 0, 1) := by decide +kernel
theorem dX7_coast_13 : decode cX7_coast 13 = .ok (.getfield 10, 3) := by decide +kernel
theorem dX7_coast_16 : decode cX7_coast 16 = .ok (.invokevirtual 77, 3) := by decide +kernel
theorem dX7_coast_19 : decode cX7_coast 19 = .ok (.iload_n 1, 1) := by decide +kernel
theorem dX7_coast_20 : decode cX7_coast 20 = .ok (.iconst (-1), 1) := by decide +kernel
theorem dX7_coast_21 : decode cX7_coast 21 = .ok (.if_icmp .eq 8, 3) := by decide +kernel
theorem dX7_coast_24 : decode cX7_coast 24 = .ok (.bipush (-100), 2) := by decide +kernel
theorem dX7_coast_26 : decode cX7_coast 26 = .ok (.iload_n 1, 1) := by decide +kernel
theorem dX7_coast_27 : decode cX7_coast 27 = .ok (.isub, 1) := by decide +kernel
theorem dX7_coast_28 : decode cX7_coast 28 = .ok (.ireturn, 1) := by decide +kernel
theorem dX7_coast_29 : decode cX7_coast 29 = .ok (.aload_n 0, 1) := by decide +kernel
theorem dX7_coast_30 : decode cX7_coast 30 = .ok (.getfield 19, 3) := by decide +kernel
theorem dX7_coast_33 : decode cX7_coast 33 = .ok (.aload_n 0, 1) := by decide +kernel
theorem dX7_coast_34 : decode cX7_coast 34 = .ok (.getfield 23, 3) := by decide +kernel
theorem dX7_coast_37 : decode cX7_coast 37 = .ok (.invokevirtual 80, 3) := by decide +kernel
theorem dX7_coast_40 : decode cX7_coast 40 = .ok (.aload_n 0, 1) := by decide +kernel
theorem dX7_coast_41 : decode cX7_coast 41 = .ok (.getfield 29, 3) := by decide +kernel
theorem dX7_coast_44 : decode cX7_coast 44 = .ok (.invokevirtual 84, 3) := by decide +kernel
theorem dX7_coast_47 : decode cX7_coast 47 = .ok (.aload_n 0, 1) := by decide +kernel
theorem dX7_coast_48 : decode cX7_coast 48 = .ok (.getfield 19, 3) := by decide +kernel
theorem dX7_coast_51 : decode cX7_coast 51 = .ok (.invokevirtual 87, 3) := by decide +kernel
theorem dX7_coast_54 : decode cX7_coast 54 = .ok (.ireturn, 1) := by decide +kernel
theorem dX7_person_0 : decode cX7_person 0 = .ok (.aload_n 0, 1) := by decide +kernel
theorem dX7_person_1 : decode cX7_person 1 = .ok (.getfield 19, 3) := by decide +kernel
theorem dX7_person_4 : decode cX7_person 4 = .ok (.iload_n 1, 1) := by decide +kernel
theorem dX7_person_5 : decode cX7_person 5 = .ok (.invokevirtual 90, 3) := by decide +kernel
theorem dX7_person_8 : decode cX7_person 8 = .ok (.ifCond .eq 13, 3) := by decide +kernel
theorem dX7_person_11 : decode cX7_person 11 = .ok (.iload_n 2, 1) := by decide +kernel
theorem dX7_person_12 : decode cX7_person 12 = .ok (.ifCond .lt 9, 3) := by decide +kernel
theorem dX7_person_15 : decode cX7_person 15 = .ok (.iload_n 2, 1) := by decide +kernel
theorem dX7_person_16 : decode cX7_person 16 = .ok (.bipush 8, 2) := by decide +kernel
theorem dX7_person_18 : decode cX7_person 18 = .ok (.if_icmp .lt 5, 3) := by decide +kernel
theorem dX7_person_21 : decode cX7_person 21 = .ok (.iconst (-1), 1) := by decide +kernel
theorem dX7_person_22 : decode cX7_person 22 = .ok (.ireturn, 1) := by decide +kernel
theorem dX7_person_23 : decode cX7_person 23 = .ok (.aload_n 0, 1) := by decide +kernel
theorem dX7_person_24 : decode cX7_person 24 = .ok (.getfield 19, 3) := by decide +kernel
theorem dX7_person_27 : decode cX7_person 27 = .ok (.iload_n 1, 1) := by decide +kernel
theorem dX7_person_28 : decode cX7_person 28 = .ok (.iload_n 2, 1) := by decide +kernel
theorem dX7_person_29 : decode cX7_person 29 = .ok (.invokevirtual 93, 3) := by decide +kernel
theorem dX7_person_32 : decode cX7_person 32 = .ok (.ireturn, 1) := by decide +kernel
theorem dX7_as_0 : decode cX7_as 0 = .ok (.aload_n 0, 1) := by decide +kernel
theorem dX7_as_1 : decode cX7_as 1 = .ok (.getfield 19, 3) := by decide +kernel
theorem dX7_as_4 : decode cX7_as 4 = .ok (.iload_n 1, 1) := by decide +kernel
theorem dX7_as_5 : decode cX7_as 5 = .ok (.invokevirtual 90, 3) := by decide +kernel
theorem dX7_as_8 : decode cX7_as 8 = .ok (.ifCond .eq 15, 3) := by decide +kernel
theorem dX7_as_11 : decode cX7_as 11 = .ok (.iload_n 2, 1) := by decide +kernel
theorem dX7_as_12 : decode cX7_as 12 = .ok (.ifCond .lt 11, 3) := by decide +kernel
theorem dX7_as_15 : decode cX7_as 15 = .ok (.iload_n 2, 1) := by decide +kernel
theorem dX7_as_16 : decode cX7_as 16 = .ok (.getstatic 97, 3) := by decide +kernel
theorem dX7_as_19 : decode cX7_as 19 = .ok (.arraylength, 1) := by decide +kernel
theorem dX7_as_20 : decode cX7_as 20 = .ok (.if_icmp .lt 5, 3) := by decide +kernel
theorem dX7_as_23 : decode cX7_as 23 = .ok (.iconst (-1), 1) := by decide +kernel
theorem dX7_as_24 : decode cX7_as 24 = .ok (.ireturn, 1) := by decide +kernel
theorem dX7_as_25 : decode cX7_as 25 = .ok (.aload_n 0, 1) := by decide +kernel
theorem dX7_as_26 : decode cX7_as 26 = .ok (.getfield 19, 3) := by decide +kernel
theorem dX7_as_29 : decode cX7_as 29 = .ok (.iload_n 1, 1) := by decide +kernel
theorem dX7_as_30 : decode cX7_as 30 = .ok (.iconst 0, 1) := by decide +kernel
theorem dX7_as_31 : decode cX7_as 31 = .ok (.invokevirtual 93, 3) := by decide +kernel
theorem dX7_as_34 : decode cX7_as 34 = .ok (.iload_n 2, 1) := by decide +kernel
theorem dX7_as_35 : decode cX7_as 35 = .ok (.invokestatic 101, 3) := by decide +kernel
theorem dX7_as_38 : decode cX7_as 38 = .ok (.ifCond .eq 7, 3) := by decide +kernel
theorem dX7_as_41 : decode cX7_as 41 = .ok (.iload_n 1, 1) := by decide +kernel
theorem dX7_as_42 : decode cX7_as 42 = .ok (.goto 5, 3) := by decide +kernel
theorem dX7_as_45 : decode cX7_as 45 = .ok (.bipush (-12), 2) := by decide +kernel
theorem dX7_as_47 : decode cX7_as 47 = .ok (.ireturn, 1) := by decide +kernel
theorem dX7_wrong_0 : decode cX7_wrong 0 = .ok (.aload_n 0, 1) := by decide +kernel
theorem dX7_wrong_1 : decode cX7_wrong 1 = .ok (.getfield 19, 3) := by decide +kernel
theorem dX7_wrong_4 : decode cX7_wrong 4 = .ok (.iload_n 1, 1) := by decide +kernel
theorem dX7_wrong_5 : decode cX7_wrong 5 = .ok (.invokevirtual 105, 3) := by decide +kernel
theorem dX7_wrong_8 : decode cX7_wrong 8 = .ok (.ifCond .eq 12, 3) := by decide +kernel
theorem dX7_wrong_11 : decode cX7_wrong 11 = .ok (.iload_n 2, 1) := by decide +kernel
theorem dX7_wrong_12 : decode cX7_wrong 12 = .ok (.ifCond .lt 8, 3) := by decide +kernel
theorem dX7_wrong_15 : decode cX7_wrong 15 = .ok (.iload_n 2, 1) := by decide +kernel
theorem dX7_wrong_16 : decode cX7_wrong 16 = .ok (.iconst 4, 1) := by decide +kernel
theorem dX7_wrong_17 : decode cX7_wrong 17 = .ok (.if_icmp .le 5, 3) := by decide +kernel
theorem dX7_wrong_20 : decode cX7_wrong 20 = .ok (.iconst (-1), 1) := by decide +kernel
theorem dX7_wrong_21 : decode cX7_wrong 21 = .ok (.ireturn, 1) := by decide +kernel
theorem dX7_wrong_22 : decode cX7_wrong 22 = .ok (.iload_n 2, 1) := by decide +kernel
theorem dX7_wrong_23 : decode cX7_wrong 23 = .ok (.iconst 4, 1) := by decide +kernel
theorem dX7_wrong_24 : decode cX7_wrong 24 = .ok (.if_icmp .ne 14, 3) := by decide +kernel
theorem dX7_wrong_27 : decode cX7_wrong 27 = .ok (.aload_n 0, 1) := by decide +kernel
theorem dX7_wrong_28 : decode cX7_wrong 28 = .ok (.getfield 19, 3) := by decide +kernel
theorem dX7_wrong_31 : decode cX7_wrong 31 = .ok (.iload_n 1, 1) := by decide +kernel
theorem dX7_wrong_32 : decode cX7_wrong 32 = .ok (.invokevirtual 108, 3) := by decide +kernel
theorem dX7_wrong_35 : decode cX7_wrong 35 = .ok (.goto 12, 3) := by decide +kernel
theorem dX7_wrong_38 : decode cX7_wrong 38 = .ok (.aload_n 0, 1) := by decide +kernel
theorem dX7_wrong_39 : decode cX7_wrong 39 = .ok (.getfield 19, 3) := by decide +kernel
theorem dX7_wrong_42 : decode cX7_wrong 42 = .ok (.iload_n 1, 1) := by decide +kernel
theorem dX7_wrong_43 : decode cX7_wrong 43 = .ok (.iload_n 2, 1) := by decide +kernel
theorem dX7_wrong_44 : decode cX7_wrong 44 = .ok (.invokevirtual 112, 3) := by decide +kernel
theorem dX7_wrong_47 : decode cX7_wrong 47 = .ok (.ireturn, 1) := by decide +kernel
theorem dX7_carry_0 : decode cX7_carry 0 = .ok (.aload_n 0, 1) := by decide +kernel
theorem dX7_carry_1 : decode cX7_carry 1 = .ok (.iload_n 1, 1) := by decide +kernel
theorem dX7_carry_2 : decode cX7_carry 2 = .ok (.iload_n 2, 1) := by decide +kernel
theorem dX7_carry_3 : decode cX7_carry 3 = .ok (.invokevirtual 115, 3) := by decide +kernel
theorem dX7_carry_6 : decode cX7_carry 6 = .ok (.istore_n 3, 1) := by decide +kernel
theorem dX7_carry_7 : decode cX7_carry 7 = .ok (.iload_n 3, 1) := by decide +kernel
theorem dX7_carry_8 : decode cX7_carry 8 = .ok (.ifCond .eq 5, 3) := by decide +kernel
theorem dX7_carry_11 : decode cX7_carry 11 = .ok (.iload_n 3, 1) := by decide +kernel
theorem dX7_carry_12 : decode cX7_carry 12 = .ok (.ireturn, 1) := by decide +kernel
theorem dX7_carry_13 : decode cX7_carry 13 = .ok (.aload_n 0, 1) := by decide +kernel
theorem dX7_carry_14 : decode cX7_carry 14 = .ok (.getfield 19, 3) := by decide +kernel
theorem dX7_carry_17 : decode cX7_carry 17 = .ok (.invokevirtual 118, 3) := by decide +kernel
theorem dX7_carry_20 : decode cX7_carry 20 = .ok (.sipush 9999, 3) := by decide +kernel
theorem dX7_carry_23 : decode cX7_carry 23 = .ok (.if_icmp .lt 6, 3) := by decide +kernel
theorem dX7_carry_26 : decode cX7_carry 26 = .ok (.bipush (-3), 2) := by decide +kernel
theorem dX7_carry_28 : decode cX7_carry 28 = .ok (.ireturn, 1) := by decide +kernel
theorem dX7_carry_29 : decode cX7_carry 29 = .ok (.aload_n 0, 1) := by decide +kernel
theorem dX7_carry_30 : decode cX7_carry 30 = .ok (.getfield 29, 3) := by decide +kernel
theorem dX7_carry_33 : decode cX7_carry 33 = .ok (.aload_n 0, 1) := by decide +kernel
theorem dX7_carry_34 : decode cX7_carry 34 = .ok (.getfield 19, 3) := by decide +kernel
theorem dX7_carry_37 : decode cX7_carry 37 = .ok (.invokevirtual 121, 3) := by decide +kernel
theorem dX7_carry_40 : decode cX7_carry 40 = .ok (.aload_n 0, 1) := by decide +kernel
theorem dX7_carry_41 : decode cX7_carry 41 = .ok (.getfield 19, 3) := by decide +kernel
theorem dX7_carry_44 : decode cX7_carry 44 = .ok (.iload_n 1, 1) := by decide +kernel
theorem dX7_carry_45 : decode cX7_carry 45 = .ok (.iload_n 2, 1) := by decide +kernel
theorem dX7_carry_46 : decode cX7_carry 46 = .ok (.invokevirtual 124, 3) := by decide +kernel
theorem dX7_carry_49 : decode cX7_carry 49 = .ok (.ireturn, 1) := by decide +kernel
theorem dX7_lend_0 : decode cX7_lend 0 = .ok (.aload_n 0, 1) := by decide +kernel
theorem dX7_lend_1 : decode cX7_lend 1 = .ok (.getfield 19, 3) := by decide +kernel
theorem dX7_lend_4 : decode cX7_lend 4 = .ok (.iload_n 1, 1) := by decide +kernel
theorem dX7_lend_5 : decode cX7_lend 5 = .ok (.invokevirtual 90, 3) := by decide +kernel
theorem dX7_lend_8 : decode cX7_lend 8 = .ok (.ifCond .eq 19, 3) := by decide +kernel
theorem dX7_lend_11 : decode cX7_lend 11 = .ok (.aload_n 0, 1) := by decide +kernel
theorem dX7_lend_12 : decode cX7_lend 12 = .ok (.getfield 19, 3) := by decide +kernel
theorem dX7_lend_15 : decode cX7_lend 15 = .ok (.iload_n 2, 1) := by decide +kernel
theorem dX7_lend_16 : decode cX7_lend 16 = .ok (.invokevirtual 90, 3) := by decide +kernel
theorem dX7_lend_19 : decode cX7_lend 19 = .ok (.ifCond .eq 8, 3) := by decide +kernel
theorem dX7_lend_22 : decode cX7_lend 22 = .ok (.iload_n 1, 1) := by decide +kernel
theorem dX7_lend_23 : decode cX7_lend 23 = .ok (.iload_n 2, 1) := by decide +kernel
theorem dX7_lend_24 : decode cX7_lend 24 = .ok (.if_icmp .ne 5, 3) := by decide +kernel
theorem dX7_lend_27 : decode cX7_lend 27 = .ok (.iconst (-1), 1) := by decide +kernel
theorem dX7_lend_28 : decode cX7_lend 28 = .ok (.ireturn, 1) := by decide +kernel
theorem dX7_lend_29 : decode cX7_lend 29 = .ok (.aload_n 0, 1) := by decide +kernel
theorem dX7_lend_30 : decode cX7_lend 30 = .ok (.iload_n 1, 1) := by decide +kernel
theorem dX7_lend_31 : decode cX7_lend 31 = .ok (.iconst 5, 1) := by decide +kernel
theorem dX7_lend_32 : decode cX7_lend 32 = .ok (.iload_n 2, 1) := by decide +kernel
theorem dX7_lend_33 : decode cX7_lend 33 = .ok (.invokevirtual 127, 3) := by decide +kernel
theorem dX7_lend_36 : decode cX7_lend 36 = .ok (.ireturn, 1) := by decide +kernel
theorem dX7_sin_0 : decode cX7_sin 0 = .ok (.aload_n 0, 1) := by decide +kernel
theorem dX7_sin_1 : decode cX7_sin 1 = .ok (.getfield 19, 3) := by decide +kernel
theorem dX7_sin_4 : decode cX7_sin 4 = .ok (.iload_n 1, 1) := by decide +kernel
theorem dX7_sin_5 : decode cX7_sin 5 = .ok (.invokevirtual 90, 3) := by decide +kernel
theorem dX7_sin_8 : decode cX7_sin 8 = .ok (.ifCond .eq 30, 3) := by decide +kernel
theorem dX7_sin_11 : decode cX7_sin 11 = .ok (.aload_n 0, 1) := by decide +kernel
theorem dX7_sin_12 : decode cX7_sin 12 = .ok (.getfield 19, 3) := by decide +kernel
theorem dX7_sin_15 : decode cX7_sin 15 = .ok (.iload_n 2, 1) := by decide +kernel
theorem dX7_sin_16 : decode cX7_sin 16 = .ok (.invokevirtual 90, 3) := by decide +kernel
theorem dX7_sin_19 : decode cX7_sin 19 = .ok (.ifCond .eq 19, 3) := by decide +kernel
theorem dX7_sin_22 : decode cX7_sin 22 = .ok (.iload_n 1, 1) := by decide +kernel
theorem dX7_sin_23 : decode cX7_sin 23 = .ok (.iload_n 2, 1) := by decide +kernel
theorem dX7_sin_24 : decode cX7_sin 24 = .ok (.if_icmp .eq 14, 3) := by decide +kernel
theorem dX7_sin_27 : decode cX7_sin 27 = .ok (.iload_n 3, 1) := by decide +kernel
theorem dX7_sin_28 : decode cX7_sin 28 = .ok (.iconst 1, 1) := by decide +kernel
theorem dX7_sin_29 : decode cX7_sin 29 = .ok (.if_icmp .lt 9, 3) := by decide +kernel
theorem dX7_sin_32 : decode cX7_sin 32 = .ok (.iload_n 3, 1) := by decide +kernel
theorem dX7_sin_33 : decode cX7_sin 33 = .ok (.bipush 9, 2) := by decide +kernel
theorem dX7_sin_35 : decode cX7_sin 35 = .ok (.if_icmp .le 5, 3) := by decide +kernel
theorem dX7_sin_38 : decode cX7_sin 38 = .ok (.iconst (-1), 1) := by decide +kernel
theorem dX7_sin_39 : decode cX7_sin 39 = .ok (.ireturn, 1) := by decide +kernel
theorem dX7_sin_40 : decode cX7_sin 40 = .ok (.aload_n 0, 1) := by decide +kernel
theorem dX7_sin_41 : decode cX7_sin 41 = .ok (.getfield 19, 3) := by decide +kernel
theorem dX7_sin_44 : decode cX7_sin 44 = .ok (.invokevirtual 87, 3) := by decide +kernel
theorem dX7_sin_47 : decode cX7_sin 47 = .ok (.bipush 8, 2) := by decide +kernel
theorem dX7_sin_49 : decode cX7_sin 49 = .ok (.if_icmp .lt 6, 3) := by decide +kernel
theorem dX7_sin_52 : decode cX7_sin 52 = .ok (.bipush (-3), 2) := by decide +kernel
theorem dX7_sin_54 : decode cX7_sin 54 = .ok (.ireturn, 1) := by decide +kernel
theorem dX7_sin_55 : decode cX7_sin 55 = .ok (.aload_n 0, 1) := by decide +kernel
theorem dX7_sin_56 : decode cX7_sin 56 = .ok (.getfield 29, 3) := by decide +kernel
theorem dX7_sin_59 : decode cX7_sin 59 = .ok (.aload_n 0, 1) := by decide +kernel
theorem dX7_sin_60 : decode cX7_sin 60 = .ok (.getfield 19, 3) := by decide +kernel
theorem dX7_sin_63 : decode cX7_sin 63 = .ok (.invokevirtual 121, 3) := by decide +kernel
theorem dX7_sin_66 : decode cX7_sin 66 = .ok (.aload_n 0, 1) := by decide +kernel
theorem dX7_sin_67 : decode cX7_sin 67 = .ok (.getfield 19, 3) := by decide +kernel
theorem dX7_sin_70 : decode cX7_sin 70 = .ok (.iload_n 1, 1) := by decide +kernel
theorem dX7_sin_71 : decode cX7_sin 71 = .ok (.iload_n 2, 1) := by decide +kernel
theorem dX7_sin_72 : decode cX7_sin 72 = .ok (.iload_n 3, 1) := by decide +kernel
theorem dX7_sin_73 : decode cX7_sin 73 = .ok (.invokevirtual 131, 3) := by decide +kernel
theorem dX7_sin_76 : decode cX7_sin 76 = .ok (.aload_n 0, 1) := by decide +kernel
theorem dX7_sin_77 : decode cX7_sin 77 = .ok (.getfield 19, 3) := by decide +kernel
theorem dX7_sin_80 : decode cX7_sin 80 = .ok (.invokevirtual 87, 3) := by decide +kernel
theorem dX7_sin_83 : decode cX7_sin 83 = .ok (.iconst 1, 1) := by decide +kernel
theorem dX7_sin_84 : decode cX7_sin 84 = .ok (.isub, 1) := by decide +kernel
theorem dX7_sin_85 : decode cX7_sin 85 = .ok (.ireturn, 1) := by decide +kernel
theorem dX7_harden_0 : decode cX7_harden 0 = .ok (.aload_n 0, 1) := by decide +kernel
theorem dX7_harden_1 : decode cX7_harden 1 = .ok (.getfield 19, 3) := by decide +kernel
theorem dX7_harden_4 : decode cX7_harden 4 = .ok (.iload_n 1, 1) := by decide +kernel
theorem dX7_harden_5 : decode cX7_harden 5 = .ok (.invokevirtual 90, 3) := by decide +kernel
theorem dX7_harden_8 : decode cX7_harden 8 = .ok (.ifCond .eq 13, 3) := by decide +kernel
theorem dX7_harden_11 : decode cX7_harden 11 = .ok (.iload_n 2, 1) := by decide +kernel
theorem dX7_harden_12 : decode cX7_harden 12 = .ok (.ifCond .lt 9, 3) := by decide +kernel
theorem dX7_harden_15 : decode cX7_harden 15 = .ok (.iload_n 2, 1) := by decide +kernel
theorem dX7_harden_16 : decode cX7_harden 16 = .ok (.bipush 9, 2) := by decide +kernel
theorem dX7_harden_18 : decode cX7_harden 18 = .ok (.if_icmp .le 5, 3) := by decide +kernel
theorem dX7_harden_21 : decode cX7_harden 21 = .ok (.iconst (-1), 1) := by decide +kernel
theorem dX7_harden_22 : decode cX7_harden 22 = .ok (.ireturn, 1) := by decide +kernel
theorem dX7_harden_23 : decode cX7_harden 23 = .ok (.aload_n 0, 1) := by decide +kernel
theorem dX7_harden_24 : decode cX7_harden 24 = .ok (.iload_n 1, 1) := by decide +kernel
theorem dX7_harden_25 : decode cX7_harden 25 = .ok (.iconst 2, 1) := by decide +kernel
theorem dX7_harden_26 : decode cX7_harden 26 = .ok (.iload_n 2, 1) := by decide +kernel
theorem dX7_harden_27 : decode cX7_harden 27 = .ok (.invokevirtual 127, 3) := by decide +kernel
theorem dX7_harden_30 : decode cX7_harden 30 = .ok (.ireturn, 1) := by decide +kernel
theorem dX7_pass_0 : decode cX7_pass 0 = .ok (.aload_n 0, 1) := by decide +kernel
theorem dX7_pass_1 : decode cX7_pass 1 = .ok (.getfield 19, 3) := by decide +kernel
theorem dX7_pass_4 : decode cX7_pass 4 = .ok (.invokevirtual 135, 3) := by decide +kernel
theorem dX7_pass_7 : decode cX7_pass 7 = .ok (.ifCond .ne 6, 3) := by decide +kernel
theorem dX7_pass_10 : decode cX7_pass 10 = .ok (.bipush (-2), 2) := by decide +kernel
theorem dX7_pass_12 : decode cX7_pass 12 = .ok (.ireturn, 1) := by decide +kernel
theorem dX7_pass_13 : decode cX7_pass 13 = .ok (.aload_n 0, 1) := by decide +kernel
theorem dX7_pass_14 : decode cX7_pass 14 = .ok (.getfield 19, 3) := by decide +kernel
theorem dX7_pass_17 : decode cX7_pass 17 = .ok (.invokevirtual 118, 3) := by decide +kernel
theorem dX7_pass_20 : decode cX7_pass 20 = .ok (.sipush 9999, 3) := by decide +kernel
theorem dX7_pass_23 : decode cX7_pass 23 = .ok (.if_icmp .lt 6, 3) := by decide +kernel
theorem dX7_pass_26 : decode cX7_pass 26 = .ok (.bipush (-3), 2) := by decide +kernel
theorem dX7_pass_28 : decode cX7_pass 28 = .ok (.ireturn, 1) := by decide +kernel
theorem dX7_pass_29 : decode cX7_pass 29 = .ok (.aload_n 0, 1) := by decide +kernel
theorem dX7_pass_30 : decode cX7_pass 30 = .ok (.getfield 29, 3) := by decide +kernel
theorem dX7_pass_33 : decode cX7_pass 33 = .ok (.aload_n 0, 1) := by decide +kernel
theorem dX7_pass_34 : decode cX7_pass 34 = .ok (.getfield 19, 3) := by decide +kernel
theorem dX7_pass_37 : decode cX7_pass 37 = .ok (.invokevirtual 121, 3) := by decide +kernel
theorem dX7_pass_40 : decode cX7_pass 40 = .ok (.aload_n 0, 1) := by decide +kernel
theorem dX7_pass_41 : decode cX7_pass 41 = .ok (.getfield 19, 3) := by decide +kernel
theorem dX7_pass_44 : decode cX7_pass 44 = .ok (.invokevirtual 139, 3) := by decide +kernel
theorem dX7_pass_47 : decode cX7_pass 47 = .ok (.aload_n 0, 1) := by decide +kernel
theorem dX7_pass_48 : decode cX7_pass 48 = .ok (.getfield 19, 3) := by decide +kernel
theorem dX7_pass_51 : decode cX7_pass 51 = .ok (.invokevirtual 118, 3) := by decide +kernel
theorem dX7_pass_54 : decode cX7_pass 54 = .ok (.ireturn, 1) := by decide +kernel
theorem dX7_undo_0 : decode cX7_undo 0 = .ok (.aload_n 0, 1) := by decide +kernel
theorem dX7_undo_1 : decode cX7_undo 1 = .ok (.getfield 29, 3) := by decide +kernel
theorem dX7_undo_4 : decode cX7_undo 4 = .ok (.aload_n 0, 1) := by decide +kernel
theorem dX7_undo_5 : decode cX7_undo 5 = .ok (.getfield 19, 3) := by decide +kernel
theorem dX7_undo_8 : decode cX7_undo 8 = .ok (.invokevirtual 142, 3) := by decide +kernel
theorem dX7_undo_11 : decode cX7_undo 11 = .ok (.ifCond .eq 13, 3) := by decide +kernel
theorem dX7_undo_14 : decode cX7_undo 14 = .ok (.aload_n 0, 1) := by decide +kernel
theorem dX7_undo_15 : decode cX7_undo 15 = .ok (.getfield 29, 3) := by decide +kernel
theorem dX7_undo_18 : decode cX7_undo 18 = .ok (.invokevirtual 146, 3) := by decide +kernel
theorem dX7_undo_21 : decode cX7_undo 21 = .ok (.goto 5, 3) := by decide +kernel
theorem dX7_undo_24 : decode cX7_undo 24 = .ok (.bipush (-4), 2) := by decide +kernel
theorem dX7_undo_26 : decode cX7_undo 26 = .ok (.ireturn, 1) := by decide +kernel
theorem dX7_image_0 : decode cX7_image 0 = .ok (.aload_n 0, 1) := by decide +kernel
theorem dX7_image_1 : decode cX7_image 1 = .ok (.iload_n 1, 1) := by decide +kernel
theorem dX7_image_2 : decode cX7_image 2 = .ok (.invokevirtual 149, 3) := by decide +kernel
theorem dX7_image_5 : decode cX7_image 5 = .ok (.astore_n 2, 1) := by decide +kernel
theorem dX7_image_6 : decode cX7_image 6 = .ok (.aload_n 2, 1) := by decide +kernel
theorem dX7_image_7 : decode cX7_image 7 = .ok (.ifnonnull 5, 3) := by decide +kernel
theorem dX7_image_10 : decode cX7_image 10 = .ok (.iconst (-1), 1) := by decide +kernel
theorem dX7_image_11 : decode cX7_image 11 = .ok (.ireturn, 1) := by decide +kernel
theorem dX7_image_12 : decode cX7_image 12 = .ok (.aload_n 0, 1) := by decide +kernel
theorem dX7_image_13 : decode cX7_image 13 = .ok (.getfield 19, 3) := by decide +kernel
theorem dX7_image_16 : decode cX7_image 16 = .ok (.invokevirtual 135, 3) := by decide +kernel
theorem dX7_image_19 : decode cX7_image 19 = .ok (.ifCond .ne 6, 3) := by decide +kernel
theorem dX7_image_22 : decode cX7_image 22 = .ok (.bipush (-2), 2) := by decide +kernel
theorem dX7_image_24 : decode cX7_image 24 = .ok (.ireturn, 1) := by decide +kernel
theorem dX7_image_25 : decode cX7_image 25 = .ok (.aload_n 2, 1) := by decide +kernel
theorem dX7_image_26 : decode cX7_image 26 = .ok (.aload_n 0, 1) := by decide +kernel
theorem dX7_image_27 : decode cX7_image 27 = .ok (.getfield 19, 3) := by decide +kernel
theorem dX7_image_30 : decode cX7_image 30 = .ok (.invokevirtual 80, 3) := by decide +kernel
theorem dX7_image_33 : decode cX7_image 33 = .ok (.aload_n 0, 1) := by decide +kernel
theorem dX7_image_34 : decode cX7_image 34 = .ok (.getfield 19, 3) := by decide +kernel
theorem dX7_image_37 : decode cX7_image 37 = .ok (.invokevirtual 118, 3) := by decide +kernel
theorem dX7_image_40 : decode cX7_image 40 = .ok (.ireturn, 1) := by decide +kernel
theorem dX7_restore_0 : decode cX7_restore 0 = .ok (.aload_n 0, 1) := by decide +kernel
theorem dX7_restore_1 : decode cX7_restore 1 = .ok (.iload_n 1, 1) := by decide +kernel
theorem dX7_restore_2 : decode cX7_restore 2 = .ok (.invokevirtual 149, 3) := by decide +kernel
theorem dX7_restore_5 : decode cX7_restore 5 = .ok (.astore_n 2, 1) := by decide +kernel
theorem dX7_restore_6 : decode cX7_restore 6 = .ok (.aload_n 2, 1) := by decide +kernel
theorem dX7_restore_7 : decode cX7_restore 7 = .ok (.ifnonnull 5, 3) := by decide +kernel
theorem dX7_restore_10 : decode cX7_restore 10 = .ok (.iconst (-1), 1) := by decide +kernel
theorem dX7_restore_11 : decode cX7_restore 11 = .ok (.ireturn, 1) := by decide +kernel
theorem dX7_restore_12 : decode cX7_restore 12 = .ok (.aload_n 2, 1) := by decide +kernel
theorem dX7_restore_13 : decode cX7_restore 13 = .ok (.invokevirtual 135, 3) := by decide +kernel
theorem dX7_restore_16 : decode cX7_restore 16 = .ok (.ifCond .ne 6, 3) := by decide +kernel
theorem dX7_restore_19 : decode cX7_restore 19 = .ok (.bipush (-2), 2) := by decide +kernel
theorem dX7_restore_21 : decode cX7_restore 21 = .ok (.ireturn, 1) := by decide +kernel
theorem dX7_restore_22 : decode cX7_restore 22 = .ok (.aload_n 0, 1) := by decide +kernel
theorem dX7_restore_23 : decode cX7_restore 23 = .ok (.getfield 19, 3) := by decide +kernel
theorem dX7_restore_26 : decode cX7_restore 26 = .ok (.aload_n 2, 1) := by decide +kernel
theorem dX7_restore_27 : decode cX7_restore 27 = .ok (.invokevirtual 80, 3) := by decide +kernel
theorem dX7_restore_30 : decode cX7_restore 30 = .ok (.aload_n 0, 1) := by decide +kernel
theorem dX7_restore_31 : decode cX7_restore 31 = .ok (.getfield 29, 3) := by decide +kernel
theorem dX7_restore_34 : decode cX7_restore 34 = .ok (.invokevirtual 84, 3) := by decide +kernel
theorem dX7_restore_37 : decode cX7_restore 37 = .ok (.aload_n 0, 1) := by decide +kernel
theorem dX7_restore_38 : decode cX7_restore 38 = .ok (.getfield 19, 3) := by decide +kernel
theorem dX7_restore_41 : decode cX7_restore 41 = .ok (.invokevirtual 118, 3) := by decide +kernel
theorem dX7_restore_44 : decode cX7_restore 44 = .ok (.ireturn, 1) := by decide +kernel
theorem dX7_said_0 : decode cX7_said 0 = .ok (.aload_n 0, 1) := by decide +kernel
theorem dX7_said_1 : decode cX7_said 1 = .ok (.getfield 19, 3) := by decide +kernel
theorem dX7_said_4 : decode cX7_said 4 = .ok (.iload_n 1, 1) := by decide +kernel
theorem dX7_said_5 : decode cX7_said 5 = .ok (.invokevirtual 105, 3) := by decide +kernel
theorem dX7_said_8 : decode cX7_said 8 = .ok (.ifCond .eq 14, 3) := by decide +kernel
theorem dX7_said_11 : decode cX7_said 11 = .ok (.aload_n 0, 1) := by decide +kernel
theorem dX7_said_12 : decode cX7_said 12 = .ok (.getfield 19, 3) := by decide +kernel
theorem dX7_said_15 : decode cX7_said 15 = .ok (.iload_n 2, 1) := by decide +kernel
theorem dX7_said_16 : decode cX7_said 16 = .ok (.invokevirtual 90, 3) := by decide +kernel
theorem dX7_said_19 : decode cX7_said 19 = .ok (.ifCond .ne 5, 3) := by decide +kernel
theorem dX7_said_22 : decode cX7_said 22 = .ok (.iconst (-1), 1) := by decide +kernel
theorem dX7_said_23 : decode cX7_said 23 = .ok (.ireturn, 1) := by decide +kernel
theorem dX7_said_24 : decode cX7_said 24 = .ok (.aload_n 0, 1) := by decide +kernel
theorem dX7_said_25 : decode cX7_said 25 = .ok (.getfield 19, 3) := by decide +kernel
theorem dX7_said_28 : decode cX7_said 28 = .ok (.iload_n 1, 1) := by decide +kernel
theorem dX7_said_29 : decode cX7_said 29 = .ok (.iload_n 2, 1) := by decide +kernel
theorem dX7_said_30 : decode cX7_said 30 = .ok (.invokevirtual 153, 3) := by decide +kernel
theorem dX7_said_33 : decode cX7_said 33 = .ok (.ireturn, 1) := by decide +kernel
theorem dX7_comes_0 : decode cX7_comes 0 = .ok (.aload_n 0, 1) := by decide +kernel
theorem dX7_comes_1 : decode cX7_comes 1 = .ok (.iload_n 1, 1) := by decide +kernel
theorem dX7_comes_2 : decode cX7_comes 2 = .ok (.iload_n 2, 1) := by decide +kernel
theorem dX7_comes_3 : decode cX7_comes 3 = .ok (.invokevirtual 115, 3) := by decide +kernel
theorem dX7_comes_6 : decode cX7_comes 6 = .ok (.istore_n 3, 1) := by decide +kernel
theorem dX7_comes_7 : decode cX7_comes 7 = .ok (.iload_n 3, 1) := by decide +kernel
theorem dX7_comes_8 : decode cX7_comes 8 = .ok (.ifCond .eq 7, 3) := by decide +kernel
theorem dX7_comes_11 : decode cX7_comes 11 = .ok (.iload_n 3, 1) := by decide +kernel
theorem dX7_comes_12 : decode cX7_comes 12 = .ok (.goto 12, 3) := by decide +kernel
theorem dX7_comes_15 : decode cX7_comes 15 = .ok (.aload_n 0, 1) := by decide +kernel
theorem dX7_comes_16 : decode cX7_comes 16 = .ok (.getfield 19, 3) := by decide +kernel
theorem dX7_comes_19 : decode cX7_comes 19 = .ok (.iload_n 1, 1) := by decide +kernel
theorem dX7_comes_20 : decode cX7_comes 20 = .ok (.iload_n 2, 1) := by decide +kernel
theorem dX7_comes_21 : decode cX7_comes 21 = .ok (.invokevirtual 156, 3) := by decide +kernel
theorem dX7_comes_24 : decode cX7_comes 24 = .ok (.ireturn, 1) := by decide +kernel
theorem dX7_least_0 : decode cX7_least 0 = .ok (.aload_n 0, 1) := by decide +kernel
theorem dX7_least_1 : decode cX7_least 1 = .ok (.iload_n 1, 1) := by decide +kernel
theorem dX7_least_2 : decode cX7_least 2 = .ok (.iload_n 2, 1) := by decide +kernel
theorem dX7_least_3 : decode cX7_least 3 = .ok (.invokevirtual 115, 3) := by decide +kernel
theorem dX7_least_6 : decode cX7_least 6 = .ok (.istore_n 3, 1) := by decide +kernel
theorem dX7_least_7 : decode cX7_least 7 = .ok (.iload_n 3, 1) := by decide +kernel
theorem dX7_least_8 : decode cX7_least 8 = .ok (.ifCond .eq 7, 3) := by decide +kernel
theorem dX7_least_11 : decode cX7_least 11 = .ok (.iload_n 3, 1) := by decide +kernel
theorem dX7_least_12 : decode cX7_least 12 = .ok (.goto 12, 3) := by decide +kernel
theorem dX7_least_15 : decode cX7_least 15 = .ok (.aload_n 0, 1) := by decide +kernel
theorem dX7_least_16 : decode cX7_least 16 = .ok (.getfield 19, 3) := by decide +kernel
theorem dX7_least_19 : decode cX7_least 19 = .ok (.iload_n 1, 1) := by decide +kernel
theorem dX7_least_20 : decode cX7_least 20 = .ok (.iload_n 2, 1) := by decide +kernel
theorem dX7_least_21 : decode cX7_least 21 = .ok (.invokevirtual 159, 3) := by decide +kernel
theorem dX7_least_24 : decode cX7_least 24 = .ok (.ireturn, 1) := by decide +kernel
theorem dX7_match_0 : decode cX7_match 0 = .ok (.iload_n 1, 1) := by decide +kernel
theorem dX7_match_1 : decode cX7_match 1 = .ok (.iconst (-1), 1) := by decide +kernel
theorem dX7_match_2 : decode cX7_match 2 = .ok (.if_icmp .eq 16, 3) := by decide +kernel
theorem dX7_match_5 : decode cX7_match 5 = .ok (.aload_n 0, 1) := by decide +kernel
theorem dX7_match_6 : decode cX7_match 6 = .ok (.getfield 19, 3) := by decide +kernel
theorem dX7_match_9 : decode cX7_match 9 = .ok (.iload_n 1, 1) := by decide +kernel
theorem dX7_match_10 : decode cX7_match 10 = .ok (.invokevirtual 105, 3) := by decide +kernel
theorem dX7_match_13 : decode cX7_match 13 = .ok (.ifCond .ne 5, 3) := by decide +kernel
theorem dX7_match_16 : decode cX7_match 16 = .ok (.iconst (-1), 1) := by decide +kernel
theorem dX7_match_17 : decode cX7_match 17 = .ok (.ireturn, 1) := by decide +kernel
theorem dX7_match_18 : decode cX7_match 18 = .ok (.aload_n 0, 1) := by decide +kernel
theorem dX7_match_19 : decode cX7_match 19 = .ok (.getfield 19, 3) := by decide +kernel
theorem dX7_match_22 : decode cX7_match 22 = .ok (.invokevirtual 135, 3) := by decide +kernel
theorem dX7_match_25 : decode cX7_match 25 = .ok (.ifCond .ne 6, 3) := by decide +kernel
theorem dX7_match_28 : decode cX7_match 28 = .ok (.bipush (-2), 2) := by decide +kernel
theorem dX7_match_30 : decode cX7_match 30 = .ok (.ireturn, 1) := by decide +kernel
theorem dX7_match_31 : decode cX7_match 31 = .ok (.aload_n 0, 1) := by decide +kernel
theorem dX7_match_32 : decode cX7_match 32 = .ok (.getfield 47, 3) := by decide +kernel
theorem dX7_match_35 : decode cX7_match 35 = .ok (.aload_n 0, 1) := by decide +kernel
theorem dX7_match_36 : decode cX7_match 36 = .ok (.getfield 19, 3) := by decide +kernel
theorem dX7_match_39 : decode cX7_match 39 = .ok (.invokevirtual 162, 3) := by decide +kernel
theorem dX7_match_42 : decode cX7_match 42 = .ok (.iload_n 1, 1) := by decide +kernel
theorem dX7_match_43 : decode cX7_match 43 = .ok (.iconst (-1), 1) := by decide +kernel
theorem dX7_match_44 : decode cX7_match 44 = .ok (.if_icmp .ne 13, 3) := by decide +kernel
theorem dX7_match_47 : decode cX7_match 47 = .ok (.aload_n 0, 1) := by decide +kernel
theorem dX7_match_48 : decode cX7_match 48 = .ok (.getfield 47, 3) := by decide +kernel
theorem dX7_match_51 : decode cX7_match 51 = .ok (.invokevirtual 165, 3) := by decide +kernel
theorem dX7_match_54 : decode cX7_match 54 = .ok (.goto 11, 3) := by decide +kernel
theorem dX7_match_57 : decode cX7_match 57 = .ok (.aload_n 0, 1) := by decide +kernel
theorem dX7_match_58 : decode cX7_match 58 = .ok (.getfield 47, 3) := by decide +kernel
theorem dX7_match_61 : decode cX7_match 61 = .ok (.iload_n 1, 1) := by decide +kernel
theorem dX7_match_62 : decode cX7_match 62 = .ok (.invokevirtual 168, 3) := by decide +kernel
theorem dX7_match_65 : decode cX7_match 65 = .ok (.ireturn, 1) := by decide +kernel
theorem dX7_chain_0 : decode cX7_chain 0 = .ok (.aload_n 0, 1) := by decide +kernel
theorem dX7_chain_1 : decode cX7_chain 1 = .ok (.getfield 19, 3) := by decide +kernel
theorem dX7_chain_4 : decode cX7_chain 4 = .ok (.iload_n 1, 1) := by decide +kernel
theorem dX7_chain_5 : decode cX7_chain 5 = .ok (.invokevirtual 90, 3) := by decide +kernel
theorem dX7_chain_8 : decode cX7_chain 8 = .ok (.ifCond .eq 12, 3) := by decide +kernel
theorem dX7_chain_11 : decode cX7_chain 11 = .ok (.iload_n 2, 1) := by decide +kernel
theorem dX7_chain_12 : decode cX7_chain 12 = .ok (.ifCond .lt 8, 3) := by decide +kernel
theorem dX7_chain_15 : decode cX7_chain 15 = .ok (.iload_n 2, 1) := by decide +kernel
theorem dX7_chain_16 : decode cX7_chain 16 = .ok (.iconst 1, 1) := by decide +kernel
theorem dX7_chain_17 : decode cX7_chain 17 = .ok (.if_icmp .le 5, 3) := by decide +kernel
theorem dX7_chain_20 : decode cX7_chain 20 = .ok (.iconst (-1), 1) := by decide +kernel
theorem dX7_chain_21 : decode cX7_chain 21 = .ok (.ireturn, 1) := by decide +kernel
theorem dX7_chain_22 : decode cX7_chain 22 = .ok (.iload_n 2, 1) := by decide +kernel
theorem dX7_chain_23 : decode cX7_chain 23 = .ok (.ifCond .ne 14, 3) := by decide +kernel
theorem dX7_chain_26 : decode cX7_chain 26 = .ok (.aload_n 0, 1) := by decide +kernel
theorem dX7_chain_27 : decode cX7_chain 27 = .ok (.getfield 19, 3) := by decide +kernel
theorem dX7_chain_30 : decode cX7_chain 30 = .ok (.iload_n 1, 1) := by decide +kernel
theorem dX7_chain_31 : decode cX7_chain 31 = .ok (.invokevirtual 171, 3) := by decide +kernel
theorem dX7_chain_34 : decode cX7_chain 34 = .ok (.goto 11, 3) := by decide +kernel
theorem dX7_chain_37 : decode cX7_chain 37 = .ok (.aload_n 0, 1) := by decide +kernel
theorem dX7_chain_38 : decode cX7_chain 38 = .ok (.getfield 19, 3) := by decide +kernel
theorem dX7_chain_41 : decode cX7_chain 41 = .ok (.iload_n 1, 1) := by decide +kernel
theorem dX7_chain_42 : decode cX7_chain 42 = .ok (.invokevirtual 174, 3) := by decide +kernel
theorem dX7_chain_45 : decode cX7_chain 45 = .ok (.ireturn, 1) := by decide +kernel
theorem dX7_reach_0 : decode cX7_reach 0 = .ok (.aload_n 0, 1) := by decide +kernel
theorem dX7_reach_1 : decode cX7_reach 1 = .ok (.getfield 19, 3) := by decide +kernel
theorem dX7_reach_4 : decode cX7_reach 4 = .ok (.iload_n 1, 1) := by decide +kernel
theorem dX7_reach_5 : decode cX7_reach 5 = .ok (.invokevirtual 90, 3) := by decide +kernel
theorem dX7_reach_8 : decode cX7_reach 8 = .ok (.ifCond .eq 13, 3) := by decide +kernel
theorem dX7_reach_11 : decode cX7_reach 11 = .ok (.iload_n 2, 1) := by decide +kernel
theorem dX7_reach_12 : decode cX7_reach 12 = .ok (.ifCond .lt 9, 3) := by decide +kernel
theorem dX7_reach_15 : decode cX7_reach 15 = .ok (.iload_n 2, 1) := by decide +kernel
theorem dX7_reach_16 : decode cX7_reach 16 = .ok (.bipush 9, 2) := by decide +kernel
theorem dX7_reach_18 : decode cX7_reach 18 = .ok (.if_icmp .le 5, 3) := by decide +kernel
theorem dX7_reach_21 : decode cX7_reach 21 = .ok (.iconst (-1), 1) := by decide +kernel
theorem dX7_reach_22 : decode cX7_reach 22 = .ok (.ireturn, 1) := by decide +kernel
theorem dX7_reach_23 : decode cX7_reach 23 = .ok (.aload_n 0, 1) := by decide +kernel
theorem dX7_reach_24 : decode cX7_reach 24 = .ok (.getfield 19, 3) := by decide +kernel
theorem dX7_reach_27 : decode cX7_reach 27 = .ok (.iload_n 1, 1) := by decide +kernel
theorem dX7_reach_28 : decode cX7_reach 28 = .ok (.iconst 4, 1) := by decide +kernel
theorem dX7_reach_29 : decode cX7_reach 29 = .ok (.invokevirtual 93, 3) := by decide +kernel
theorem dX7_reach_32 : decode cX7_reach 32 = .ok (.iload_n 2, 1) := by decide +kernel
theorem dX7_reach_33 : decode cX7_reach 33 = .ok (.aload_n 0, 1) := by decide +kernel
theorem dX7_reach_34 : decode cX7_reach 34 = .ok (.getfield 19, 3) := by decide +kernel
theorem dX7_reach_37 : decode cX7_reach 37 = .ok (.invokevirtual 118, 3) := by decide +kernel
theorem dX7_reach_40 : decode cX7_reach 40 = .ok (.invokestatic 177, 3) := by decide +kernel
theorem dX7_reach_43 : decode cX7_reach 43 = .ok (.ireturn, 1) := by decide +kernel
theorem dX7_plan_0 : decode cX7_plan 0 = .ok (.iload_n 1, 1) := by decide +kernel
theorem dX7_plan_1 : decode cX7_plan 1 = .ok (.ifCond .lt 13, 3) := by decide +kernel
theorem dX7_plan_4 : decode cX7_plan 4 = .ok (.iload_n 1, 1) := by decide +kernel
theorem dX7_plan_5 : decode cX7_plan 5 = .ok (.iconst 3, 1) := by decide +kernel
theorem dX7_plan_6 : decode cX7_plan 6 = .ok (.if_icmp .gt 8, 3) := by decide +kernel
theorem dX7_plan_9 : decode cX7_plan 9 = .ok (.iload_n 2, 1) := by decide +kernel
theorem dX7_plan_10 : decode cX7_plan 10 = .ok (.iconst (-1), 1) := by decide +kernel
theorem dX7_plan_11 : decode cX7_plan 11 = .ok (.if_icmp .ge 5, 3) := by decide +kernel
theorem dX7_plan_14 : decode cX7_plan 14 = .ok (.iconst (-1), 1) := by decide +kernel
theorem dX7_plan_15 : decode cX7_plan 15 = .ok (.ireturn, 1) := by decide +kernel
theorem dX7_plan_16 : decode cX7_plan 16 = .ok (.aload_n 0, 1) := by decide +kernel
theorem dX7_plan_17 : decode cX7_plan 17 = .ok (.getfield 19, 3) := by decide +kernel
theorem dX7_plan_20 : decode cX7_plan 20 = .ok (.invokevirtual 135, 3) := by decide +kernel
theorem dX7_plan_23 : decode cX7_plan 23 = .ok (.ifCond .ne 6, 3) := by decide +kernel
theorem dX7_plan_26 : decode cX7_plan 26 = .ok (.bipush (-2), 2) := by decide +kernel
theorem dX7_plan_28 : decode cX7_plan 28 = .ok (.ireturn, 1) := by decide +kernel
theorem dX7_plan_29 : decode cX7_plan 29 = .ok (.iload_n 2, 1) := by decide +kernel
theorem dX7_plan_30 : decode cX7_plan 30 = .ok (.iload_n 1, 1) := by decide +kernel
theorem dX7_plan_31 : decode cX7_plan 31 = .ok (.if_icmp .lt 6, 3) := by decide +kernel
theorem dX7_plan_34 : decode cX7_plan 34 = .ok (.bipush (-4), 2) := by decide +kernel
theorem dX7_plan_36 : decode cX7_plan 36 = .ok (.ireturn, 1) := by decide +kernel
theorem dX7_plan_37 : decode cX7_plan 37 = .ok (.aload_n 0, 1) := by decide +kernel
theorem dX7_plan_38 : decode cX7_plan 38 = .ok (.getfield 54, 3) := by decide +kernel
theorem dX7_plan_41 : decode cX7_plan 41 = .ok (.aload_n 0, 1) := by decide +kernel
theorem dX7_plan_42 : decode cX7_plan 42 = .ok (.getfield 19, 3) := by decide +kernel
theorem dX7_plan_45 : decode cX7_plan 45 = .ok (.iconst 0, 1) := by decide +kernel
theorem dX7_plan_46 : decode cX7_plan 46 = .ok (.iload_n 1, 1) := by decide +kernel
theorem dX7_plan_47 : decode cX7_plan 47 = .ok (.invokevirtual 180, 3) := by decide +kernel
theorem dX7_plan_50 : decode cX7_plan 50 = .ok (.istore_n 3, 1) := by decide +kernel
theorem dX7_plan_51 : decode cX7_plan 51 = .ok (.iload_n 2, 1) := by decide +kernel
theorem dX7_plan_52 : decode cX7_plan 52 = .ok (.iconst (-1), 1) := by decide +kernel
theorem dX7_plan_53 : decode cX7_plan 53 = .ok (.if_icmp .ne 7, 3) := by decide +kernel
theorem dX7_plan_56 : decode cX7_plan 56 = .ok (.iload_n 3, 1) := by decide +kernel
theorem dX7_plan_57 : decode cX7_plan 57 = .ok (.goto 11, 3) := by decide +kernel
theorem dX7_plan_60 : decode cX7_plan 60 = .ok (.aload_n 0, 1) := by decide +kernel
theorem dX7_plan_61 : decode cX7_plan 61 = .ok (.getfield 54, 3) := by decide +kernel
theorem dX7_plan_64 : decode cX7_plan 64 = .ok (.iload_n 2, 1) := by decide +kernel
theorem dX7_plan_65 : decode cX7_plan 65 = .ok (.invokevirtual 184, 3) := by decide +kernel
theorem dX7_plan_68 : decode cX7_plan 68 = .ok (.ireturn, 1) := by decide +kernel
theorem dX7_gusts_0 : decode cX7_gusts 0 = .ok (.iload_n 3, 1) := by decide +kernel
theorem dX7_gusts_1 : decode cX7_gusts 1 = .ok (.ifCond .lt 20, 3) := by decide +kernel
theorem dX7_gusts_4 : decode cX7_gusts 4 = .ok (.iload_n 3, 1) := by decide +kernel
theorem dX7_gusts_5 : decode cX7_gusts 5 = .ok (.bipush 10, 2) := by decide +kernel
theorem dX7_gusts_7 : decode cX7_gusts 7 = .ok (.if_icmp .gt 14, 3) := by decide +kernel
theorem dX7_gusts_10 : decode cX7_gusts 10 = .ok (.iload 4, 2) := by decide +kernel
theorem dX7_gusts_12 : decode cX7_gusts 12 = .ok (.ifCond .lt 9, 3) := by decide +kernel
theorem dX7_gusts_15 : decode cX7_gusts 15 = .ok (.iload 4, 2) := by decide +kernel
theorem dX7_gusts_17 : decode cX7_gusts 17 = .ok (.iconst 1, 1) := by decide +kernel
theorem dX7_gusts_18 : decode cX7_gusts 18 = .ok (.if_icmp .le 5, 3) := by decide +kernel
theorem dX7_gusts_21 : decode cX7_gusts 21 = .ok (.iconst (-1), 1) := by decide +kernel
theorem dX7_gusts_22 : decode cX7_gusts 22 = .ok (.ireturn, 1) := by decide +kernel
theorem dX7_gusts_23 : decode cX7_gusts 23 = .ok (.aload_n 0, 1) := by decide +kernel
theorem dX7_gusts_24 : decode cX7_gusts 24 = .ok (.iload_n 1, 1) := by decide +kernel
theorem dX7_gusts_25 : decode cX7_gusts 25 = .ok (.iload_n 2, 1) := by decide +kernel
theorem dX7_gusts_26 : decode cX7_gusts 26 = .ok (.invokevirtual 115, 3) := by decide +kernel
theorem dX7_gusts_29 : decode cX7_gusts 29 = .ok (.istore 5, 2) := by decide +kernel
theorem dX7_gusts_31 : decode cX7_gusts 31 = .ok (.iload 5, 2) := by decide +kernel
theorem dX7_gusts_33 : decode cX7_gusts 33 = .ok (.ifCond .eq 6, 3) := by decide +kernel
theorem dX7_gusts_36 : decode cX7_gusts 36 = .ok (.iload 5, 2) := by decide +kernel
theorem dX7_gusts_38 : decode cX7_gusts 38 = .ok (.ireturn, 1) := by decide +kernel
theorem dX7_gusts_39 : decode cX7_gusts 39 = .ok (.aload_n 0, 1) := by decide +kernel
theorem dX7_gusts_40 : decode cX7_gusts 40 = .ok (.getfield 19, 3) := by decide +kernel
theorem dX7_gusts_43 : decode cX7_gusts 43 = .ok (.iload_n 1, 1) := by decide +kernel
theorem dX7_gusts_44 : decode cX7_gusts 44 = .ok (.iload_n 2, 1) := by decide +kernel
theorem dX7_gusts_45 : decode cX7_gusts 45 = .ok (.invokevirtual 153, 3) := by decide +kernel
theorem dX7_gusts_48 : decode cX7_gusts 48 = .ok (.aload_n 0, 1) := by decide +kernel
theorem dX7_gusts_49 : decode cX7_gusts 49 = .ok (.getfield 19, 3) := by decide +kernel
theorem dX7_gusts_52 : decode cX7_gusts 52 = .ok (.iload_n 1, 1) := by decide +kernel
theorem dX7_gusts_53 : decode cX7_gusts 53 = .ok (.invokevirtual 108, 3) := by decide +kernel
theorem dX7_gusts_56 : decode cX7_gusts 56 = .ok (.isub, 1) := by decide +kernel
theorem dX7_gusts_57 : decode cX7_gusts 57 = .ok (.istore 6, 2) := by decide +kernel
theorem dX7_gusts_59 : decode cX7_gusts 59 = .ok (.iload_n 3, 1) := by decide +kernel
theorem dX7_gusts_60 : decode cX7_gusts 60 = .ok (.iload 6, 2) := by decide +kernel
theorem dX7_gusts_62 : decode cX7_gusts 62 = .ok (.invokestatic 187, 3) := by decide +kernel
theorem dX7_gusts_65 : decode cX7_gusts 65 = .ok (.istore 7, 2) := by decide +kernel
theorem dX7_gusts_67 : decode cX7_gusts 67 = .ok (.sipush 1000, 3) := by decide +kernel
theorem dX7_gusts_70 : decode cX7_gusts 70 = .ok (.iload 7, 2) := by decide +kernel
theorem dX7_gusts_72 : decode cX7_gusts 72 = .ok (.invokestatic 190, 3) := by decide +kernel
theorem dX7_gusts_75 : decode cX7_gusts 75 = .ok (.istore 8, 2) := by decide +kernel
theorem dX7_gusts_77 : decode cX7_gusts 77 = .ok (.iload 4, 2) := by decide +kernel
theorem dX7_gusts_79 : decode cX7_gusts 79 = .ok (.ifCond .ne 8, 3) := by decide +kernel
theorem dX7_gusts_82 : decode cX7_gusts 82 = .ok (.iload 7, 2) := by decide +kernel
theorem dX7_gusts_84 : decode cX7_gusts 84 = .ok (.goto 6, 3) := by decide +kernel
theorem dX7_gusts_87 : decode cX7_gusts 87 = .ok (.sipush 1000, 3) := by decide +kernel
theorem dX7_gusts_90 : decode cX7_gusts 90 = .ok (.iload 8, 2) := by decide +kernel
theorem dX7_gusts_92 : decode cX7_gusts 92 = .ok (.idiv, 1) := by decide +kernel
theorem dX7_gusts_93 : decode cX7_gusts 93 = .ok (.ireturn, 1) := by decide +kernel
theorem dX7_decades_0 : decode cX7_decades 0 = .ok (.iload_n 1, 1) := by decide +kernel
theorem dX7_decades_1 : decode cX7_decades 1 = .ok (.ifCond .lt 29, 3) := by decide +kernel
theorem dX7_decades_4 : decode cX7_decades 4 = .ok (.iload_n 1, 1) := by decide +kernel
theorem dX7_decades_5 : decode cX7_decades 5 = .ok (.bipush 60, 2) := by decide +kernel
theorem dX7_decades_7 : decode cX7_decades 7 = .ok (.if_icmp .gt 23, 3) := by decide +kernel
theorem dX7_decades_10 : decode cX7_decades 10 = .ok (.iload_n 2, 1) := by decide +kernel
theorem dX7_decades_11 : decode cX7_decades 11 = .ok (.iconst 1, 1) := by decide +kernel
theorem dX7_decades_12 : decode cX7_decades 12 = .ok (.if_icmp .lt 18, 3) := by decide +kernel
theorem dX7_decades_15 : decode cX7_decades 15 = .ok (.iload_n 2, 1) := by decide +kernel
theorem dX7_decades_16 : decode cX7_decades 16 = .ok (.ldc 193, 2) := by decide +kernel
theorem dX7_decades_18 : decode cX7_decades 18 = .ok (.if_icmp .gt 12, 3) := by decide +kernel
theorem dX7_decades_21 : decode cX7_decades 21 = .ok (.iload_n 3, 1) := by decide +kernel
theorem dX7_decades_22 : decode cX7_decades 22 = .ok (.ifCond .lt 8, 3) := by decide +kernel
theorem dX7_decades_25 : decode cX7_decades 25 = .ok (.iload_n 3, 1) := by decide +kernel
theorem dX7_decades_26 : decode cX7_decades 26 = .ok (.iconst 1, 1) := by decide +kernel
theorem dX7_decades_27 : decode cX7_decades 27 = .ok (.if_icmp .le 5, 3) := by decide +kernel
theorem dX7_decades_30 : decode cX7_decades 30 = .ok (.iconst (-1), 1) := by decide +kernel
theorem dX7_decades_31 : decode cX7_decades 31 = .ok (.ireturn, 1) := by decide +kernel
theorem dX7_decades_32 : decode cX7_decades 32 = .ok (.aload_n 0, 1) := by decide +kernel
theorem dX7_decades_33 : decode cX7_decades 33 = .ok (.getfield 19, 3) := by decide +kernel
theorem dX7_decades_36 : decode cX7_decades 36 = .ok (.invokevirtual 135, 3) := by decide +kernel
theorem dX7_decades_39 : decode cX7_decades 39 = .ok (.ifCond .ne 6, 3) := by decide +kernel
theorem dX7_decades_42 : decode cX7_decades 42 = .ok (.bipush (-2), 2) := by decide +kernel
theorem dX7_decades_44 : decode cX7_decades 44 = .ok (.ireturn, 1) := by decide +kernel
theorem dX7_decades_45 : decode cX7_decades 45 = .ok (.aload_n 0, 1) := by decide +kernel
theorem dX7_decades_46 : decode cX7_decades 46 = .ok (.getfield 23, 3) := by decide +kernel
theorem dX7_decades_49 : decode cX7_decades 49 = .ok (.aload_n 0, 1) := by decide +kernel
theorem dX7_decades_50 : decode cX7_decades 50 = .ok (.getfield 19, 3) := by decide +kernel
theorem dX7_decades_53 : decode cX7_decades 53 = .ok (.invokevirtual 80, 3) := by decide +kernel
theorem dX7_decades_56 : decode cX7_decades 56 = .ok (.aload_n 0, 1) := by decide +kernel
theorem dX7_decades_57 : decode cX7_decades 57 = .ok (.getfield 23, 3) := by decide +kernel
theorem dX7_decades_60 : decode cX7_decades 60 = .ok (.iload_n 1, 1) := by decide +kernel
theorem dX7_decades_61 : decode cX7_decades 61 = .ok (.iload_n 2, 1) := by decide +kernel
theorem dX7_decades_62 : decode cX7_decades 62 = .ok (.invokestatic 194, 3) := by decide +kernel
theorem dX7_decades_65 : decode cX7_decades 65 = .ok (.iload_n 3, 1) := by decide +kernel
theorem dX7_decades_66 : decode cX7_decades 66 = .ok (.ifCond .ne 13, 3) := by decide +kernel
theorem dX7_decades_69 : decode cX7_decades 69 = .ok (.aload_n 0, 1) := by decide +kernel
theorem dX7_decades_70 : decode cX7_decades 70 = .ok (.getfield 23, 3) := by decide +kernel
theorem dX7_decades_73 : decode cX7_decades 73 = .ok (.invokevirtual 198, 3) := by decide +kernel
theorem dX7_decades_76 : decode cX7_decades 76 = .ok (.goto 10, 3) := by decide +kernel
theorem dX7_decades_79 : decode cX7_decades 79 = .ok (.aload_n 0, 1) := by decide +kernel
theorem dX7_decades_80 : decode cX7_decades 80 = .ok (.getfield 23, 3) := by decide +kernel
theorem dX7_decades_83 : decode cX7_decades 83 = .ok (.invokevirtual 199, 3) := by decide +kernel
theorem dX7_decades_86 : decode cX7_decades 86 = .ok (.ireturn, 1) := by decide +kernel
theorem dX7_sheet_0 : decode cX7_sheet 0 = .ok (.aload_n 0, 1) := by decide +kernel
theorem dX7_sheet_1 : decode cX7_sheet 1 = .ok (.iload_n 1, 1) := by decide +kernel
theorem dX7_sheet_2 : decode cX7_sheet 2 = .ok (.invokevirtual 202, 3) := by decide +kernel
theorem dX7_sheet_5 : decode cX7_sheet 5 = .ok (.astore 4, 2) := by decide +kernel
theorem dX7_sheet_7 : decode cX7_sheet 7 = .ok (.aload 4, 2) := by decide +kernel
theorem dX7_sheet_9 : decode cX7_sheet 9 = .ok (.ifnull 16, 3) := by decide +kernel
theorem dX7_sheet_12 : decode cX7_sheet 12 = .ok (.iload_n 2, 1) := by decide +kernel
theorem dX7_sheet_13 : decode cX7_sheet 13 = .ok (.invokestatic 206, 3) := by decide +kernel
theorem dX7_sheet_16 : decode cX7_sheet 16 = .ok (.ifCond .eq 9, 3) := by decide +kernel
theorem dX7_sheet_19 : decode cX7_sheet 19 = .ok (.iload_n 3, 1) := by decide +kernel
theorem dX7_sheet_20 : decode cX7_sheet 20 = .ok (.bipush 24, 2) := by decide +kernel
theorem dX7_sheet_22 : decode cX7_sheet 22 = .ok (.if_icmp .le 5, 3) := by decide +kernel
theorem dX7_sheet_25 : decode cX7_sheet 25 = .ok (.iconst (-1), 1) := by decide +kernel
theorem dX7_sheet_26 : decode cX7_sheet 26 = .ok (.ireturn, 1) := by decide +kernel
theorem dX7_sheet_27 : decode cX7_sheet 27 = .ok (.iload_n 3, 1) := by decide +kernel
theorem dX7_sheet_28 : decode cX7_sheet 28 = .ok (.ifCond .ge 6, 3) := by decide +kernel
theorem dX7_sheet_31 : decode cX7_sheet 31 = .ok (.bipush (-14), 2) := by decide +kernel
theorem dX7_sheet_33 : decode cX7_sheet 33 = .ok (.ireturn, 1) := by decide +kernel
theorem dX7_sheet_34 : decode cX7_sheet 34 = .ok (.aload 4, 2) := by decide +kernel
theorem dX7_sheet_36 : decode cX7_sheet 36 = .ok (.iload_n 2, 1) := by decide +kernel
theorem dX7_sheet_37 : decode cX7_sheet 37 = .ok (.iload_n 3, 1) := by decide +kernel
theorem dX7_sheet_38 : decode cX7_sheet 38 = .ok (.invokevirtual 209, 3) := by decide +kernel
theorem dX7_sheet_41 : decode cX7_sheet 41 = .ok (.iload_n 3, 1) := by decide +kernel
theorem dX7_sheet_42 : decode cX7_sheet 42 = .ok (.ireturn, 1) := by decide +kernel
theorem dX7_drop_0 : decode cX7_drop 0 = .ok (.aload_n 0, 1) := by decide +kernel
theorem dX7_drop_1 : decode cX7_drop 1 = .ok (.iload_n 1, 1) := by decide +kernel
theorem dX7_drop_2 : decode cX7_drop 2 = .ok (.invokevirtual 202, 3) := by decide +kernel
theorem dX7_drop_5 : decode cX7_drop 5 = .ok (.astore_n 2, 1) := by decide +kernel
theorem dX7_drop_6 : decode cX7_drop 6 = .ok (.aload_n 2, 1) := by decide +kernel
theorem dX7_drop_7 : decode cX7_drop 7 = .ok (.ifnonnull 5, 3) := by decide +kernel
theorem dX7_drop_10 : decode cX7_drop 10 = .ok (.iconst (-1), 1) := by decide +kernel
theorem dX7_drop_11 : decode cX7_drop 11 = .ok (.ireturn, 1) := by decide +kernel
theorem dX7_drop_12 : decode cX7_drop 12 = .ok (.aload_n 2, 1) := by decide +kernel
theorem dX7_drop_13 : decode cX7_drop 13 = .ok (.invokevirtual 213, 3) := by decide +kernel
theorem dX7_drop_16 : decode cX7_drop 16 = .ok (.ifCond .eq 8, 3) := by decide +kernel
theorem dX7_drop_19 : decode cX7_drop 19 = .ok (.bipush (-11), 2) := by decide +kernel
theorem dX7_drop_21 : decode cX7_drop 21 = .ok (.goto 7, 3) := by decide +kernel
theorem dX7_drop_24 : decode cX7_drop 24 = .ok (.aload_n 2, 1) := by decide +kernel
theorem dX7_drop_25 : decode cX7_drop 25 = .ok (.invokevirtual 216, 3) := by decide +kernel
theorem dX7_drop_28 : decode cX7_drop 28 = .ok (.ireturn, 1) := by decide +kernel
theorem dX7_item_0 : decode cX7_item 0 = .ok (.aload_n 0, 1) := by decide +kernel
theorem dX7_item_1 : decode cX7_item 1 = .ok (.iload_n 1, 1) := by decide +kernel
theorem dX7_item_2 : decode cX7_item 2 = .ok (.invokevirtual 202, 3) := by decide +kernel
theorem dX7_item_5 : decode cX7_item 5 = .ok (.astore 6, 2) := by decide +kernel
theorem dX7_item_7 : decode cX7_item 7 = .ok (.aload 6, 2) := by decide +kernel
theorem dX7_item_9 : decode cX7_item 9 = .ok (.iload_n 2, 1) := by decide +kernel
theorem dX7_item_10 : decode cX7_item 10 = .ok (.invokestatic 218, 3) := by decide +kernel
theorem dX7_item_13 : decode cX7_item 13 = .ok (.istore 7, 2) := by decide +kernel
theorem dX7_item_15 : decode cX7_item 15 = .ok (.iload 7, 2) := by decide +kernel
theorem dX7_item_17 : decode cX7_item 17 = .ok (.ifCond .ne 8, 3) := by decide +kernel
theorem dX7_item_20 : decode cX7_item 20 = .ok (.aload 6, 2) := by decide +kernel
theorem dX7_item_22 : decode cX7_item 22 = .ok (.ifnonnull 7, 3) := by decide +kernel
theorem dX7_item_25 : decode cX7_item 25 = .ok (.iload 7, 2) := by decide +kernel
theorem dX7_item_27 : decode cX7_item 27 = .ok (.i2l, 1) := by decide +kernel
theorem dX7_item_28 : decode cX7_item 28 = .ok (.lreturn, 1) := by decide +kernel
theorem dX7_item_29 : decode cX7_item 29 = .ok (.aload 6, 2) := by decide +kernel
theorem dX7_item_31 : decode cX7_item 31 = .ok (.iload_n 3, 1) := by decide +kernel
theorem dX7_item_32 : decode cX7_item 32 = .ok (.iconst 1, 1) := by decide +kernel
theorem dX7_item_33 : decode cX7_item 33 = .ok (.invokevirtual 222, 3) := by decide +kernel
theorem dX7_item_36 : decode cX7_item 36 = .ok (.ifCond .ne 7, 3) := by decide +kernel
theorem dX7_item_39 : decode cX7_item 39 = .ok (.ldc2_w 225, 3) := by decide +kernel
theorem dX7_item_42 : decode cX7_item 42 = .ok (.lreturn, 1) := by decide +kernel
theorem dX7_item_43 : decode cX7_item 43 = .ok (.aload 6, 2) := by decide +kernel
theorem dX7_item_45 : decode cX7_item 45 = .ok (.iload_n 3, 1) := by decide +kernel
theorem dX7_item_46 : decode cX7_item 46 = .ok (.lload 4, 2) := by decide +kernel
theorem dX7_item_48 : decode cX7_item 48 = .ok (.invokevirtual 227, 3) := by decide +kernel
theorem dX7_item_51 : decode cX7_item 51 = .ok (.aload 6, 2) := by decide +kernel
theorem dX7_item_53 : decode cX7_item 53 = .ok (.iload_n 3, 1) := by decide +kernel
theorem dX7_item_54 : decode cX7_item 54 = .ok (.invokevirtual 231, 3) := by decide +kernel
theorem dX7_item_57 : decode cX7_item 57 = .ok (.lreturn, 1) := by decide +kernel
theorem dX7_copy_0 : decode cX7_copy 0 = .ok (.aload_n 0, 1) := by decide +kernel
theorem dX7_copy_1 : decode cX7_copy 1 = .ok (.iload_n 1, 1) := by decide +kernel
theorem dX7_copy_2 : decode cX7_copy 2 = .ok (.invokevirtual 202, 3) := by decide +kernel
theorem dX7_copy_5 : decode cX7_copy 5 = .ok (.astore 6, 2) := by decide +kernel
theorem dX7_copy_7 : decode cX7_copy 7 = .ok (.aload_n 0, 1) := by decide +kernel
theorem dX7_copy_8 : decode cX7_copy 8 = .ok (.iload_n 3, 1) := by decide +kernel
theorem dX7_copy_9 : decode cX7_copy 9 = .ok (.invokevirtual 202, 3) := by decide +kernel
theorem dX7_copy_12 : decode cX7_copy 12 = .ok (.astore 7, 2) := by decide +kernel
theorem dX7_copy_14 : decode cX7_copy 14 = .ok (.aload 6, 2) := by decide +kernel
theorem dX7_copy_16 : decode cX7_copy 16 = .ok (.ifnull 8, 3) := by decide +kernel
theorem dX7_copy_19 : decode cX7_copy 19 = .ok (.aload 7, 2) := by decide +kernel
theorem dX7_copy_21 : decode cX7_copy 21 = .ok (.ifnonnull 5, 3) := by decide +kernel
theorem dX7_copy_24 : decode cX7_copy 24 = .ok (.iconst (-1), 1) := by decide +kernel
theorem dX7_copy_25 : decode cX7_copy 25 = .ok (.ireturn, 1) := by decide +kernel
theorem dX7_copy_26 : decode cX7_copy 26 = .ok (.aload 6, 2) := by decide +kernel
theorem dX7_copy_28 : decode cX7_copy 28 = .ok (.invokevirtual 213, 3) := by decide +kernel
theorem dX7_copy_31 : decode cX7_copy 31 = .ok (.ifCond .ne 11, 3) := by decide +kernel
theorem dX7_copy_34 : decode cX7_copy 34 = .ok (.aload 7, 2) := by decide +kernel
theorem dX7_copy_36 : decode cX7_copy 36 = .ok (.invokevirtual 213, 3) := by decide +kernel
theorem dX7_copy_39 : decode cX7_copy 39 = .ok (.ifCond .eq 6, 3) := by decide +kernel
theorem dX7_copy_42 : decode cX7_copy 42 = .ok (.bipush (-11), 2) := by decide +kernel
theorem dX7_copy_44 : decode cX7_copy 44 = .ok (.ireturn, 1) := by decide +kernel
theorem dX7_copy_45 : decode cX7_copy 45 = .ok (.aload 6, 2) := by decide +kernel
theorem dX7_copy_47 : decode cX7_copy 47 = .ok (.invokevirtual 235, 3) := by decide +kernel
theorem dX7_copy_50 : decode cX7_copy 50 = .ok (.aload 7, 2) := by decide +kernel
theorem dX7_copy_52 : decode cX7_copy 52 = .ok (.invokevirtual 235, 3) := by decide +kernel
theorem dX7_copy_55 : decode cX7_copy 55 = .ok (.if_icmp .eq 6, 3) := by decide +kernel
theorem dX7_copy_58 : decode cX7_copy 58 = .ok (.bipush (-12), 2) := by decide +kernel
theorem dX7_copy_60 : decode cX7_copy 60 = .ok (.ireturn, 1) := by decide +kernel
theorem dX7_copy_61 : decode cX7_copy 61 = .ok (.aload 6, 2) := by decide +kernel
theorem dX7_copy_63 : decode cX7_copy 63 = .ok (.iload_n 2, 1) := by decide +kernel
theorem dX7_copy_64 : decode cX7_copy 64 = .ok (.iload 5, 2) := by decide +kernel
theorem dX7_copy_66 : decode cX7_copy 66 = .ok (.invokevirtual 222, 3) := by decide +kernel
theorem dX7_copy_69 : decode cX7_copy 69 = .ok (.ifCond .eq 15, 3) := by decide +kernel
theorem dX7_copy_72 : decode cX7_copy 72 = .ok (.aload 7, 2) := by decide +kernel
theorem dX7_copy_74 : decode cX7_copy 74 = .ok (.iload 4, 2) := by decide +kernel
theorem dX7_copy_76 : decode cX7_copy 76 = .ok (.iload 5, 2) := by decide +kernel
theorem dX7_copy_78 : decode cX7_copy 78 = .ok (.invokevirtual 222, 3) := by decide +kernel
theorem dX7_copy_81 : decode cX7_copy 81 = .ok (.ifCond .ne 6, 3) := by decide +kernel
theorem dX7_copy_84 : decode cX7_copy 84 = .ok (.bipush (-13), 2) := by decide +kernel
theorem dX7_copy_86 : decode cX7_copy 86 = .ok (.ireturn, 1) := by decide +kernel
theorem dX7_copy_87 : decode cX7_copy 87 = .ok (.aload 7, 2) := by decide +kernel
theorem dX7_copy_89 : decode cX7_copy 89 = .ok (.aload 6, 2) := by decide +kernel
theorem dX7_copy_91 : decode cX7_copy 91 = .ok (.iload_n 2, 1) := by decide +kernel
theorem dX7_copy_92 : decode cX7_copy 92 = .ok (.iload 4, 2) := by decide +kernel
theorem dX7_copy_94 : decode cX7_copy 94 = .ok (.iload 5, 2) := by decide +kernel
theorem dX7_copy_96 : decode cX7_copy 96 = .ok (.invokevirtual 238, 3) := by decide +kernel
theorem dX7_copy_99 : decode cX7_copy 99 = .ok (.iload 5, 2) := by decide +kernel
theorem dX7_copy_101 : decode cX7_copy 101 = .ok (.ireturn, 1) := by decide +kernel
theorem dX7_log_0 : decode cX7_log 0 = .ok (.aload_n 0, 1) := by decide +kernel
theorem dX7_log_1 : decode cX7_log 1 = .ok (.getfield 19, 3) := by decide +kernel
theorem dX7_log_4 : decode cX7_log 4 = .ok (.iload_n 1, 1) := by decide +kernel
theorem dX7_log_5 : decode cX7_log 5 = .ok (.invokevirtual 90, 3) := by decide +kernel
theorem dX7_log_8 : decode cX7_log 8 = .ok (.ifCond .ne 5, 3) := by decide +kernel
theorem dX7_log_11 : decode cX7_log 11 = .ok (.iconst (-1), 1) := by decide +kernel
theorem dX7_log_12 : decode cX7_log 12 = .ok (.ireturn, 1) := by decide +kernel
theorem dX7_log_13 : decode cX7_log 13 = .ok (.aload_n 0, 1) := by decide +kernel
theorem dX7_log_14 : decode cX7_log 14 = .ok (.iload_n 2, 1) := by decide +kernel
theorem dX7_log_15 : decode cX7_log 15 = .ok (.invokevirtual 202, 3) := by decide +kernel
theorem dX7_log_18 : decode cX7_log 18 = .ok (.astore 5, 2) := by decide +kernel
theorem dX7_log_20 : decode cX7_log 20 = .ok (.aload 5, 2) := by decide +kernel
theorem dX7_log_22 : decode cX7_log 22 = .ok (.iload_n 3, 1) := by decide +kernel
theorem dX7_log_23 : decode cX7_log 23 = .ok (.invokestatic 218, 3) := by decide +kernel
theorem dX7_log_26 : decode cX7_log 26 = .ok (.istore 6, 2) := by decide +kernel
theorem dX7_log_28 : decode cX7_log 28 = .ok (.iload 6, 2) := by decide +kernel
theorem dX7_log_30 : decode cX7_log 30 = .ok (.ifCond .ne 8, 3) := by decide +kernel
theorem dX7_log_33 : decode cX7_log 33 = .ok (.aload 5, 2) := by decide +kernel
theorem dX7_log_35 : decode cX7_log 35 = .ok (.ifnonnull 6, 3) := by decide +kernel
theorem dX7_log_38 : decode cX7_log 38 = .ok (.iload 6, 2) := by decide +kernel
theorem dX7_log_40 : decode cX7_log 40 = .ok (.ireturn, 1) := by decide +kernel
theorem dX7_log_41 : decode cX7_log 41 = .ok (.aload 5, 2) := by decide +kernel
theorem dX7_log_43 : decode cX7_log 43 = .ok (.iload 4, 2) := by decide +kernel
theorem dX7_log_45 : decode cX7_log 45 = .ok (.aload_n 0, 1) := by decide +kernel
theorem dX7_log_46 : decode cX7_log 46 = .ok (.getfield 19, 3) := by decide +kernel
theorem dX7_log_49 : decode cX7_log 49 = .ok (.invokevirtual 87, 3) := by decide +kernel
theorem dX7_log_52 : decode cX7_log 52 = .ok (.invokevirtual 222, 3) := by decide +kernel
theorem dX7_log_55 : decode cX7_log 55 = .ok (.ifCond .ne 6, 3) := by decide +kernel
theorem dX7_log_58 : decode cX7_log 58 = .ok (.bipush (-13), 2) := by decide +kernel
theorem dX7_log_60 : decode cX7_log 60 = .ok (.ireturn, 1) := by decide +kernel
theorem dX7_log_61 : decode cX7_log 61 = .ok (.iconst 0, 1) := by decide +kernel
theorem dX7_log_62 : decode cX7_log 62 = .ok (.istore 7, 2) := by decide +kernel
theorem dX7_log_64 : decode cX7_log 64 = .ok (.iload 7, 2) := by decide +kernel
theorem dX7_log_66 : decode cX7_log 66 = .ok (.aload_n 0, 1) := by decide +kernel
theorem dX7_log_67 : decode cX7_log 67 = .ok (.getfield 19, 3) := by decide +kernel
theorem dX7_log_70 : decode cX7_log 70 = .ok (.invokevirtual 87, 3) := by decide +kernel
theorem dX7_log_73 : decode cX7_log 73 = .ok (.if_icmp .ge 30, 3) := by decide +kernel
theorem dX7_log_76 : decode cX7_log 76 = .ok (.aload 5, 2) := by decide +kernel
theorem dX7_log_78 : decode cX7_log 78 = .ok (.iload 4, 2) := by decide +kernel
theorem dX7_log_80 : decode cX7_log 80 = .ok (.iload 7, 2) := by decide +kernel
theorem dX7_log_82 : decode cX7_log 82 = .ok (.iadd, 1) := by decide +kernel
theorem dX7_log_83 : decode cX7_log 83 = .ok (.aload_n 0, 1) := by decide +kernel
theorem dX7_log_84 : decode cX7_log 84 = .ok (.getfield 19, 3) := by decide +kernel
theorem dX7_log_87 : decode cX7_log 87 = .ok (.iload 7, 2) := by decide +kernel
theorem dX7_log_89 : decode cX7_log 89 = .ok (.iload_n 1, 1) := by decide +kernel
theorem dX7_log_90 : decode cX7_log 90 = .ok (.invokevirtual 153, 3) := by decide +kernel
theorem dX7_log_93 : decode cX7_log 93 = .ok (.i2l, 1) := by decide +kernel
theorem dX7_log_94 : decode cX7_log 94 = .ok (.invokevirtual 227, 3) := by decide +kernel
theorem dX7_log_97 : decode cX7_log 97 = .ok (.iinc 7 1, 3) := by decide +kernel
theorem dX7_log_100 : decode cX7_log 100 = .ok (.goto (-36), 3) := by decide +kernel
theorem dX7_log_103 : decode cX7_log 103 = .ok (.aload_n 0, 1) := by decide +kernel
theorem dX7_log_104 : decode cX7_log 104 = .ok (.getfield 19, 3) := by decide +kernel
theorem dX7_log_107 : decode cX7_log 107 = .ok (.invokevirtual 87, 3) := by decide +kernel
theorem dX7_log_110 : decode cX7_log 110 = .ok (.ireturn, 1) := by decide +kernel
theorem dX7_skills_0 : decode cX7_skills 0 = .ok (.aload_n 0, 1) := by decide +kernel
theorem dX7_skills_1 : decode cX7_skills 1 = .ok (.iload_n 1, 1) := by decide +kernel
theorem dX7_skills_2 : decode cX7_skills 2 = .ok (.iload_n 2, 1) := by decide +kernel
theorem dX7_skills_3 : decode cX7_skills 3 = .ok (.iload_n 3, 1) := by decide +kernel
theorem dX7_skills_4 : decode cX7_skills 4 = .ok (.iload 4, 2) := by decide +kernel
theorem dX7_skills_6 : decode cX7_skills 6 = .ok (.iload 5, 2) := by decide +kernel
theorem dX7_skills_8 : decode cX7_skills 8 = .ok (.iload 6, 2) := by decide +kernel
theorem dX7_skills_10 : decode cX7_skills 10 = .ok (.invokevirtual 242, 3) := by decide +kernel
theorem dX7_skills_13 : decode cX7_skills 13 = .ok (.istore 7, 2) := by decide +kernel
theorem dX7_skills_15 : decode cX7_skills 15 = .ok (.iload 7, 2) := by decide +kernel
theorem dX7_skills_17 : decode cX7_skills 17 = .ok (.ifCond .eq 6, 3) := by decide +kernel
theorem dX7_skills_20 : decode cX7_skills 20 = .ok (.iload 7, 2) := by decide +kernel
theorem dX7_skills_22 : decode cX7_skills 22 = .ok (.ireturn, 1) := by decide +kernel
theorem dX7_skills_23 : decode cX7_skills 23 = .ok (.aload_n 0, 1) := by decide +kernel
theorem dX7_skills_24 : decode cX7_skills 24 = .ok (.getfield 61, 3) := by decide +kernel
theorem dX7_skills_27 : decode cX7_skills 27 = .ok (.aload_n 0, 1) := by decide +kernel
theorem dX7_skills_28 : decode cX7_skills 28 = .ok (.getfield 19, 3) := by decide +kernel
theorem dX7_skills_31 : decode cX7_skills 31 = .ok (.iload_n 1, 1) := by decide +kernel
theorem dX7_skills_32 : decode cX7_skills 32 = .ok (.invokevirtual 246, 3) := by decide +kernel
theorem dX7_skills_35 : decode cX7_skills 35 = .ok (.aload_n 0, 1) := by decide +kernel
theorem dX7_skills_36 : decode cX7_skills 36 = .ok (.getfield 61, 3) := by decide +kernel
theorem dX7_skills_39 : decode cX7_skills 39 = .ok (.aload_n 0, 1) := by decide +kernel
theorem dX7_skills_40 : decode cX7_skills 40 = .ok (.iload_n 2, 1) := by decide +kernel
theorem dX7_skills_41 : decode cX7_skills 41 = .ok (.invokevirtual 202, 3) := by decide +kernel
theorem dX7_skills_44 : decode cX7_skills 44 = .ok (.iload 4, 2) := by decide +kernel
theorem dX7_skills_46 : decode cX7_skills 46 = .ok (.iload 5, 2) := by decide +kernel
theorem dX7_skills_48 : decode cX7_skills 48 = .ok (.iload 6, 2) := by decide +kernel
theorem dX7_skills_50 : decode cX7_skills 50 = .ok (.invokevirtual 250, 3) := by decide +kernel
theorem dX7_skills_53 : decode cX7_skills 53 = .ok (.ireturn, 1) := by decide +kernel
theorem dX7_kinds_0 : decode cX7_kinds 0 = .ok (.aload_n 0, 1) := by decide +kernel
theorem dX7_kinds_1 : decode cX7_kinds 1 = .ok (.iload_n 1, 1) := by decide +kernel
theorem dX7_kinds_2 : decode cX7_kinds 2 = .ok (.iload_n 2, 1) := by decide +kernel
theorem dX7_kinds_3 : decode cX7_kinds 3 = .ok (.iload_n 3, 1) := by decide +kernel
theorem dX7_kinds_4 : decode cX7_kinds 4 = .ok (.iload 4, 2) := by decide +kernel
theorem dX7_kinds_6 : decode cX7_kinds 6 = .ok (.iload 5, 2) := by decide +kernel
theorem dX7_kinds_8 : decode cX7_kinds 8 = .ok (.iload 6, 2) := by decide +kernel
theorem dX7_kinds_10 : decode cX7_kinds 10 = .ok (.invokevirtual 242, 3) := by decide +kernel
theorem dX7_kinds_13 : decode cX7_kinds 13 = .ok (.istore 7, 2) := by decide +kernel
theorem dX7_kinds_15 : decode cX7_kinds 15 = .ok (.iload 7, 2) := by decide +kernel
theorem dX7_kinds_17 : decode cX7_kinds 17 = .ok (.ifCond .eq 6, 3) := by decide +kernel
theorem dX7_kinds_20 : decode cX7_kinds 20 = .ok (.iload 7, 2) := by decide +kernel
theorem dX7_kinds_22 : decode cX7_kinds 22 = .ok (.ireturn, 1) := by decide +kernel
theorem dX7_kinds_23 : decode cX7_kinds 23 = .ok (.aload_n 0, 1) := by decide +kernel
theorem dX7_kinds_24 : decode cX7_kinds 24 = .ok (.getfield 61, 3) := by decide +kernel
theorem dX7_kinds_27 : decode cX7_kinds 27 = .ok (.aload_n 0, 1) := by decide +kernel
theorem dX7_kinds_28 : decode cX7_kinds 28 = .ok (.getfield 19, 3) := by decide +kernel
theorem dX7_kinds_31 : decode cX7_kinds 31 = .ok (.iload_n 1, 1) := by decide +kernel
theorem dX7_kinds_32 : decode cX7_kinds 32 = .ok (.invokevirtual 254, 3) := by decide +kernel
theorem dX7_kinds_35 : decode cX7_kinds 35 = .ok (.aload_n 0, 1) := by decide +kernel
theorem dX7_kinds_36 : decode cX7_kinds 36 = .ok (.getfield 61, 3) := by decide +kernel
theorem dX7_kinds_39 : decode cX7_kinds 39 = .ok (.aload_n 0, 1) := by decide +kernel
theorem dX7_kinds_40 : decode cX7_kinds 40 = .ok (.iload_n 2, 1) := by decide +kernel
theorem dX7_kinds_41 : decode cX7_kinds 41 = .ok (.invokevirtual 202, 3) := by decide +kernel
theorem dX7_kinds_44 : decode cX7_kinds 44 = .ok (.iload 4, 2) := by decide +kernel
theorem dX7_kinds_46 : decode cX7_kinds 46 = .ok (.iload 5, 2) := by decide +kernel
theorem dX7_kinds_48 : decode cX7_kinds 48 = .ok (.iload 6, 2) := by decide +kernel
theorem dX7_kinds_50 : decode cX7_kinds 50 = .ok (.invokevirtual 250, 3) := by decide +kernel
theorem dX7_kinds_53 : decode cX7_kinds 53 = .ok (.ireturn, 1) := by decide +kernel
theorem dX7_count_0 : decode cX7_count 0 = .ok (.iload_n 1, 1) := by decide +kernel
theorem dX7_count_1 : decode cX7_count 1 = .ok (.tableswitch 123 0 8 #[51, 59, 67, 75, 83, 91, 99, 107, 115], 51) := by decide +kernel
theorem dX7_count_52 : decode cX7_count 52 = .ok (.aload_n 0, 1) := by decide +kernel
theorem dX7_count_53 : decode cX7_count 53 = .ok (.getfield 19, 3) := by decide +kernel
theorem dX7_count_56 : decode cX7_count 56 = .ok (.invokevirtual 257, 3) := by decide +kernel
theorem dX7_count_59 : decode cX7_count 59 = .ok (.ireturn, 1) := by decide +kernel
theorem dX7_count_60 : decode cX7_count 60 = .ok (.aload_n 0, 1) := by decide +kernel
theorem dX7_count_61 : decode cX7_count 61 = .ok (.getfield 19, 3) := by decide +kernel
theorem dX7_count_64 : decode cX7_count 64 = .ok (.invokevirtual 87, 3) := by decide +kernel
theorem dX7_count_67 : decode cX7_count 67 = .ok (.ireturn, 1) := by decide +kernel
theorem dX7_count_68 : decode cX7_count 68 = .ok (.aload_n 0, 1) := by decide +kernel
theorem dX7_count_69 : decode cX7_count 69 = .ok (.getfield 19, 3) := by decide +kernel
theorem dX7_count_72 : decode cX7_count 72 = .ok (.invokevirtual 260, 3) := by decide +kernel
theorem dX7_count_75 : decode cX7_count 75 = .ok (.ireturn, 1) := by decide +kernel
theorem dX7_count_76 : decode cX7_count 76 = .ok (.aload_n 0, 1) := by decide +kernel
theorem dX7_count_77 : decode cX7_count 77 = .ok (.getfield 19, 3) := by decide +kernel
theorem dX7_count_80 : decode cX7_count 80 = .ok (.invokevirtual 118, 3) := by decide +kernel
theorem dX7_count_83 : decode cX7_count 83 = .ok (.ireturn, 1) := by decide +kernel
theorem dX7_count_84 : decode cX7_count 84 = .ok (.aload_n 0, 1) := by decide +kernel
theorem dX7_count_85 : decode cX7_count 85 = .ok (.getfield 19, 3) := by decide +kernel
theorem dX7_count_88 : decode cX7_count 88 = .ok (.invokevirtual 263, 3) := by decide +kernel
theorem dX7_count_91 : decode cX7_count 91 = .ok (.ireturn, 1) := by decide +kernel
theorem dX7_count_92 : decode cX7_count 92 = .ok (.aload_n 0, 1) := by decide +kernel
theorem dX7_count_93 : decode cX7_count 93 = .ok (.getfield 19, 3) := by decide +kernel
theorem dX7_count_96 : decode cX7_count 96 = .ok (.invokevirtual 199, 3) := by decide +kernel
theorem dX7_count_99 : decode cX7_count 99 = .ok (.ireturn, 1) := by decide +kernel
theorem dX7_count_100 : decode cX7_count 100 = .ok (.aload_n 0, 1) := by decide +kernel
theorem dX7_count_101 : decode cX7_count 101 = .ok (.getfield 19, 3) := by decide +kernel
theorem dX7_count_104 : decode cX7_count 104 = .ok (.invokevirtual 266, 3) := by decide +kernel
theorem dX7_count_107 : decode cX7_count 107 = .ok (.ireturn, 1) := by decide +kernel
theorem dX7_count_108 : decode cX7_count 108 = .ok (.aload_n 0, 1) := by decide +kernel
theorem dX7_count_109 : decode cX7_count 109 = .ok (.getfield 29, 3) := by decide +kernel
theorem dX7_count_112 : decode cX7_count 112 = .ok (.invokevirtual 146, 3) := by decide +kernel
theorem dX7_count_115 : decode cX7_count 115 = .ok (.ireturn, 1) := by decide +kernel
theorem dX7_count_116 : decode cX7_count 116 = .ok (.aload_n 0, 1) := by decide +kernel
theorem dX7_count_117 : decode cX7_count 117 = .ok (.getfield 10, 3) := by decide +kernel
theorem dX7_count_120 : decode cX7_count 120 = .ok (.invokevirtual 69, 3) := by decide +kernel
theorem dX7_count_123 : decode cX7_count 123 = .ok (.ireturn, 1) := by decide +kernel
theorem dX7_count_124 : decode cX7_count 124 = .ok (.iconst (-1), 1) := by decide +kernel
theorem dX7_count_125 : decode cX7_count 125 = .ok (.ireturn, 1) := by decide +kernel
theorem dX7_refuseCarrying_0 : decode cX7_refuseCarrying 0 = .ok (.aload_n 0, 1) := by decide +kernel
theorem dX7_refuseCarrying_1 : decode cX7_refuseCarrying 1 = .ok (.getfield 19, 3) := by decide +kernel
theorem dX7_refuseCarrying_4 : decode cX7_refuseCarrying 4 = .ok (.iload_n 1, 1) := by decide +kernel
theorem dX7_refuseCarrying_5 : decode cX7_refuseCarrying 5 = .ok (.invokevirtual 105, 3) := by decide +kernel
theorem dX7_refuseCarrying_8 : decode cX7_refuseCarrying 8 = .ok (.ifCond .eq 14, 3) := by decide +kernel
theorem dX7_refuseCarrying_11 : decode cX7_refuseCarrying 11 = .ok (.aload_n 0, 1) := by decide +kernel
theorem dX7_refuseCarrying_12 : decode cX7_refuseCarrying 12 = .ok (.getfield 19, 3) := by decide +kernel
theorem dX7_refuseCarrying_15 : decode cX7_refuseCarrying 15 = .ok (.iload_n 2, 1) := by decide +kernel
theorem dX7_refuseCarrying_16 : decode cX7_refuseCarrying 16 = .ok (.invokevirtual 90, 3) := by decide +kernel
theorem dX7_refuseCarrying_19 : decode cX7_refuseCarrying 19 = .ok (.ifCond .ne 5, 3) := by decide +kernel
theorem dX7_refuseCarrying_22 : decode cX7_refuseCarrying 22 = .ok (.iconst (-1), 1) := by decide +kernel
theorem dX7_refuseCarrying_23 : decode cX7_refuseCarrying 23 = .ok (.ireturn, 1) := by decide +kernel
theorem dX7_refuseCarrying_24 : decode cX7_refuseCarrying 24 = .ok (.aload_n 0, 1) := by decide +kernel
theorem dX7_refuseCarrying_25 : decode cX7_refuseCarrying 25 = .ok (.getfield 19, 3) := by decide +kernel
theorem dX7_refuseCarrying_28 : decode cX7_refuseCarrying 28 = .ok (.iload_n 1, 1) := by decide +kernel
theorem dX7_refuseCarrying_29 : decode cX7_refuseCarrying 29 = .ok (.iload_n 2, 1) := by decide +kernel
theorem dX7_refuseCarrying_30 : decode cX7_refuseCarrying 30 = .ok (.invokevirtual 269, 3) := by decide +kernel
theorem dX7_refuseCarrying_33 : decode cX7_refuseCarrying 33 = .ok (.ifCond .eq 7, 3) := by decide +kernel
theorem dX7_refuseCarrying_36 : decode cX7_refuseCarrying 36 = .ok (.iconst 0, 1) := by decide +kernel
theorem dX7_refuseCarrying_37 : decode cX7_refuseCarrying 37 = .ok (.goto 5, 3) := by decide +kernel
theorem dX7_refuseCarrying_40 : decode cX7_refuseCarrying 40 = .ok (.bipush (-2), 2) := by decide +kernel
theorem dX7_refuseCarrying_42 : decode cX7_refuseCarrying 42 = .ok (.ireturn, 1) := by decide +kernel
theorem dX7_change_0 : decode cX7_change 0 = .ok (.aload_n 0, 1) := by decide +kernel
theorem dX7_change_1 : decode cX7_change 1 = .ok (.getfield 19, 3) := by decide +kernel
theorem dX7_change_4 : decode cX7_change 4 = .ok (.iload_n 1, 1) := by decide +kernel
theorem dX7_change_5 : decode cX7_change 5 = .ok (.iload_n 2, 1) := by decide +kernel
theorem dX7_change_6 : decode cX7_change 6 = .ok (.invokevirtual 93, 3) := by decide +kernel
theorem dX7_change_9 : decode cX7_change 9 = .ok (.istore 4, 2) := by decide +kernel
theorem dX7_change_11 : decode cX7_change 11 = .ok (.iload 4, 2) := by decide +kernel
theorem dX7_change_13 : decode cX7_change 13 = .ok (.iload_n 3, 1) := by decide +kernel
theorem dX7_change_14 : decode cX7_change 14 = .ok (.if_icmp .ne 6, 3) := by decide +kernel
theorem dX7_change_17 : decode cX7_change 17 = .ok (.bipush (-2), 2) := by decide +kernel
theorem dX7_change_19 : decode cX7_change 19 = .ok (.ireturn, 1) := by decide +kernel
theorem dX7_change_20 : decode cX7_change 20 = .ok (.aload_n 0, 1) := by decide +kernel
theorem dX7_change_21 : decode cX7_change 21 = .ok (.getfield 29, 3) := by decide +kernel
theorem dX7_change_24 : decode cX7_change 24 = .ok (.aload_n 0, 1) := by decide +kernel
theorem dX7_change_25 : decode cX7_change 25 = .ok (.getfield 19, 3) := by decide +kernel
theorem dX7_change_28 : decode cX7_change 28 = .ok (.invokevirtual 121, 3) := by decide +kernel
theorem dX7_change_31 : decode cX7_change 31 = .ok (.aload_n 0, 1) := by decide +kernel
theorem dX7_change_32 : decode cX7_change 32 = .ok (.getfield 19, 3) := by decide +kernel
theorem dX7_change_35 : decode cX7_change 35 = .ok (.iload_n 1, 1) := by decide +kernel
theorem dX7_change_36 : decode cX7_change 36 = .ok (.iload_n 2, 1) := by decide +kernel
theorem dX7_change_37 : decode cX7_change 37 = .ok (.iload_n 3, 1) := by decide +kernel
theorem dX7_change_38 : decode cX7_change 38 = .ok (.invokevirtual 272, 3) := by decide +kernel
theorem dX7_change_41 : decode cX7_change 41 = .ok (.iload 4, 2) := by decide +kernel
theorem dX7_change_43 : decode cX7_change 43 = .ok (.ireturn, 1) := by decide +kernel
theorem dX7_imageAt_0 : decode cX7_imageAt 0 = .ok (.iload_n 1, 1) := by decide +kernel
theorem dX7_imageAt_1 : decode cX7_imageAt 1 = .ok (.ifCond .lt 12, 3) := by decide +kernel
theorem dX7_imageAt_4 : decode cX7_imageAt 4 = .ok (.iload_n 1, 1) := by decide +kernel
theorem dX7_imageAt_5 : decode cX7_imageAt 5 = .ok (.aload_n 0, 1) := by decide +kernel
theorem dX7_imageAt_6 : decode cX7_imageAt 6 = .ok (.getfield 33, 3) := by decide +kernel
theorem dX7_imageAt_9 : decode cX7_imageAt 9 = .ok (.arraylength, 1) := by decide +kernel
theorem dX7_imageAt_10 : decode cX7_imageAt 10 = .ok (.if_icmp .lt 7, 3) := by decide +kernel
theorem dX7_imageAt_13 : decode cX7_imageAt 13 = .ok (.aconst_null, 1) := by decide +kernel
theorem dX7_imageAt_14 : decode cX7_imageAt 14 = .ok (.goto 9, 3) := by decide +kernel
theorem dX7_imageAt_17 : decode cX7_imageAt 17 = .ok (.aload_n 0, 1) := by decide +kernel
theorem dX7_imageAt_18 : decode cX7_imageAt 18 = .ok (.getfield 33, 3) := by decide +kernel
theorem dX7_imageAt_21 : decode cX7_imageAt 21 = .ok (.iload_n 1, 1) := by decide +kernel
theorem dX7_imageAt_22 : decode cX7_imageAt 22 = .ok (.aaload, 1) := by decide +kernel
theorem dX7_imageAt_23 : decode cX7_imageAt 23 = .ok (.areturn, 1) := by decide +kernel
theorem dX7_sheetAt_0 : decode cX7_sheetAt 0 = .ok (.iload_n 1, 1) := by decide +kernel
theorem dX7_sheetAt_1 : decode cX7_sheetAt 1 = .ok (.ifCond .lt 12, 3) := by decide +kernel
theorem dX7_sheetAt_4 : decode cX7_sheetAt 4 = .ok (.iload_n 1, 1) := by decide +kernel
theorem dX7_sheetAt_5 : decode cX7_sheetAt 5 = .ok (.aload_n 0, 1) := by decide +kernel
theorem dX7_sheetAt_6 : decode cX7_sheetAt 6 = .ok (.getfield 40, 3) := by decide +kernel
theorem dX7_sheetAt_9 : decode cX7_sheetAt 9 = .ok (.arraylength, 1) := by decide +kernel
theorem dX7_sheetAt_10 : decode cX7_sheetAt 10 = .ok (.if_icmp .lt 7, 3) := by decide +kernel
theorem dX7_sheetAt_13 : decode cX7_sheetAt 13 = .ok (.aconst_null, 1) := by decide +kernel
theorem dX7_sheetAt_14 : decode cX7_sheetAt 14 = .ok (.goto 9, 3) := by decide +kernel
theorem dX7_sheetAt_17 : decode cX7_sheetAt 17 = .ok (.aload_n 0, 1) := by decide +kernel
theorem dX7_sheetAt_18 : decode cX7_sheetAt 18 = .ok (.getfield 40, 3) := by decide +kernel
theorem dX7_sheetAt_21 : decode cX7_sheetAt 21 = .ok (.iload_n 1, 1) := by decide +kernel
theorem dX7_sheetAt_22 : decode cX7_sheetAt 22 = .ok (.aaload, 1) := by decide +kernel
theorem dX7_sheetAt_23 : decode cX7_sheetAt 23 = .ok (.areturn, 1) := by decide +kernel
theorem dX7_isLane_0 : decode cX7_isLane 0 = .ok (.iload_n 0, 1) := by decide +kernel
theorem dX7_isLane_1 : decode cX7_isLane 1 = .ok (.ifCond .lt 12, 3) := by decide +kernel
theorem dX7_isLane_4 : decode cX7_isLane 4 = .ok (.iload_n 0, 1) := by decide +kernel
theorem dX7_isLane_5 : decode cX7_isLane 5 = .ok (.iconst 4, 1) := by decide +kernel
theorem dX7_isLane_6 : decode cX7_isLane 6 = .ok (.if_icmp .ge 7, 3) := by decide +kernel
theorem dX7_isLane_9 : decode cX7_isLane 9 = .ok (.iconst 1, 1) := by decide +kernel
theorem dX7_isLane_10 : decode cX7_isLane 10 = .ok (.goto 4, 3) := by decide +kernel
theorem dX7_isLane_13 : decode cX7_isLane 13 = .ok (.iconst 0, 1) := by decide +kernel
theorem dX7_isLane_14 : decode cX7_isLane 14 = .ok (.ireturn, 1) := by decide +kernel
theorem dX7_refuseRow_0 : decode cX7_refuseRow 0 = .ok (.aload_n 0, 1) := by decide +kernel
theorem dX7_refuseRow_1 : decode cX7_refuseRow 1 = .ok (.ifnull 10, 3) := by decide +kernel
theorem dX7_refuseRow_4 : decode cX7_refuseRow 4 = .ok (.iload_n 1, 1) := by decide +kernel
theorem dX7_refuseRow_5 : decode cX7_refuseRow 5 = .ok (.invokestatic 206, 3) := by decide +kernel
theorem dX7_refuseRow_8 : decode cX7_refuseRow 8 = .ok (.ifCond .ne 5, 3) := by decide +kernel
theorem dX7_refuseRow_11 : decode cX7_refuseRow 11 = .ok (.iconst (-1), 1) := by decide +kernel
theorem dX7_refuseRow_12 : decode cX7_refuseRow 12 = .ok (.ireturn, 1) := by decide +kernel
theorem dX7_refuseRow_13 : decode cX7_refuseRow 13 = .ok (.aload_n 0, 1) := by decide +kernel
theorem dX7_refuseRow_14 : decode cX7_refuseRow 14 = .ok (.invokevirtual 213, 3) := by decide +kernel
theorem dX7_refuseRow_17 : decode cX7_refuseRow 17 = .ok (.ifCond .eq 6, 3) := by decide +kernel
theorem dX7_refuseRow_20 : decode cX7_refuseRow 20 = .ok (.bipush (-11), 2) := by decide +kernel
theorem dX7_refuseRow_22 : decode cX7_refuseRow 22 = .ok (.ireturn, 1) := by decide +kernel
theorem dX7_refuseRow_23 : decode cX7_refuseRow 23 = .ok (.aload_n 0, 1) := by decide +kernel
theorem dX7_refuseRow_24 : decode cX7_refuseRow 24 = .ok (.invokevirtual 235, 3) := by decide +kernel
theorem dX7_refuseRow_27 : decode cX7_refuseRow 27 = .ok (.iload_n 1, 1) := by decide +kernel
theorem dX7_refuseRow_28 : decode cX7_refuseRow 28 = .ok (.if_icmp .ne 7, 3) := by decide +kernel
theorem dX7_refuseRow_31 : decode cX7_refuseRow 31 = .ok (.iconst 0, 1) := by decide +kernel
theorem dX7_refuseRow_32 : decode cX7_refuseRow 32 = .ok (.goto 5, 3) := by decide +kernel
theorem dX7_refuseRow_35 : decode cX7_refuseRow 35 = .ok (.bipush (-12), 2) := by decide +kernel
theorem dX7_refuseRow_37 : decode cX7_refuseRow 37 = .ok (.ireturn, 1) := by decide +kernel
theorem dX7_refusePairs_0 : decode cX7_refusePairs 0 = .ok (.aload_n 0, 1) := by decide +kernel
theorem dX7_refusePairs_1 : decode cX7_refusePairs 1 = .ok (.getfield 19, 3) := by decide +kernel
theorem dX7_refusePairs_4 : decode cX7_refusePairs 4 = .ok (.iload_n 1, 1) := by decide +kernel
theorem dX7_refusePairs_5 : decode cX7_refusePairs 5 = .ok (.invokevirtual 90, 3) := by decide +kernel
theorem dX7_refusePairs_8 : decode cX7_refusePairs 8 = .ok (.ifCond .eq 27, 3) := by decide +kernel
theorem dX7_refusePairs_11 : decode cX7_refusePairs 11 = .ok (.iload 5, 2) := by decide +kernel
theorem dX7_refusePairs_13 : decode cX7_refusePairs 13 = .ok (.iconst 1, 1) := by decide +kernel
theorem dX7_refusePairs_14 : decode cX7_refusePairs 14 = .ok (.if_icmp .lt 21, 3) := by decide +kernel
theorem dX7_refusePairs_17 : decode cX7_refusePairs 17 = .ok (.iload 5, 2) := by decide +kernel
theorem dX7_refusePairs_19 : decode cX7_refusePairs 19 = .ok (.bipush 10, 2) := by decide +kernel
theorem dX7_refusePairs_21 : decode cX7_refusePairs 21 = .ok (.if_icmp .gt 14, 3) := by decide +kernel
theorem dX7_refusePairs_24 : decode cX7_refusePairs 24 = .ok (.iload 6, 2) := by decide +kernel
theorem dX7_refusePairs_26 : decode cX7_refusePairs 26 = .ok (.ifCond .lt 9, 3) := by decide +kernel
theorem dX7_refusePairs_29 : decode cX7_refusePairs 29 = .ok (.iload 6, 2) := by decide +kernel
theorem dX7_refusePairs_31 : decode cX7_refusePairs 31 = .ok (.iconst 1, 1) := by decide +kernel
theorem dX7_refusePairs_32 : decode cX7_refusePairs 32 = .ok (.if_icmp .le 5, 3) := by decide +kernel
theorem dX7_refusePairs_35 : decode cX7_refusePairs 35 = .ok (.iconst (-1), 1) := by decide +kernel
theorem dX7_refusePairs_36 : decode cX7_refusePairs 36 = .ok (.ireturn, 1) := by decide +kernel
theorem dX7_refusePairs_37 : decode cX7_refusePairs 37 = .ok (.aload_n 0, 1) := by decide +kernel
theorem dX7_refusePairs_38 : decode cX7_refusePairs 38 = .ok (.iload_n 2, 1) := by decide +kernel
theorem dX7_refusePairs_39 : decode cX7_refusePairs 39 = .ok (.invokevirtual 202, 3) := by decide +kernel
theorem dX7_refusePairs_42 : decode cX7_refusePairs 42 = .ok (.astore 7, 2) := by decide +kernel
theorem dX7_refusePairs_44 : decode cX7_refusePairs 44 = .ok (.aload 7, 2) := by decide +kernel
theorem dX7_refusePairs_46 : decode cX7_refusePairs 46 = .ok (.iload_n 3, 1) := by decide +kernel
theorem dX7_refusePairs_47 : decode cX7_refusePairs 47 = .ok (.invokestatic 218, 3) := by decide +kernel
theorem dX7_refusePairs_50 : decode cX7_refusePairs 50 = .ok (.istore 8, 2) := by decide +kernel
theorem dX7_refusePairs_52 : decode cX7_refusePairs 52 = .ok (.iload 8, 2) := by decide +kernel
theorem dX7_refusePairs_54 : decode cX7_refusePairs 54 = .ok (.ifCond .ne 8, 3) := by decide +kernel
theorem dX7_refusePairs_57 : decode cX7_refusePairs 57 = .ok (.aload 7, 2) := by decide +kernel
theorem dX7_refusePairs_59 : decode cX7_refusePairs 59 = .ok (.ifnonnull 6, 3) := by decide +kernel
theorem dX7_refusePairs_62 : decode cX7_refusePairs 62 = .ok (.iload 8, 2) := by decide +kernel
theorem dX7_refusePairs_64 : decode cX7_refusePairs 64 = .ok (.ireturn, 1) := by decide +kernel
theorem dX7_refusePairs_65 : decode cX7_refusePairs 65 = .ok (.aload 7, 2) := by decide +kernel
theorem dX7_refusePairs_67 : decode cX7_refusePairs 67 = .ok (.iload 4, 2) := by decide +kernel
theorem dX7_refusePairs_69 : decode cX7_refusePairs 69 = .ok (.iconst 2, 1) := by decide +kernel
theorem dX7_refusePairs_70 : decode cX7_refusePairs 70 = .ok (.iload 5, 2) := by decide +kernel
theorem dX7_refusePairs_72 : decode cX7_refusePairs 72 = .ok (.imul, 1) := by decide +kernel
theorem dX7_refusePairs_73 : decode cX7_refusePairs 73 = .ok (.invokevirtual 222, 3) := by decide +kernel
theorem dX7_refusePairs_76 : decode cX7_refusePairs 76 = .ok (.ifCond .ne 6, 3) := by decide +kernel
theorem dX7_refusePairs_79 : decode cX7_refusePairs 79 = .ok (.bipush (-13), 2) := by decide +kernel
theorem dX7_refusePairs_81 : decode cX7_refusePairs 81 = .ok (.ireturn, 1) := by decide +kernel
theorem dX7_refusePairs_82 : decode cX7_refusePairs 82 = .ok (.iconst 0, 1) := by decide +kernel
theorem dX7_refusePairs_83 : decode cX7_refusePairs 83 = .ok (.istore 9, 2) := by decide +kernel
theorem dX7_refusePairs_85 : decode cX7_refusePairs 85 = .ok (.iload 9, 2) := by decide +kernel
theorem dX7_refusePairs_87 : decode cX7_refusePairs 87 = .ok (.iload 5, 2) := by decide +kernel
theorem dX7_refusePairs_89 : decode cX7_refusePairs 89 = .ok (.if_icmp .ge 42, 3) := by decide +kernel
theorem dX7_refusePairs_92 : decode cX7_refusePairs 92 = .ok (.aload 7, 2) := by decide +kernel
theorem dX7_refusePairs_94 : decode cX7_refusePairs 94 = .ok (.iload 4, 2) := by decide +kernel
theorem dX7_refusePairs_96 : decode cX7_refusePairs 96 = .ok (.iconst 2, 1) := by decide +kernel
theorem dX7_refusePairs_97 : decode cX7_refusePairs 97 = .ok (.iload 9, 2) := by decide +kernel
theorem dX7_refusePairs_99 : decode cX7_refusePairs 99 = .ok (.imul, 1) := by decide +kernel
theorem dX7_refusePairs_100 : decode cX7_refusePairs 100 = .ok (.iadd, 1) := by decide +kernel
theorem dX7_refusePairs_101 : decode cX7_refusePairs 101 = .ok (.invokevirtual 231, 3) := by decide +kernel
theorem dX7_refusePairs_104 : decode cX7_refusePairs 104 = .ok (.lstore 10, 2) := by decide +kernel
theorem dX7_refusePairs_106 : decode cX7_refusePairs 106 = .ok (.lload 10, 2) := by decide +kernel
theorem dX7_refusePairs_108 : decode cX7_refusePairs 108 = .ok (.lconst 0, 1) := by decide +kernel
theorem dX7_refusePairs_109 : decode cX7_refusePairs 109 = .ok (.lcmp, 1) := by decide +kernel
theorem dX7_refusePairs_110 : decode cX7_refusePairs 110 = .ok (.ifCond .lt 12, 3) := by decide +kernel
theorem dX7_refusePairs_113 : decode cX7_refusePairs 113 = .ok (.lload 10, 2) := by decide +kernel
theorem dX7_refusePairs_115 : decode cX7_refusePairs 115 = .ok (.ldc2_w 275, 3) := by decide +kernel
theorem dX7_refusePairs_118 : decode cX7_refusePairs 118 = .ok (.lcmp, 1) := by decide +kernel
theorem dX7_refusePairs_119 : decode cX7_refusePairs 119 = .ok (.ifCond .le 6, 3) := by decide +kernel
theorem dX7_refusePairs_122 : decode cX7_refusePairs 122 = .ok (.bipush (-2), 2) := by decide +kernel
theorem dX7_refusePairs_124 : decode cX7_refusePairs 124 = .ok (.ireturn, 1) := by decide +kernel
theorem dX7_refusePairs_125 : decode cX7_refusePairs 125 = .ok (.iinc 9 1, 3) := by decide +kernel
theorem dX7_refusePairs_128 : decode cX7_refusePairs 128 = .ok (.goto (-43), 3) := by decide +kernel
theorem dX7_refusePairs_131 : decode cX7_refusePairs 131 = .ok (.iconst 0, 1) := by decide +kernel
theorem dX7_refusePairs_132 : decode cX7_refusePairs 132 = .ok (.ireturn, 1) := by decide +kernel
theorem dX7_isUnder_0 : decode cX7_isUnder 0 = .ok (.iload_n 0, 1) := by decide +kernel
theorem dX7_isUnder_1 : decode cX7_isUnder 1 = .ok (.istore_n 2, 1) := by decide +kernel
theorem dX7_isUnder_2 : decode cX7_isUnder 2 = .ok (.iconst 0, 1) := by decide +kernel
theorem dX7_isUnder_3 : decode cX7_isUnder 3 = .ok (.istore_n 3, 1) := by decide +kernel
theorem dX7_isUnder_4 : decode cX7_isUnder 4 = .ok (.iload_n 3, 1) := by decide +kernel
theorem dX7_isUnder_5 : decode cX7_isUnder 5 = .ok (.getstatic 97, 3) := by decide +kernel
theorem dX7_isUnder_8 : decode cX7_isUnder 8 = .ok (.arraylength, 1) := by decide +kernel
theorem dX7_isUnder_9 : decode cX7_isUnder 9 = .ok (.if_icmp .ge 34, 3) := by decide +kernel
theorem dX7_isUnder_12 : decode cX7_isUnder 12 = .ok (.iload_n 2, 1) := by decide +kernel
theorem dX7_isUnder_13 : decode cX7_isUnder 13 = .ok (.ifCond .lt 30, 3) := by decide +kernel
theorem dX7_isUnder_16 : decode cX7_isUnder 16 = .ok (.iload_n 2, 1) := by decide +kernel
theorem dX7_isUnder_17 : decode cX7_isUnder 17 = .ok (.getstatic 97, 3) := by decide +kernel
theorem dX7_isUnder_20 : decode cX7_isUnder 20 = .ok (.arraylength, 1) := by decide +kernel
theorem dX7_isUnder_21 : decode cX7_isUnder 21 = .ok (.if_icmp .ge 22, 3) := by decide +kernel
theorem dX7_isUnder_24 : decode cX7_isUnder 24 = .ok (.iload_n 2, 1) := by decide +kernel
theorem dX7_isUnder_25 : decode cX7_isUnder 25 = .ok (.iload_n 1, 1) := by decide +kernel
theorem dX7_isUnder_26 : decode cX7_isUnder 26 = .ok (.if_icmp .ne 5, 3) := by decide +kernel
theorem dX7_isUnder_29 : decode cX7_isUnder 29 = .ok (.iconst 1, 1) := by decide +kernel
theorem dX7_isUnder_30 : decode cX7_isUnder 30 = .ok (.ireturn, 1) := by decide +kernel
theorem dX7_isUnder_31 : decode cX7_isUnder 31 = .ok (.getstatic 97, 3) := by decide +kernel
theorem dX7_isUnder_34 : decode cX7_isUnder 34 = .ok (.iload_n 2, 1) := by decide +kernel
theorem dX7_isUnder_35 : decode cX7_isUnder 35 = .ok (.iaload, 1) := by decide +kernel
theorem dX7_isUnder_36 : decode cX7_isUnder 36 = .ok (.istore_n 2, 1) := by decide +kernel
theorem dX7_isUnder_37 : decode cX7_isUnder 37 = .ok (.iinc 3 1, 3) := by decide +kernel
theorem dX7_isUnder_40 : decode cX7_isUnder 40 = .ok (.goto (-36), 3) := by decide +kernel
theorem dX7_isUnder_43 : decode cX7_isUnder 43 = .ok (.iconst 0, 1) := by decide +kernel
theorem dX7_isUnder_44 : decode cX7_isUnder 44 = .ok (.ireturn, 1) := by decide +kernel
theorem dX7_sayingOf_0 : decode cX7_sayingOf 0 = .ok (.iload_n 0, 1) := by decide +kernel
theorem dX7_sayingOf_1 : decode cX7_sayingOf 1 = .ok (.tableswitch 57 1 5 #[35, 37, 41, 45, 49], 35) := by decide +kernel
theorem dX7_sayingOf_36 : decode cX7_sayingOf 36 = .ok (.iload_n 1, 1) := by decide +kernel
theorem dX7_sayingOf_37 : decode cX7_sayingOf 37 = .ok (.ireturn, 1) := by decide +kernel
theorem dX7_sayingOf_38 : decode cX7_sayingOf 38 = .ok (.iload_n 1, 1) := by decide +kernel
theorem dX7_sayingOf_39 : decode cX7_sayingOf 39 = .ok (.iconst 2, 1) := by decide +kernel
theorem dX7_sayingOf_40 : decode cX7_sayingOf 40 = .ok (.iadd, 1) := by decide +kernel
theorem dX7_sayingOf_41 : decode cX7_sayingOf 41 = .ok (.ireturn, 1) := by decide +kernel
theorem dX7_sayingOf_42 : decode cX7_sayingOf 42 = .ok (.iload_n 1, 1) := by decide +kernel
theorem dX7_sayingOf_43 : decode cX7_sayingOf 43 = .ok (.iconst 2, 1) := by decide +kernel
theorem dX7_sayingOf_44 : decode cX7_sayingOf 44 = .ok (.idiv, 1) := by decide +kernel
theorem dX7_sayingOf_45 : decode cX7_sayingOf 45 = .ok (.ireturn, 1) := by decide +kernel
theorem dX7_sayingOf_46 : decode cX7_sayingOf 46 = .ok (.iload_n 2, 1) := by decide +kernel
theorem dX7_sayingOf_47 : decode cX7_sayingOf 47 = .ok (.iconst 2, 1) := by decide +kernel
theorem dX7_sayingOf_48 : decode cX7_sayingOf 48 = .ok (.iadd, 1) := by decide +kernel
theorem dX7_sayingOf_49 : decode cX7_sayingOf 49 = .ok (.ireturn, 1) := by decide +kernel
theorem dX7_sayingOf_50 : decode cX7_sayingOf 50 = .ok (.iload_n 1, 1) := by decide +kernel
theorem dX7_sayingOf_51 : decode cX7_sayingOf 51 = .ok (.iconst 2, 1) := by decide +kernel
theorem dX7_sayingOf_52 : decode cX7_sayingOf 52 = .ok (.iadd, 1) := by decide +kernel
theorem dX7_sayingOf_53 : decode cX7_sayingOf 53 = .ok (.iload_n 3, 1) := by decide +kernel
theorem dX7_sayingOf_54 : decode cX7_sayingOf 54 = .ok (.iconst 2, 1) := by decide +kernel
theorem dX7_sayingOf_55 : decode cX7_sayingOf 55 = .ok (.idiv, 1) := by decide +kernel
theorem dX7_sayingOf_56 : decode cX7_sayingOf 56 = .ok (.iadd, 1) := by decide +kernel
theorem dX7_sayingOf_57 : decode cX7_sayingOf 57 = .ok (.ireturn, 1) := by decide +kernel
theorem dX7_sayingOf_58 : decode cX7_sayingOf 58 = .ok (.iconst 0, 1) := by decide +kernel
theorem dX7_sayingOf_59 : decode cX7_sayingOf 59 = .ok (.ireturn, 1) := by decide +kernel
theorem dX7_stingOf_0 : decode cX7_stingOf 0 = .ok (.iload_n 0, 1) := by decide +kernel
theorem dX7_stingOf_1 : decode cX7_stingOf 1 = .ok (.tableswitch 31 1 3 #[27, 27, 29], 27) := by decide +kernel
theorem dX7_stingOf_28 : decode cX7_stingOf 28 = .ok (.iconst 1, 1) := by decide +kernel
theorem dX7_stingOf_29 : decode cX7_stingOf 29 = .ok (.ireturn, 1) := by decide +kernel
theorem dX7_stingOf_30 : decode cX7_stingOf 30 = .ok (.iconst 2, 1) := by decide +kernel
theorem dX7_stingOf_31 : decode cX7_stingOf 31 = .ok (.ireturn, 1) := by decide +kernel
theorem dX7_stingOf_32 : decode cX7_stingOf 32 = .ok (.iconst 0, 1) := by decide +kernel
theorem dX7_stingOf_33 : decode cX7_stingOf 33 = .ok (.ireturn, 1) := by decide +kernel
theorem dX7_isBarred_0 : decode cX7_isBarred 0 = .ok (.iload_n 0, 1) := by decide +kernel
theorem dX7_isBarred_1 : decode cX7_isBarred 1 = .ok (.iconst 4, 1) := by decide +kernel
theorem dX7_isBarred_2 : decode cX7_isBarred 2 = .ok (.if_icmp .gt 7, 3) := by decide +kernel
theorem dX7_isBarred_5 : decode cX7_isBarred 5 = .ok (.iconst 1, 1) := by decide +kernel
theorem dX7_isBarred_6 : decode cX7_isBarred 6 = .ok (.goto 4, 3) := by decide +kernel
theorem dX7_isBarred_9 : decode cX7_isBarred 9 = .ok (.iconst 0, 1) := by decide +kernel
theorem dX7_isBarred_10 : decode cX7_isBarred 10 = .ok (.iload_n 1, 1) := by decide +kernel
theorem dX7_isBarred_11 : decode cX7_isBarred 11 = .ok (.iconst 4, 1) := by decide +kernel
theorem dX7_isBarred_12 : decode cX7_isBarred 12 = .ok (.if_icmp .gt 7, 3) := by decide +kernel
theorem dX7_isBarred_15 : decode cX7_isBarred 15 = .ok (.iconst 1, 1) := by decide +kernel
theorem dX7_isBarred_16 : decode cX7_isBarred 16 = .ok (.goto 4, 3) := by decide +kernel
theorem dX7_isBarred_19 : decode cX7_isBarred 19 = .ok (.iconst 0, 1) := by decide +kernel
theorem dX7_isBarred_20 : decode cX7_isBarred 20 = .ok (.if_icmp .eq 7, 3) := by decide +kernel
theorem dX7_isBarred_23 : decode cX7_isBarred 23 = .ok (.iconst 1, 1) := by decide +kernel
theorem dX7_isBarred_24 : decode cX7_isBarred 24 = .ok (.goto 4, 3) := by decide +kernel
theorem dX7_isBarred_27 : decode cX7_isBarred 27 = .ok (.iconst 0, 1) := by decide +kernel
theorem dX7_isBarred_28 : decode cX7_isBarred 28 = .ok (.istore_n 3, 1) := by decide +kernel
theorem dX7_isBarred_29 : decode cX7_isBarred 29 = .ok (.iload_n 3, 1) := by decide +kernel
theorem dX7_isBarred_30 : decode cX7_isBarred 30 = .ok (.ifCond .eq 13, 3) := by decide +kernel
theorem dX7_isBarred_33 : decode cX7_isBarred 33 = .ok (.iload_n 2, 1) := by decide +kernel
theorem dX7_isBarred_34 : decode cX7_isBarred 34 = .ok (.iconst 2, 1) := by decide +kernel
theorem dX7_isBarred_35 : decode cX7_isBarred 35 = .ok (.irem, 1) := by decide +kernel
theorem dX7_isBarred_36 : decode cX7_isBarred 36 = .ok (.ifCond .eq 7, 3) := by decide +kernel
theorem dX7_isBarred_39 : decode cX7_isBarred 39 = .ok (.iconst 1, 1) := by decide +kernel
theorem dX7_isBarred_40 : decode cX7_isBarred 40 = .ok (.goto 4, 3) := by decide +kernel
theorem dX7_isBarred_43 : decode cX7_isBarred 43 = .ok (.iconst 0, 1) := by decide +kernel
theorem dX7_isBarred_44 : decode cX7_isBarred 44 = .ok (.ireturn, 1) := by decide +kernel
theorem dX7_daysToReach_0 : decode cX7_daysToReach 0 = .ok (.iconst 1, 1) := by decide +kernel
theorem dX7_daysToReach_1 : decode cX7_daysToReach 1 = .ok (.iload_n 0, 1) := by decide +kernel
theorem dX7_daysToReach_2 : decode cX7_daysToReach 2 = .ok (.ishl, 1) := by decide +kernel
theorem dX7_daysToReach_3 : decode cX7_daysToReach 3 = .ok (.istore_n 3, 1) := by decide +kernel
theorem dX7_daysToReach_4 : decode cX7_daysToReach 4 = .ok (.iconst 0, 1) := by decide +kernel
theorem dX7_daysToReach_5 : decode cX7_daysToReach 5 = .ok (.istore 4, 2) := by decide +kernel
theorem dX7_daysToReach_7 : decode cX7_daysToReach 7 = .ok (.iload 4, 2) := by decide +kernel
theorem dX7_daysToReach_9 : decode cX7_daysToReach 9 = .ok (.bipush 18, 2) := by decide +kernel
theorem dX7_daysToReach_11 : decode cX7_daysToReach 11 = .ok (.if_icmp .ge 29, 3) := by decide +kernel
theorem dX7_daysToReach_14 : decode cX7_daysToReach 14 = .ok (.iload_n 3, 1) := by decide +kernel
theorem dX7_daysToReach_15 : decode cX7_daysToReach 15 = .ok (.iload_n 1, 1) := by decide +kernel
theorem dX7_daysToReach_16 : decode cX7_daysToReach 16 = .ok (.ishr, 1) := by decide +kernel
theorem dX7_daysToReach_17 : decode cX7_daysToReach 17 = .ok (.iconst 1, 1) := by decide +kernel
theorem dX7_daysToReach_18 : decode cX7_daysToReach 18 = .ok (.iand, 1) := by decide +kernel
theorem dX7_daysToReach_19 : decode cX7_daysToReach 19 = .ok (.ifCond .eq 6, 3) := by decide +kernel
theorem dX7_daysToReach_22 : decode cX7_daysToReach 22 = .ok (.iload 4, 2) := by decide +kernel
theorem dX7_daysToReach_24 : decode cX7_daysToReach 24 = .ok (.ireturn, 1) := by decide +kernel
theorem dX7_daysToReach_25 : decode cX7_daysToReach 25 = .ok (.iload_n 3, 1) := by decide +kernel
theorem dX7_daysToReach_26 : decode cX7_daysToReach 26 = .ok (.iload_n 2, 1) := by decide +kernel
theorem dX7_daysToReach_27 : decode cX7_daysToReach 27 = .ok (.iload 4, 2) := by decide +kernel
theorem dX7_daysToReach_29 : decode cX7_daysToReach 29 = .ok (.iadd, 1) := by decide +kernel
theorem dX7_daysToReach_30 : decode cX7_daysToReach 30 = .ok (.invokestatic 277, 3) := by decide +kernel
theorem dX7_daysToReach_33 : decode cX7_daysToReach 33 = .ok (.istore_n 3, 1) := by decide +kernel
theorem dX7_daysToReach_34 : decode cX7_daysToReach 34 = .ok (.iinc 4 1, 3) := by decide +kernel
theorem dX7_daysToReach_37 : decode cX7_daysToReach 37 = .ok (.goto (-30), 3) := by decide +kernel
theorem dX7_daysToReach_40 : decode cX7_daysToReach 40 = .ok (.bipush (-4), 2) := by decide +kernel
theorem dX7_daysToReach_42 : decode cX7_daysToReach 42 = .ok (.ireturn, 1) := by decide +kernel
theorem dX7_reachedNext_0 : decode cX7_reachedNext 0 = .ok (.iconst 0, 1) := by decide +kernel
theorem dX7_reachedNext_1 : decode cX7_reachedNext 1 = .ok (.istore_n 2, 1) := by decide +kernel
theorem dX7_reachedNext_2 : decode cX7_reachedNext 2 = .ok (.iconst 0, 1) := by decide +kernel
theorem dX7_reachedNext_3 : decode cX7_reachedNext 3 = .ok (.istore_n 3, 1) := by decide +kernel
theorem dX7_reachedNext_4 : decode cX7_reachedNext 4 = .ok (.iload_n 3, 1) := by decide +kernel
theorem dX7_reachedNext_5 : decode cX7_reachedNext 5 = .ok (.bipush 9, 2) := by decide +kernel
theorem dX7_reachedNext_7 : decode cX7_reachedNext 7 = .ok (.if_icmp .gt 69, 3) := by decide +kernel
theorem dX7_reachedNext_10 : decode cX7_reachedNext 10 = .ok (.iload_n 0, 1) := by decide +kernel
theorem dX7_reachedNext_11 : decode cX7_reachedNext 11 = .ok (.iload_n 3, 1) := by decide +kernel
theorem dX7_reachedNext_12 : decode cX7_reachedNext 12 = .ok (.ishr, 1) := by decide +kernel
theorem dX7_reachedNext_13 : decode cX7_reachedNext 13 = .ok (.iconst 1, 1) := by decide +kernel
theorem dX7_reachedNext_14 : decode cX7_reachedNext 14 = .ok (.iand, 1) := by decide +kernel
theorem dX7_reachedNext_15 : decode cX7_reachedNext 15 = .ok (.ifCond .ne 6, 3) := by decide +kernel
theorem dX7_reachedNext_18 : decode cX7_reachedNext 18 = .ok (.goto 52, 3) := by decide +kernel
theorem dX7_reachedNext_21 : decode cX7_reachedNext 21 = .ok (.bipush 9, 2) := by decide +kernel
theorem dX7_reachedNext_23 : decode cX7_reachedNext 23 = .ok (.iload_n 3, 1) := by decide +kernel
theorem dX7_reachedNext_24 : decode cX7_reachedNext 24 = .ok (.iconst 3, 1) := by decide +kernel
theorem dX7_reachedNext_25 : decode cX7_reachedNext 25 = .ok (.iadd, 1) := by decide +kernel
theorem dX7_reachedNext_26 : decode cX7_reachedNext 26 = .ok (.invokestatic 280, 3) := by decide +kernel
theorem dX7_reachedNext_29 : decode cX7_reachedNext 29 = .ok (.istore 4, 2) := by decide +kernel
theorem dX7_reachedNext_31 : decode cX7_reachedNext 31 = .ok (.iconst 0, 1) := by decide +kernel
theorem dX7_reachedNext_32 : decode cX7_reachedNext 32 = .ok (.iload_n 3, 1) := by decide +kernel
theorem dX7_reachedNext_33 : decode cX7_reachedNext 33 = .ok (.iconst 3, 1) := by decide +kernel
theorem dX7_reachedNext_34 : decode cX7_reachedNext 34 = .ok (.isub, 1) := by decide +kernel
theorem dX7_reachedNext_35 : decode cX7_reachedNext 35 = .ok (.invokestatic 285, 3) := by decide +kernel
theorem dX7_reachedNext_38 : decode cX7_reachedNext 38 = .ok (.istore 5, 2) := by decide +kernel
theorem dX7_reachedNext_40 : decode cX7_reachedNext 40 = .ok (.iload 5, 2) := by decide +kernel
theorem dX7_reachedNext_42 : decode cX7_reachedNext 42 = .ok (.iload 4, 2) := by decide +kernel
theorem dX7_reachedNext_44 : decode cX7_reachedNext 44 = .ok (.if_icmp .gt 26, 3) := by decide +kernel
theorem dX7_reachedNext_47 : decode cX7_reachedNext 47 = .ok (.iload_n 3, 1) := by decide +kernel
theorem dX7_reachedNext_48 : decode cX7_reachedNext 48 = .ok (.iload 5, 2) := by decide +kernel
theorem dX7_reachedNext_50 : decode cX7_reachedNext 50 = .ok (.iload_n 1, 1) := by decide +kernel
theorem dX7_reachedNext_51 : decode cX7_reachedNext 51 = .ok (.invokestatic 288, 3) := by decide +kernel
theorem dX7_reachedNext_54 : decode cX7_reachedNext 54 = .ok (.ifCond .ne 10, 3) := by decide +kernel
theorem dX7_reachedNext_57 : decode cX7_reachedNext 57 = .ok (.iload_n 2, 1) := by decide +kernel
theorem dX7_reachedNext_58 : decode cX7_reachedNext 58 = .ok (.iconst 1, 1) := by decide +kernel
theorem dX7_reachedNext_59 : decode cX7_reachedNext 59 = .ok (.iload 5, 2) := by decide +kernel
theorem dX7_reachedNext_61 : decode cX7_reachedNext 61 = .ok (.ishl, 1) := by decide +kernel
theorem dX7_reachedNext_62 : decode cX7_reachedNext 62 = .ok (.ior, 1) := by decide +kernel
theorem dX7_reachedNext_63 : decode cX7_reachedNext 63 = .ok (.istore_n 2, 1) := by decide +kernel
theorem dX7_reachedNext_64 : decode cX7_reachedNext 64 = .ok (.iinc 5 1, 3) := by decide +kernel
theorem dX7_reachedNext_67 : decode cX7_reachedNext 67 = .ok (.goto (-27), 3) := by decide +kernel
theorem dX7_reachedNext_70 : decode cX7_reachedNext 70 = .ok (.iinc 3 1, 3) := by decide +kernel
theorem dX7_reachedNext_73 : decode cX7_reachedNext 73 = .ok (.goto (-69), 3) := by decide +kernel
theorem dX7_reachedNext_76 : decode cX7_reachedNext 76 = .ok (.iload_n 2, 1) := by decide +kernel
theorem dX7_reachedNext_77 : decode cX7_reachedNext 77 = .ok (.ireturn, 1) := by decide +kernel
theorem dX7_waysOfGusts_0 : decode cX7_waysOfGusts 0 = .ok (.bipush 10, 2) := by decide +kernel
theorem dX7_waysOfGusts_2 : decode cX7_waysOfGusts 2 = .ok (.iload_n 0, 1) := by decide +kernel
theorem dX7_waysOfGusts_3 : decode cX7_waysOfGusts 3 = .ok (.isub, 1) := by decide +kernel
theorem dX7_waysOfGusts_4 : decode cX7_waysOfGusts 4 = .ok (.istore_n 2, 1) := by decide +kernel
theorem dX7_waysOfGusts_5 : decode cX7_waysOfGusts 5 = .ok (.iconst 0, 1) := by decide +kernel
theorem dX7_waysOfGusts_6 : decode cX7_waysOfGusts 6 = .ok (.istore_n 3, 1) := by decide +kernel
theorem dX7_waysOfGusts_7 : decode cX7_waysOfGusts 7 = .ok (.iload_n 1, 1) := by decide +kernel
theorem dX7_waysOfGusts_8 : decode cX7_waysOfGusts 8 = .ok (.ifCond .lt 11, 3) := by decide +kernel
theorem dX7_waysOfGusts_11 : decode cX7_waysOfGusts 11 = .ok (.iload_n 3, 1) := by decide +kernel
theorem dX7_waysOfGusts_12 : decode cX7_waysOfGusts 12 = .ok (.iload_n 2, 1) := by decide +kernel
theorem dX7_waysOfGusts_13 : decode cX7_waysOfGusts 13 = .ok (.iload_n 2, 1) := by decide +kernel
theorem dX7_waysOfGusts_14 : decode cX7_waysOfGusts 14 = .ok (.imul, 1) := by decide +kernel
theorem dX7_waysOfGusts_15 : decode cX7_waysOfGusts 15 = .ok (.iload_n 2, 1) := by decide +kernel
theorem dX7_waysOfGusts_16 : decode cX7_waysOfGusts 16 = .ok (.imul, 1) := by decide +kernel
theorem dX7_waysOfGusts_17 : decode cX7_waysOfGusts 17 = .ok (.iadd, 1) := by decide +kernel
theorem dX7_waysOfGusts_18 : decode cX7_waysOfGusts 18 = .ok (.istore_n 3, 1) := by decide +kernel
theorem dX7_waysOfGusts_19 : decode cX7_waysOfGusts 19 = .ok (.iload_n 1, 1) := by decide +kernel
theorem dX7_waysOfGusts_20 : decode cX7_waysOfGusts 20 = .ok (.iconst 1, 1) := by decide +kernel
theorem dX7_waysOfGusts_21 : decode cX7_waysOfGusts 21 = .ok (.if_icmp .lt 13, 3) := by decide +kernel
theorem dX7_waysOfGusts_24 : decode cX7_waysOfGusts 24 = .ok (.iload_n 3, 1) := by decide +kernel
theorem dX7_waysOfGusts_25 : decode cX7_waysOfGusts 25 = .ok (.iconst 3, 1) := by decide +kernel
theorem dX7_waysOfGusts_26 : decode cX7_waysOfGusts 26 = .ok (.iload_n 0, 1) := by decide +kernel
theorem dX7_waysOfGusts_27 : decode cX7_waysOfGusts 27 = .ok (.imul, 1) := by decide +kernel
theorem dX7_waysOfGusts_28 : decode cX7_waysOfGusts 28 = .ok (.iload_n 2, 1) := by decide +kernel
theorem dX7_waysOfGusts_29 : decode cX7_waysOfGusts 29 = .ok (.imul, 1) := by decide +kernel
theorem dX7_waysOfGusts_30 : decode cX7_waysOfGusts 30 = .ok (.iload_n 2, 1) := by decide +kernel
theorem dX7_waysOfGusts_31 : decode cX7_waysOfGusts 31 = .ok (.imul, 1) := by decide +kernel
theorem dX7_waysOfGusts_32 : decode cX7_waysOfGusts 32 = .ok (.iadd, 1) := by decide +kernel
theorem dX7_waysOfGusts_33 : decode cX7_waysOfGusts 33 = .ok (.istore_n 3, 1) := by decide +kernel
theorem dX7_waysOfGusts_34 : decode cX7_waysOfGusts 34 = .ok (.iload_n 1, 1) := by decide +kernel
theorem dX7_waysOfGusts_35 : decode cX7_waysOfGusts 35 = .ok (.iconst 2, 1) := by decide +kernel
theorem dX7_waysOfGusts_36 : decode cX7_waysOfGusts 36 = .ok (.if_icmp .lt 13, 3) := by decide +kernel
theorem dX7_waysOfGusts_39 : decode cX7_waysOfGusts 39 = .ok (.iload_n 3, 1) := by decide +kernel
theorem dX7_waysOfGusts_40 : decode cX7_waysOfGusts 40 = .ok (.iconst 3, 1) := by decide +kernel
theorem dX7_waysOfGusts_41 : decode cX7_waysOfGusts 41 = .ok (.iload_n 0, 1) := by decide +kernel
theorem dX7_waysOfGusts_42 : decode cX7_waysOfGusts 42 = .ok (.imul, 1) := by decide +kernel
theorem dX7_waysOfGusts_43 : decode cX7_waysOfGusts 43 = .ok (.iload_n 0, 1) := by decide +kernel
theorem dX7_waysOfGusts_44 : decode cX7_waysOfGusts 44 = .ok (.imul, 1) := by decide +kernel
theorem dX7_waysOfGusts_45 : decode cX7_waysOfGusts 45 = .ok (.iload_n 2, 1) := by decide +kernel
theorem dX7_waysOfGusts_46 : decode cX7_waysOfGusts 46 = .ok (.imul, 1) := by decide +kernel
theorem dX7_waysOfGusts_47 : decode cX7_waysOfGusts 47 = .ok (.iadd, 1) := by decide +kernel
theorem dX7_waysOfGusts_48 : decode cX7_waysOfGusts 48 = .ok (.istore_n 3, 1) := by decide +kernel
theorem dX7_waysOfGusts_49 : decode cX7_waysOfGusts 49 = .ok (.iload_n 1, 1) := by decide +kernel
theorem dX7_waysOfGusts_50 : decode cX7_waysOfGusts 50 = .ok (.iconst 3, 1) := by decide +kernel
theorem dX7_waysOfGusts_51 : decode cX7_waysOfGusts 51 = .ok (.if_icmp .lt 11, 3) := by decide +kernel
theorem dX7_waysOfGusts_54 : decode cX7_waysOfGusts 54 = .ok (.iload_n 3, 1) := by decide +kernel
theorem dX7_waysOfGusts_55 : decode cX7_waysOfGusts 55 = .ok (.iload_n 0, 1) := by decide +kernel
theorem dX7_waysOfGusts_56 : decode cX7_waysOfGusts 56 = .ok (.iload_n 0, 1) := by decide +kernel
theorem dX7_waysOfGusts_57 : decode cX7_waysOfGusts 57 = .ok (.imul, 1) := by decide +kernel
theorem dX7_waysOfGusts_58 : decode cX7_waysOfGusts 58 = .ok (.iload_n 0, 1) := by decide +kernel
theorem dX7_waysOfGusts_59 : decode cX7_waysOfGusts 59 = .ok (.imul, 1) := by decide +kernel
theorem dX7_waysOfGusts_60 : decode cX7_waysOfGusts 60 = .ok (.iadd, 1) := by decide +kernel
theorem dX7_waysOfGusts_61 : decode cX7_waysOfGusts 61 = .ok (.istore_n 3, 1) := by decide +kernel
theorem dX7_waysOfGusts_62 : decode cX7_waysOfGusts 62 = .ok (.iload_n 3, 1) := by decide +kernel
theorem dX7_waysOfGusts_63 : decode cX7_waysOfGusts 63 = .ok (.ireturn, 1) := by decide +kernel
theorem dX7_commonDivisor_0 : decode cX7_commonDivisor 0 = .ok (.iload_n 0, 1) := by decide +kernel
theorem dX7_commonDivisor_1 : decode cX7_commonDivisor 1 = .ok (.istore_n 2, 1) := by decide +kernel
theorem dX7_commonDivisor_2 : decode cX7_commonDivisor 2 = .ok (.iload_n 1, 1) := by decide +kernel
theorem dX7_commonDivisor_3 : decode cX7_commonDivisor 3 = .ok (.istore_n 3, 1) := by decide +kernel
theorem dX7_commonDivisor_4 : decode cX7_commonDivisor 4 = .ok (.iconst 0, 1) := by decide +kernel
theorem dX7_commonDivisor_5 : decode cX7_commonDivisor 5 = .ok (.istore 4, 2) := by decide +kernel
theorem dX7_commonDivisor_7 : decode cX7_commonDivisor 7 = .ok (.iload 4, 2) := by decide +kernel
theorem dX7_commonDivisor_9 : decode cX7_commonDivisor 9 = .ok (.bipush 64, 2) := by decide +kernel
theorem dX7_commonDivisor_11 : decode cX7_commonDivisor 11 = .ok (.if_icmp .ge 23, 3) := by decide +kernel
theorem dX7_commonDivisor_14 : decode cX7_commonDivisor 14 = .ok (.iload_n 3, 1) := by decide +kernel
theorem dX7_commonDivisor_15 : decode cX7_commonDivisor 15 = .ok (.ifCond .eq 19, 3) := by decide +kernel
theorem dX7_commonDivisor_18 : decode cX7_commonDivisor 18 = .ok (.iload_n 2, 1) := by decide +kernel
theorem dX7_commonDivisor_19 : decode cX7_commonDivisor 19 = .ok (.iload_n 3, 1) := by decide +kernel
theorem dX7_commonDivisor_20 : decode cX7_commonDivisor 20 = .ok (.irem, 1) := by decide +kernel
theorem dX7_commonDivisor_21 : decode cX7_commonDivisor 21 = .ok (.istore 5, 2) := by decide +kernel
theorem dX7_commonDivisor_23 : decode cX7_commonDivisor 23 = .ok (.iload_n 3, 1) := by decide +kernel
theorem dX7_commonDivisor_24 : decode cX7_commonDivisor 24 = .ok (.istore_n 2, 1) := by decide +kernel
theorem dX7_commonDivisor_25 : decode cX7_commonDivisor 25 = .ok (.iload 5, 2) := by decide +kernel
theorem dX7_commonDivisor_27 : decode cX7_commonDivisor 27 = .ok (.istore_n 3, 1) := by decide +kernel
theorem dX7_commonDivisor_28 : decode cX7_commonDivisor 28 = .ok (.iinc 4 1, 3) := by decide +kernel
theorem dX7_commonDivisor_31 : decode cX7_commonDivisor 31 = .ok (.goto (-24), 3) := by decide +kernel
theorem dX7_commonDivisor_34 : decode cX7_commonDivisor 34 = .ok (.iconst 1, 1) := by decide +kernel
theorem dX7_commonDivisor_35 : decode cX7_commonDivisor 35 = .ok (.iload_n 2, 1) := by decide +kernel
theorem dX7_commonDivisor_36 : decode cX7_commonDivisor 36 = .ok (.invokestatic 285, 3) := by decide +kernel
theorem dX7_commonDivisor_39 : decode cX7_commonDivisor 39 = .ok (.ireturn, 1) := by decide +kernel
theorem dX7_drawDays_0 : decode cX7_drawDays 0 = .ok (.aload_n 0, 1) := by decide +kernel
theorem dX7_drawDays_1 : decode cX7_drawDays 1 = .ok (.invokevirtual 257, 3) := by decide +kernel
theorem dX7_drawDays_4 : decode cX7_drawDays 4 = .ok (.istore_n 3, 1) := by decide +kernel
theorem dX7_drawDays_5 : decode cX7_drawDays 5 = .ok (.aload_n 0, 1) := by decide +kernel
theorem dX7_drawDays_6 : decode cX7_drawDays 6 = .ok (.invokevirtual 87, 3) := by decide +kernel
theorem dX7_drawDays_9 : decode cX7_drawDays 9 = .ok (.istore 4, 2) := by decide +kernel
theorem dX7_drawDays_11 : decode cX7_drawDays 11 = .ok (.iload_n 3, 1) := by decide +kernel
theorem dX7_drawDays_12 : decode cX7_drawDays 12 = .ok (.iconst 1, 1) := by decide +kernel
theorem dX7_drawDays_13 : decode cX7_drawDays 13 = .ok (.if_icmp .lt 9, 3) := by decide +kernel
theorem dX7_drawDays_16 : decode cX7_drawDays 16 = .ok (.iload 4, 2) := by decide +kernel
theorem dX7_drawDays_18 : decode cX7_drawDays 18 = .ok (.iconst 1, 1) := by decide +kernel
theorem dX7_drawDays_19 : decode cX7_drawDays 19 = .ok (.if_icmp .ge 4, 3) := by decide +kernel
theorem dX7_drawDays_22 : decode cX7_drawDays 22 = .ok (.return_, 1) := by decide +kernel
theorem dX7_drawDays_23 : decode cX7_drawDays 23 = .ok (.iload_n 2, 1) := by decide +kernel
theorem dX7_drawDays_24 : decode cX7_drawDays 24 = .ok (.i2l, 1) := by decide +kernel
theorem dX7_drawDays_25 : decode cX7_drawDays 25 = .ok (.lstore 5, 2) := by decide +kernel
theorem dX7_drawDays_27 : decode cX7_drawDays 27 = .ok (.iconst 0, 1) := by decide +kernel
theorem dX7_drawDays_28 : decode cX7_drawDays 28 = .ok (.istore 7, 2) := by decide +kernel
theorem dX7_drawDays_30 : decode cX7_drawDays 30 = .ok (.iload 7, 2) := by decide +kernel
theorem dX7_drawDays_32 : decode cX7_drawDays 32 = .ok (.iload_n 1, 1) := by decide +kernel
theorem dX7_drawDays_33 : decode cX7_drawDays 33 = .ok (.if_icmp .ge 69, 3) := by decide +kernel
theorem dX7_drawDays_36 : decode cX7_drawDays 36 = .ok (.ldc2_w 292, 3) := by decide +kernel
theorem dX7_drawDays_39 : decode cX7_drawDays 39 = .ok (.lload 5, 2) := by decide +kernel
theorem dX7_drawDays_41 : decode cX7_drawDays 41 = .ok (.lmul, 1) := by decide +kernel
theorem dX7_drawDays_42 : decode cX7_drawDays 42 = .ok (.ldc2_w 294, 3) := by decide +kernel
theorem dX7_drawDays_45 : decode cX7_drawDays 45 = .ok (.lrem, 1) := by decide +kernel
theorem dX7_drawDays_46 : decode cX7_drawDays 46 = .ok (.lstore 5, 2) := by decide +kernel
theorem dX7_drawDays_48 : decode cX7_drawDays 48 = .ok (.lload 5, 2) := by decide +kernel
theorem dX7_drawDays_50 : decode cX7_drawDays 50 = .ok (.iload 4, 2) := by decide +kernel
theorem dX7_drawDays_52 : decode cX7_drawDays 52 = .ok (.i2l, 1) := by decide +kernel
theorem dX7_drawDays_53 : decode cX7_drawDays 53 = .ok (.lrem, 1) := by decide +kernel
theorem dX7_drawDays_54 : decode cX7_drawDays 54 = .ok (.l2i, 1) := by decide +kernel
theorem dX7_drawDays_55 : decode cX7_drawDays 55 = .ok (.istore 8, 2) := by decide +kernel
theorem dX7_drawDays_57 : decode cX7_drawDays 57 = .ok (.lload 5, 2) := by decide +kernel
theorem dX7_drawDays_59 : decode cX7_drawDays 59 = .ok (.ldc2_w 296, 3) := by decide +kernel
theorem dX7_drawDays_62 : decode cX7_drawDays 62 = .ok (.ldiv, 1) := by decide +kernel
theorem dX7_drawDays_63 : decode cX7_drawDays 63 = .ok (.iload_n 3, 1) := by decide +kernel
theorem dX7_drawDays_64 : decode cX7_drawDays 64 = .ok (.i2l, 1) := by decide +kernel
theorem dX7_drawDays_65 : decode cX7_drawDays 65 = .ok (.lrem, 1) := by decide +kernel
theorem dX7_drawDays_66 : decode cX7_drawDays 66 = .ok (.l2i, 1) := by decide +kernel
theorem dX7_drawDays_67 : decode cX7_drawDays 67 = .ok (.istore 9, 2) := by decide +kernel
theorem dX7_drawDays_69 : decode cX7_drawDays 69 = .ok (.aload_n 0, 1) := by decide +kernel
theorem dX7_drawDays_70 : decode cX7_drawDays 70 = .ok (.iload 8, 2) := by decide +kernel
theorem dX7_drawDays_72 : decode cX7_drawDays 72 = .ok (.iload 9, 2) := by decide +kernel
theorem dX7_drawDays_74 : decode cX7_drawDays 74 = .ok (.invokevirtual 269, 3) := by decide +kernel
theorem dX7_drawDays_77 : decode cX7_drawDays 77 = .ok (.ifCond .eq 15, 3) := by decide +kernel
theorem dX7_drawDays_80 : decode cX7_drawDays 80 = .ok (.aload_n 0, 1) := by decide +kernel
theorem dX7_drawDays_81 : decode cX7_drawDays 81 = .ok (.iload 8, 2) := by decide +kernel
theorem dX7_drawDays_83 : decode cX7_drawDays 83 = .ok (.iload 9, 2) := by decide +kernel
theorem dX7_drawDays_85 : decode cX7_drawDays 85 = .ok (.invokevirtual 124, 3) := by decide +kernel
theorem dX7_drawDays_88 : decode cX7_drawDays 88 = .ok (.pop, 1) := by decide +kernel
theorem dX7_drawDays_89 : decode cX7_drawDays 89 = .ok (.goto 7, 3) := by decide +kernel
theorem dX7_drawDays_92 : decode cX7_drawDays 92 = .ok (.aload_n 0, 1) := by decide +kernel
theorem dX7_drawDays_93 : decode cX7_drawDays 93 = .ok (.invokevirtual 139, 3) := by decide +kernel
theorem dX7_drawDays_96 : decode cX7_drawDays 96 = .ok (.iinc 7 1, 3) := by decide +kernel
theorem dX7_drawDays_99 : decode cX7_drawDays 99 = .ok (.goto (-69), 3) := by decide +kernel
theorem dX7_drawDays_102 : decode cX7_drawDays 102 = .ok (.return_, 1) := by decide +kernel
end
section
theorem dX8_init_0 : decode cX8_init 0 = .ok (.aload_n 0, 1) := by decide +kernel
theorem dX8_init_1 : decode cX8_init 1 = .ok (.invokespecial 1, 3) := by decide +kernel
theorem dX8_init_4 : decode cX8_init 4 = .ok (.aload_n 0, 1) := by decide +kernel
theorem dX8_init_5 : decode cX8_init 5 = .ok (.iconst 4, 1) := by decide +kernel
theorem dX8_init_6 : decode cX8_init 6 = .ok (.newarray .int, 2) := by decide +kernel
theorem dX8_init_8 : decode cX8_init 8 = .ok (.putfield 7, 3) := by decide +kernel
theorem dX8_init_11 : decode cX8_init 11 = .ok (.aload_n 0, 1) := by decide +kernel
theorem dX8_init_12 : decode cX8_init 12 = .ok (.iconst 4, 1) := by decide +kernel
theorem dX8_init_13 : decode cX8_init 13 = .ok (.newarray .int, 2) := by decide +kernel
theorem dX8_init_15 : decode cX8_init 15 = .ok (.putfield 13, 3) := by decide +kernel
theorem dX8_init_18 : decode cX8_init 18 = .ok (.aload_n 0, 1) := by decide +kernel
theorem dX8_init_19 : decode cX8_init 19 = .ok (.bipush 96, 2) := by decide +kernel
theorem dX8_init_21 : decode cX8_init 21 = .ok (.newarray .long, 2) := by decide +kernel
theorem dX8_init_23 : decode cX8_init 23 = .ok (.putfield 16, 3) := by decide +kernel
theorem dX8_init_26 : decode cX8_init 26 = .ok (.aload_n 0, 1) := by decide +kernel
theorem dX8_init_27 : decode cX8_init 27 = .ok (.sipush 130, 3) := by decide +kernel
theorem dX8_init_30 : decode cX8_init 30 = .ok (.newarray .int, 2) := by decide +kernel
theorem dX8_init_32 : decode cX8_init 32 = .ok (.putfield 20, 3) := by decide +kernel
theorem dX8_init_35 : decode cX8_init 35 = .ok (.aload_n 0, 1) := by decide +kernel
theorem dX8_init_36 : decode cX8_init 36 = .ok (.bipush 83, 2) := by decide +kernel
theorem dX8_init_38 : decode cX8_init 38 = .ok (.newarray .int, 2) := by decide +kernel
theorem dX8_init_40 : decode cX8_init 40 = .ok (.putfield 23, 3) := by decide +kernel
theorem dX8_init_43 : decode cX8_init 43 = .ok (.aload_n 0, 1) := by decide +kernel
theorem dX8_init_44 : decode cX8_init 44 = .ok (.bipush 83, 2) := by decide +kernel
theorem dX8_init_46 : decode cX8_init 46 = .ok (.newarray .int, 2) := by decide +kernel
theorem dX8_init_48 : decode cX8_init 48 = .ok (.putfield 26, 3) := by decide +kernel
theorem dX8_init_51 : decode cX8_init 51 = .ok (.aload_n 0, 1) := by decide +kernel
theorem dX8_init_52 : decode cX8_init 52 = .ok (.bipush 83, 2) := by decide +kernel
theorem dX8_init_54 : decode cX8_init 54 = .ok (.newarray .int, 2) := by decide +kernel
theorem dX8_init_56 : decode cX8_init 56 = .ok (.putfield 29, 3) := by decide +kernel
theorem dX8_init_59 : decode cX8_init 59 = .ok (.aload_n 0, 1) := by decide +kernel
theorem dX8_init_60 : decode cX8_init 60 = .ok (.sipush 166, 3) := by decide +kernel
theorem dX8_init_63 : decode cX8_init 63 = .ok (.newarray .int, 2) := by decide +kernel
theorem dX8_init_65 : decode cX8_init 65 = .ok (.putfield 32, 3) := by decide +kernel
theorem dX8_init_68 : decode cX8_init 68 = .ok (.aload_n 0, 1) := by decide +kernel
theorem dX8_init_69 : decode cX8_init 69 = .ok (.iconst 2, 1) := by decide +kernel
theorem dX8_init_70 : decode cX8_init 70 = .ok (.newarray .boolean, 2) := by decide +kernel
theorem dX8_init_72 : decode cX8_init 72 = .ok (.putfield 35, 3) := by decide +kernel
theorem dX8_init_75 : decode cX8_init 75 = .ok (.aload_n 0, 1) := by decide +kernel
theorem dX8_init_76 : decode cX8_init 76 = .ok (.sipush 1992, 3) := by decide +kernel
theorem dX8_init_79 : decode cX8_init 79 = .ok (.newarray .int, 2) := by decide +kernel
theorem dX8_init_81 : decode cX8_init 81 = .ok (.putfield 39, 3) := by decide +kernel
theorem dX8_init_84 : decode cX8_init 84 = .ok (.aload_n 0, 1) := by decide +kernel
theorem dX8_init_85 : decode cX8_init 85 = .ok (.sipush 576, 3) := by decide +kernel
theorem dX8_init_88 : decode cX8_init 88 = .ok (.newarray .int, 2) := by decide +kernel
theorem dX8_init_90 : decode cX8_init 90 = .ok (.putfield 42, 3) := by decide +kernel
theorem dX8_init_93 : decode cX8_init 93 = .ok (.aload_n 0, 1) := by decide +kernel
theorem dX8_init_94 : decode cX8_init 94 = .ok (.bipush 10, 2) := by decide +kernel
theorem dX8_init_96 : decode cX8_init 96 = .ok (.newarray .int, 2) := by decide +kernel
theorem dX8_init_98 : decode cX8_init 98 = .ok (.putfield 45, 3) := by decide +kernel
theorem dX8_init_101 : decode cX8_init 101 = .ok (.aload_n 0, 1) := by decide +kernel
theorem dX8_init_102 : decode cX8_init 102 = .ok (.bipush 10, 2) := by decide +kernel
theorem dX8_init_104 : decode cX8_init 104 = .ok (.newarray .int, 2) := by decide +kernel
theorem dX8_init_106 : decode cX8_init 106 = .ok (.putfield 48, 3) := by decide +kernel
theorem dX8_init_109 : decode cX8_init 109 = .ok (.aload_n 0, 1) := by decide +kernel
theorem dX8_init_110 : decode cX8_init 110 = .ok (.iconst 3, 1) := by decide +kernel
theorem dX8_init_111 : decode cX8_init 111 = .ok (.newarray .int, 2) := by decide +kernel
theorem dX8_init_113 : decode cX8_init 113 = .ok (.putfield 51, 3) := by decide +kernel
theorem dX8_init_116 : decode cX8_init 116 = .ok (.aload_n 0, 1) := by decide +kernel
theorem dX8_init_117 : decode cX8_init 117 = .ok (.bipush 10, 2) := by decide +kernel
theorem dX8_init_119 : decode cX8_init 119 = .ok (.newarray .int, 2) := by decide +kernel
theorem dX8_init_121 : decode cX8_init 121 = .ok (.putfield 54, 3) := by decide +kernel
theorem dX8_init_124 : decode cX8_init 124 = .ok (.iconst 0, 1) := by decide +kernel
theorem dX8_init_125 : decode cX8_init 125 = .ok (.istore_n 1, 1) := by decide +kernel
theorem dX8_init_126 : decode cX8_init 126 = .ok (.iload_n 1, 1) := by decide +kernel
theorem dX8_init_127 : decode cX8_init 127 = .ok (.iconst 4, 1) := by decide +kernel
theorem dX8_init_128 : decode cX8_init 128 = .ok (.if_icmp .ge 16, 3) := by decide +kernel
theorem dX8_init_131 : decode cX8_init 131 = .ok (.aload_n 0, 1) := by decide +kernel
theorem dX8_init_132 : decode cX8_init 132 = .ok (.getfield 7, 3) := by decide +kernel
theorem dX8_init_135 : decode cX8_init 135 = .ok (.iload_n 1, 1) := by decide +kernel
theorem dX8_init_136 : decode cX8_init 136 = .ok (.iconst (-1), 1) := by decide +kernel
theorem dX8_init_137 : decode cX8_init 137 = .ok (.iastore, 1) := by decide +kernel
theorem dX8_init_138 : decode cX8_init 138 = .ok (.iinc 1 1, 3) := by decide +kernel
theorem dX8_init_141 : decode cX8_init 141 = .ok (.goto (-15), 3) := by decide +kernel
theorem dX8_init_144 : decode cX8_init 144 = .ok (.return_, 1) := by decide +kernel
theorem dX8_in_0 : decode cX8_in 0 = .ok (.iload_n 0, 1) := by decide +kernel
theorem dX8_in_1 : decode cX8_in 1 = .ok (.iload_n 1, 1) := by decide +kernel
theorem dX8_in_2 : decode cX8_in 2 = .ok (.if_icmp .lt 12, 3) := by decide +kernel
theorem dX8_in_5 : decode cX8_in 5 = .ok (.iload_n 0, 1) := by decide +kernel
theorem dX8_in_6 : decode cX8_in 6 = .ok (.iload_n 2, 1) := by decide +kernel
theorem dX8_in_7 : decode cX8_in 7 = .ok (.if_icmp .gt 7, 3) := by decide +kernel
theorem dX8_in_10 : decode cX8_in 10 = .ok (.iconst 1, 1) := by decide +kernel
theorem dX8_in_11 : decode cX8_in 11 = .ok (.goto 4, 3) := by decide +kernel
theorem dX8_in_14 : decode cX8_in 14 = .ok (.iconst 0, 1) := by decide +kernel
theorem dX8_in_15 : decode cX8_in 15 = .ok (.ireturn, 1) := by decide +kernel
theorem dX8_has_0 : decode cX8_has 0 = .ok (.iload_n 0, 1) := by decide +kernel
theorem dX8_has_1 : decode cX8_has 1 = .ok (.iload_n 1, 1) := by decide +kernel
theorem dX8_has_2 : decode cX8_has 2 = .ok (.ishr, 1) := by decide +kernel
theorem dX8_has_3 : decode cX8_has 3 = .ok (.iconst 1, 1) := by decide +kernel
theorem dX8_has_4 : decode cX8_has 4 = .ok (.iand, 1) := by decide +kernel
theorem dX8_has_5 : decode cX8_has 5 = .ok (.iconst 1, 1) := by decide +kernel
theorem dX8_has_6 : decode cX8_has 6 = .ok (.if_icmp .ne 7, 3) := by decide +kernel
theorem dX8_has_9 : decode cX8_has 9 = .ok (.iconst 1, 1) := by decide +kernel
theorem dX8_has_10 : decode cX8_has 10 = .ok (.goto 4, 3) := by decide +kernel
theorem dX8_has_13 : decode cX8_has 13 = .ok (.iconst 0, 1) := by decide +kernel
theorem dX8_has_14 : decode cX8_has 14 = .ok (.ireturn, 1) := by decide +kernel
theorem dX8_bring_0 : decode cX8_bring 0 = .ok (.iconst 0, 1) := by decide +kernel
theorem dX8_bring_1 : decode cX8_bring 1 = .ok (.istore 5, 2) := by decide +kernel
theorem dX8_bring_3 : decode cX8_bring 3 = .ok (.iload 5, 2) := by decide +kernel
theorem dX8_bring_5 : decode cX8_bring 5 = .ok (.iload 4, 2) := by decide +kernel
theorem dX8_bring_7 : decode cX8_bring 7 = .ok (.if_icmp .ge 21, 3) := by decide +kernel
theorem dX8_bring_10 : decode cX8_bring 10 = .ok (.aload_n 2, 1) := by decide +kernel
theorem dX8_bring_11 : decode cX8_bring 11 = .ok (.iload_n 3, 1) := by decide +kernel
theorem dX8_bring_12 : decode cX8_bring 12 = .ok (.iload 5, 2) := by decide +kernel
theorem dX8_bring_14 : decode cX8_bring 14 = .ok (.iadd, 1) := by decide +kernel
theorem dX8_bring_15 : decode cX8_bring 15 = .ok (.aload_n 0, 1) := by decide +kernel
theorem dX8_bring_16 : decode cX8_bring 16 = .ok (.iload_n 1, 1) := by decide +kernel
theorem dX8_bring_17 : decode cX8_bring 17 = .ok (.iload 5, 2) := by decide +kernel
theorem dX8_bring_19 : decode cX8_bring 19 = .ok (.iadd, 1) := by decide +kernel
theorem dX8_bring_20 : decode cX8_bring 20 = .ok (.iaload, 1) := by decide +kernel
theorem dX8_bring_21 : decode cX8_bring 21 = .ok (.iastore, 1) := by decide +kernel
theorem dX8_bring_22 : decode cX8_bring 22 = .ok (.iinc 5 1, 3) := by decide +kernel
theorem dX8_bring_25 : decode cX8_bring 25 = .ok (.goto (-22), 3) := by decide +kernel
theorem dX8_bring_28 : decode cX8_bring 28 = .ok (.return_, 1) := by decide +kernel
theorem dX8_isThere_0 : decode cX8_isThere 0 = .ok (.aload_n 0, 1) := by decide +kernel
theorem dX8_isThere_1 : decode cX8_isThere 1 = .ok (.getfield 23, 3) := by decide +kernel
theorem dX8_isThere_4 : decode cX8_isThere 4 = .ok (.iconst 1, 1) := by decide +kernel
theorem dX8_isThere_5 : decode cX8_isThere 5 = .ok (.iaload, 1) := by decide +kernel
theorem dX8_isThere_6 : decode cX8_isThere 6 = .ok (.ifCond .le 7, 3) := by decide +kernel
theorem dX8_isThere_9 : decode cX8_isThere 9 = .ok (.iconst 1, 1) := by decide +kernel
theorem dX8_isThere_10 : decode cX8_isThere 10 = .ok (.goto 4, 3) := by decide +kernel
theorem dX8_isThere_13 : decode cX8_isThere 13 = .ok (.iconst 0, 1) := by decide +kernel
theorem dX8_isThere_14 : decode cX8_isThere 14 = .ok (.ireturn, 1) := by decide +kernel
theorem dX8_isOne_0 : decode cX8_isOne 0 = .ok (.iload_n 1, 1) := by decide +kernel
theorem dX8_isOne_1 : decode cX8_isOne 1 = .ok (.iconst 0, 1) := by decide +kernel
theorem dX8_isOne_2 : decode cX8_isOne 2 = .ok (.aload_n 0, 1) := by decide +kernel
theorem dX8_isOne_3 : decode cX8_isOne 3 = .ok (.getfield 23, 3) := by decide +kernel
theorem dX8_isOne_6 : decode cX8_isOne 6 = .ok (.iconst 1, 1) := by decide +kernel
theorem dX8_isOne_7 : decode cX8_isOne 7 = .ok (.iaload, 1) := by decide +kernel
theorem dX8_isOne_8 : decode cX8_isOne 8 = .ok (.iconst 1, 1) := by decide +kernel
theorem dX8_isOne_9 : decode cX8_isOne 9 = .ok (.isub, 1) := by decide +kernel
theorem dX8_isOne_10 : decode cX8_isOne 10 = .ok (.invokestatic 57, 3) := by decide +kernel
theorem dX8_isOne_13 : decode cX8_isOne 13 = .ok (.ireturn, 1) := by decide +kernel
theorem dX8_isWrong_0 : decode cX8_isWrong 0 = .ok (.iload_n 1, 1) := by decide +kernel
theorem dX8_isWrong_1 : decode cX8_isWrong 1 = .ok (.iconst 0, 1) := by decide +kernel
theorem dX8_isWrong_2 : decode cX8_isWrong 2 = .ok (.aload_n 0, 1) := by decide +kernel
theorem dX8_isWrong_3 : decode cX8_isWrong 3 = .ok (.getfield 23, 3) := by decide +kernel
theorem dX8_isWrong_6 : decode cX8_isWrong 6 = .ok (.iconst 2, 1) := by decide +kernel
theorem dX8_isWrong_7 : decode cX8_isWrong 7 = .ok (.iaload, 1) := by decide +kernel
theorem dX8_isWrong_8 : decode cX8_isWrong 8 = .ok (.iconst 1, 1) := by decide +kernel
theorem dX8_isWrong_9 : decode cX8_isWrong 9 = .ok (.isub, 1) := by decide +kernel
theorem dX8_isWrong_10 : decode cX8_isWrong 10 = .ok (.invokestatic 57, 3) := by decide +kernel
theorem dX8_isWrong_13 : decode cX8_isWrong 13 = .ok (.ireturn, 1) := by decide +kernel
theorem dX8_feed_0 : decode cX8_feed 0 = .ok (.iload_n 1, 1) := by decide +kernel
theorem dX8_feed_1 : decode cX8_feed 1 = .ok (.iconst 0, 1) := by decide +kernel
theorem dX8_feed_2 : decode cX8_feed 2 = .ok (.sipush 255, 3) := by decide +kernel
theorem dX8_feed_5 : decode cX8_feed 5 = .ok (.invokestatic 57, 3) := by decide +kernel
theorem dX8_feed_8 : decode cX8_feed 8 = .ok (.ifCond .ne 5, 3) := by decide +kernel
theorem dX8_feed_11 : decode cX8_feed 11 = .ok (.iconst (-1), 1) := by decide +kernel
theorem dX8_feed_12 : decode cX8_feed 12 = .ok (.ireturn, 1) := by decide +kernel
theorem dX8_feed_13 : decode cX8_feed 13 = .ok (.aload_n 0, 1) := by decide +kernel
theorem dX8_feed_14 : decode cX8_feed 14 = .ok (.getfield 61, 3) := by decide +kernel
theorem dX8_feed_17 : decode cX8_feed 17 = .ok (.sipush 130, 3) := by decide +kernel
theorem dX8_feed_20 : decode cX8_feed 20 = .ok (.if_icmp .ne 6, 3) := by decide +kernel
theorem dX8_feed_23 : decode cX8_feed 23 = .ok (.bipush (-3), 2) := by decide +kernel
theorem dX8_feed_25 : decode cX8_feed 25 = .ok (.ireturn, 1) := by decide +kernel
theorem dX8_feed_26 : decode cX8_feed 26 = .ok (.aload_n 0, 1) := by decide +kernel
theorem dX8_feed_27 : decode cX8_feed 27 = .ok (.getfield 20, 3) := by decide +kernel
theorem dX8_feed_30 : decode cX8_feed 30 = .ok (.aload_n 0, 1) := by decide +kernel
theorem dX8_feed_31 : decode cX8_feed 31 = .ok (.getfield 61, 3) := by decide +kernel
theorem dX8_feed_34 : decode cX8_feed 34 = .ok (.iload_n 1, 1) := by decide +kernel
theorem dX8_feed_35 : decode cX8_feed 35 = .ok (.iastore, 1) := by decide +kernel
theorem dX8_feed_36 : decode cX8_feed 36 = .ok (.aload_n 0, 1) := by decide +kernel
theorem dX8_feed_37 : decode cX8_feed 37 = .ok (.dup, 1) := by decide +kernel
theorem dX8_feed_38 : decode cX8_feed 38 = .ok (.getfield 61, 3) := by decide +kernel
theorem dX8_feed_41 : decode cX8_feed 41 = .ok (.iconst 1, 1) := by decide +kernel
theorem dX8_feed_42 : decode cX8_feed 42 = .ok (.iadd, 1) := by decide +kernel
theorem dX8_feed_43 : decode cX8_feed 43 = .ok (.putfield 61, 3) := by decide +kernel
theorem dX8_feed_46 : decode cX8_feed 46 = .ok (.aload_n 0, 1) := by decide +kernel
theorem dX8_feed_47 : decode cX8_feed 47 = .ok (.getfield 61, 3) := by decide +kernel
theorem dX8_feed_50 : decode cX8_feed 50 = .ok (.ireturn, 1) := by decide +kernel
theorem dX8_peek_0 : decode cX8_peek 0 = .ok (.aload_n 0, 1) := by decide +kernel
theorem dX8_peek_1 : decode cX8_peek 1 = .ok (.getfield 65, 3) := by decide +kernel
theorem dX8_peek_4 : decode cX8_peek 4 = .ok (.aload_n 0, 1) := by decide +kernel
theorem dX8_peek_5 : decode cX8_peek 5 = .ok (.getfield 61, 3) := by decide +kernel
theorem dX8_peek_8 : decode cX8_peek 8 = .ok (.if_icmp .ge 15, 3) := by decide +kernel
theorem dX8_peek_11 : decode cX8_peek 11 = .ok (.aload_n 0, 1) := by decide +kernel
theorem dX8_peek_12 : decode cX8_peek 12 = .ok (.getfield 20, 3) := by decide +kernel
theorem dX8_peek_15 : decode cX8_peek 15 = .ok (.aload_n 0, 1) := by decide +kernel
theorem dX8_peek_16 : decode cX8_peek 16 = .ok (.getfield 65, 3) := by decide +kernel
theorem dX8_peek_19 : decode cX8_peek 19 = .ok (.iaload, 1) := by decide +kernel
theorem dX8_peek_20 : decode cX8_peek 20 = .ok (.goto 4, 3) := by decide +kernel
theorem dX8_peek_23 : decode cX8_peek 23 = .ok (.iconst (-1), 1) := by decide +kernel
theorem dX8_peek_24 : decode cX8_peek 24 = .ok (.ireturn, 1) := by decide +kernel
theorem dX8_isSign_0 : decode cX8_isSign 0 = .ok (.aload_n 0, 1) := by decide +kernel
theorem dX8_isSign_1 : decode cX8_isSign 1 = .ok (.invokevirtual 68, 3) := by decide +kernel
theorem dX8_isSign_4 : decode cX8_isSign 4 = .ok (.iload_n 1, 1) := by decide +kernel
theorem dX8_isSign_5 : decode cX8_isSign 5 = .ok (.if_icmp .eq 5, 3) := by decide +kernel
theorem dX8_isSign_8 : decode cX8_isSign 8 = .ok (.iconst 0, 1) := by decide +kernel
theorem dX8_isSign_9 : decode cX8_isSign 9 = .ok (.ireturn, 1) := by decide +kernel
theorem dX8_isSign_10 : decode cX8_isSign 10 = .ok (.aload_n 0, 1) := by decide +kernel
theorem dX8_isSign_11 : decode cX8_isSign 11 = .ok (.dup, 1) := by decide +kernel
theorem dX8_isSign_12 : decode cX8_isSign 12 = .ok (.getfield 65, 3) := by decide +kernel
theorem dX8_isSign_15 : decode cX8_isSign 15 = .ok (.iconst 1, 1) := by decide +kernel
theorem dX8_isSign_16 : decode cX8_isSign 16 = .ok (.iadd, 1) := by decide +kernel
theorem dX8_isSign_17 : decode cX8_isSign 17 = .ok (.putfield 65, 3) := by decide +kernel
theorem dX8_isSign_20 : decode cX8_isSign 20 = .ok (.iconst 1, 1) := by decide +kernel
theorem dX8_isSign_21 : decode cX8_isSign 21 = .ok (.ireturn, 1) := by decide +kernel
theorem dX8_kindBy_0 : decode cX8_kindBy 0 = .ok (.iload_n 0, 1) := by decide +kernel
theorem dX8_kindBy_1 : decode cX8_kindBy 1 = .ok (.bipush 99, 2) := by decide +kernel
theorem dX8_kindBy_3 : decode cX8_kindBy 3 = .ok (.if_icmp .ne 7, 3) := by decide +kernel
theorem dX8_kindBy_6 : decode cX8_kindBy 6 = .ok (.iconst 1, 1) := by decide +kernel
theorem dX8_kindBy_7 : decode cX8_kindBy 7 = .ok (.goto 44, 3) := by decide +kernel
theorem dX8_kindBy_10 : decode cX8_kindBy 10 = .ok (.iload_n 0, 1) := by decide +kernel
theorem dX8_kindBy_11 : decode cX8_kindBy 11 = .ok (.bipush 97, 2) := by decide +kernel
theorem dX8_kindBy_13 : decode cX8_kindBy 13 = .ok (.if_icmp .ne 7, 3) := by decide +kernel
theorem dX8_kindBy_16 : decode cX8_kindBy 16 = .ok (.iconst 2, 1) := by decide +kernel
theorem dX8_kindBy_17 : decode cX8_kindBy 17 = .ok (.goto 34, 3) := by decide +kernel
theorem dX8_kindBy_20 : decode cX8_kindBy 20 = .ok (.iload_n 0, 1) := by decide +kernel
theorem dX8_kindBy_21 : decode cX8_kindBy 21 = .ok (.bipush 102, 2) := by decide +kernel
theorem dX8_kindBy_23 : decode cX8_kindBy 23 = .ok (.if_icmp .ne 7, 3) := by decide +kernel
theorem dX8_kindBy_26 : decode cX8_kindBy 26 = .ok (.iconst 3, 1) := by decide +kernel
theorem dX8_kindBy_27 : decode cX8_kindBy 27 = .ok (.goto 24, 3) := by decide +kernel
theorem dX8_kindBy_30 : decode cX8_kindBy 30 = .ok (.iload_n 0, 1) := by decide +kernel
theorem dX8_kindBy_31 : decode cX8_kindBy 31 = .ok (.bipush 98, 2) := by decide +kernel
theorem dX8_kindBy_33 : decode cX8_kindBy 33 = .ok (.if_icmp .ne 7, 3) := by decide +kernel
theorem dX8_kindBy_36 : decode cX8_kindBy 36 = .ok (.iconst 4, 1) := by decide +kernel
theorem dX8_kindBy_37 : decode cX8_kindBy 37 = .ok (.goto 14, 3) := by decide +kernel
theorem dX8_kindBy_40 : decode cX8_kindBy 40 = .ok (.iload_n 0, 1) := by decide +kernel
theorem dX8_kindBy_41 : decode cX8_kindBy 41 = .ok (.bipush 114, 2) := by decide +kernel
theorem dX8_kindBy_43 : decode cX8_kindBy 43 = .ok (.if_icmp .ne 7, 3) := by decide +kernel
theorem dX8_kindBy_46 : decode cX8_kindBy 46 = .ok (.iconst 5, 1) := by decide +kernel
theorem dX8_kindBy_47 : decode cX8_kindBy 47 = .ok (.goto 4, 3) := by decide +kernel
theorem dX8_kindBy_50 : decode cX8_kindBy 50 = .ok (.iconst 0, 1) := by decide +kernel
theorem dX8_kindBy_51 : decode cX8_kindBy 51 = .ok (.ireturn, 1) := by decide +kernel
theorem dX8_figure_0 : decode cX8_figure 0 = .ok (.aload_n 0, 1) := by decide +kernel
theorem dX8_figure_1 : decode cX8_figure 1 = .ok (.invokevirtual 68, 3) := by decide +kernel
theorem dX8_figure_4 : decode cX8_figure 4 = .ok (.bipush 48, 2) := by decide +kernel
theorem dX8_figure_6 : decode cX8_figure 6 = .ok (.isub, 1) := by decide +kernel
theorem dX8_figure_7 : decode cX8_figure 7 = .ok (.istore 4, 2) := by decide +kernel
theorem dX8_figure_9 : decode cX8_figure 9 = .ok (.iload 4, 2) := by decide +kernel
theorem dX8_figure_11 : decode cX8_figure 11 = .ok (.iload_n 1, 1) := by decide +kernel
theorem dX8_figure_12 : decode cX8_figure 12 = .ok (.iload_n 2, 1) := by decide +kernel
theorem dX8_figure_13 : decode cX8_figure 13 = .ok (.invokestatic 57, 3) := by decide +kernel
theorem dX8_figure_16 : decode cX8_figure 16 = .ok (.ifCond .eq 9, 3) := by decide +kernel
theorem dX8_figure_19 : decode cX8_figure 19 = .ok (.iload 4, 2) := by decide +kernel
theorem dX8_figure_21 : decode cX8_figure 21 = .ok (.iload_n 3, 1) := by decide +kernel
theorem dX8_figure_22 : decode cX8_figure 22 = .ok (.if_icmp .ne 5, 3) := by decide +kernel
theorem dX8_figure_25 : decode cX8_figure 25 = .ok (.iconst (-1), 1) := by decide +kernel
theorem dX8_figure_26 : decode cX8_figure 26 = .ok (.ireturn, 1) := by decide +kernel
theorem dX8_figure_27 : decode cX8_figure 27 = .ok (.aload_n 0, 1) := by decide +kernel
theorem dX8_figure_28 : decode cX8_figure 28 = .ok (.dup, 1) := by decide +kernel
theorem dX8_figure_29 : decode cX8_figure 29 = .ok (.getfield 65, 3) := by decide +kernel
theorem dX8_figure_32 : decode cX8_figure 32 = .ok (.iconst 1, 1) := by decide +kernel
theorem dX8_figure_33 : decode cX8_figure 33 = .ok (.iadd, 1) := by decide +kernel
theorem dX8_figure_34 : decode cX8_figure 34 = .ok (.putfield 65, 3) := by decide +kernel
theorem dX8_figure_37 : decode cX8_figure 37 = .ok (.iload 4, 2) := by decide +kernel
theorem dX8_figure_39 : decode cX8_figure 39 = .ok (.ireturn, 1) := by decide +kernel
theorem dX8_isPerson_0 : decode cX8_isPerson 0 = .ok (.aload_n 0, 1) := by decide +kernel
theorem dX8_isPerson_1 : decode cX8_isPerson 1 = .ok (.invokevirtual 68, 3) := by decide +kernel
theorem dX8_isPerson_4 : decode cX8_isPerson 4 = .ok (.invokestatic 72, 3) := by decide +kernel
theorem dX8_isPerson_7 : decode cX8_isPerson 7 = .ok (.istore_n 2, 1) := by decide +kernel
theorem dX8_isPerson_8 : decode cX8_isPerson 8 = .ok (.iload_n 2, 1) := by decide +kernel
theorem dX8_isPerson_9 : decode cX8_isPerson 9 = .ok (.ifCond .ne 5, 3) := by decide +kernel
theorem dX8_isPerson_12 : decode cX8_isPerson 12 = .ok (.iconst 0, 1) := by decide +kernel
theorem dX8_isPerson_13 : decode cX8_isPerson 13 = .ok (.ireturn, 1) := by decide +kernel
theorem dX8_isPerson_14 : decode cX8_isPerson 14 = .ok (.aload_n 0, 1) := by decide +kernel
theorem dX8_isPerson_15 : decode cX8_isPerson 15 = .ok (.dup, 1) := by decide +kernel
theorem dX8_isPerson_16 : decode cX8_isPerson 16 = .ok (.getfield 65, 3) := by decide +kernel
theorem dX8_isPerson_19 : decode cX8_isPerson 19 = .ok (.iconst 1, 1) := by decide +kernel
theorem dX8_isPerson_20 : decode cX8_isPerson 20 = .ok (.iadd, 1) := by decide +kernel
theorem dX8_isPerson_21 : decode cX8_isPerson 21 = .ok (.putfield 65, 3) := by decide +kernel
theorem dX8_isPerson_24 : decode cX8_isPerson 24 = .ok (.aload_n 0, 1) := by decide +kernel
theorem dX8_isPerson_25 : decode cX8_isPerson 25 = .ok (.iconst 0, 1) := by decide +kernel
theorem dX8_isPerson_26 : decode cX8_isPerson 26 = .ok (.bipush 9, 2) := by decide +kernel
theorem dX8_isPerson_28 : decode cX8_isPerson 28 = .ok (.iconst (-1), 1) := by decide +kernel
theorem dX8_isPerson_29 : decode cX8_isPerson 29 = .ok (.invokevirtual 76, 3) := by decide +kernel
theorem dX8_isPerson_32 : decode cX8_isPerson 32 = .ok (.istore_n 3, 1) := by decide +kernel
theorem dX8_isPerson_33 : decode cX8_isPerson 33 = .ok (.iload_n 3, 1) := by decide +kernel
theorem dX8_isPerson_34 : decode cX8_isPerson 34 = .ok (.ifCond .ge 7, 3) := by decide +kernel
theorem dX8_isPerson_37 : decode cX8_isPerson 37 = .ok (.iconst (-1), 1) := by decide +kernel
theorem dX8_isPerson_38 : decode cX8_isPerson 38 = .ok (.goto 11, 3) := by decide +kernel
theorem dX8_isPerson_41 : decode cX8_isPerson 41 = .ok (.aload_n 0, 1) := by decide +kernel
theorem dX8_isPerson_42 : decode cX8_isPerson 42 = .ok (.iconst 0, 1) := by decide +kernel
theorem dX8_isPerson_43 : decode cX8_isPerson 43 = .ok (.bipush 9, 2) := by decide +kernel
theorem dX8_isPerson_45 : decode cX8_isPerson 45 = .ok (.iconst (-1), 1) := by decide +kernel
theorem dX8_isPerson_46 : decode cX8_isPerson 46 = .ok (.invokevirtual 76, 3) := by decide +kernel
theorem dX8_isPerson_49 : decode cX8_isPerson 49 = .ok (.istore 4, 2) := by decide +kernel
theorem dX8_isPerson_51 : decode cX8_isPerson 51 = .ok (.iload 4, 2) := by decide +kernel
theorem dX8_isPerson_53 : decode cX8_isPerson 53 = .ok (.ifCond .ge 7, 3) := by decide +kernel
theorem dX8_isPerson_56 : decode cX8_isPerson 56 = .ok (.iconst (-1), 1) := by decide +kernel
theorem dX8_isPerson_57 : decode cX8_isPerson 57 = .ok (.goto 11, 3) := by decide +kernel
theorem dX8_isPerson_60 : decode cX8_isPerson 60 = .ok (.aload_n 0, 1) := by decide +kernel
theorem dX8_isPerson_61 : decode cX8_isPerson 61 = .ok (.iconst 0, 1) := by decide +kernel
theorem dX8_isPerson_62 : decode cX8_isPerson 62 = .ok (.bipush 9, 2) := by decide +kernel
theorem dX8_isPerson_64 : decode cX8_isPerson 64 = .ok (.iconst (-1), 1) := by decide +kernel
theorem dX8_isPerson_65 : decode cX8_isPerson 65 = .ok (.invokevirtual 76, 3) := by decide +kernel
theorem dX8_isPerson_68 : decode cX8_isPerson 68 = .ok (.istore 5, 2) := by decide +kernel
theorem dX8_isPerson_70 : decode cX8_isPerson 70 = .ok (.iload 5, 2) := by decide +kernel
theorem dX8_isPerson_72 : decode cX8_isPerson 72 = .ok (.ifCond .ge 5, 3) := by decide +kernel
theorem dX8_isPerson_75 : decode cX8_isPerson 75 = .ok (.iconst 0, 1) := by decide +kernel
theorem dX8_isPerson_76 : decode cX8_isPerson 76 = .ok (.ireturn, 1) := by decide +kernel
theorem dX8_isPerson_77 : decode cX8_isPerson 77 = .ok (.bipush (-4), 2) := by decide +kernel
theorem dX8_isPerson_79 : decode cX8_isPerson 79 = .ok (.istore 6, 2) := by decide +kernel
theorem dX8_isPerson_81 : decode cX8_isPerson 81 = .ok (.aload_n 0, 1) := by decide +kernel
theorem dX8_isPerson_82 : decode cX8_isPerson 82 = .ok (.bipush 45, 2) := by decide +kernel
theorem dX8_isPerson_84 : decode cX8_isPerson 84 = .ok (.invokevirtual 80, 3) := by decide +kernel
theorem dX8_isPerson_87 : decode cX8_isPerson 87 = .ok (.ifCond .ne 26, 3) := by decide +kernel
theorem dX8_isPerson_90 : decode cX8_isPerson 90 = .ok (.aload_n 0, 1) := by decide +kernel
theorem dX8_isPerson_91 : decode cX8_isPerson 91 = .ok (.iconst 0, 1) := by decide +kernel
theorem dX8_isPerson_92 : decode cX8_isPerson 92 = .ok (.aload_n 0, 1) := by decide +kernel
theorem dX8_isPerson_93 : decode cX8_isPerson 93 = .ok (.getfield 26, 3) := by decide +kernel
theorem dX8_isPerson_96 : decode cX8_isPerson 96 = .ok (.iconst 1, 1) := by decide +kernel
theorem dX8_isPerson_97 : decode cX8_isPerson 97 = .ok (.iaload, 1) := by decide +kernel
theorem dX8_isPerson_98 : decode cX8_isPerson 98 = .ok (.iconst 1, 1) := by decide +kernel
theorem dX8_isPerson_99 : decode cX8_isPerson 99 = .ok (.isub, 1) := by decide +kernel
theorem dX8_isPerson_100 : decode cX8_isPerson 100 = .ok (.iload_n 1, 1) := by decide +kernel
theorem dX8_isPerson_101 : decode cX8_isPerson 101 = .ok (.invokevirtual 76, 3) := by decide +kernel
theorem dX8_isPerson_104 : decode cX8_isPerson 104 = .ok (.istore 6, 2) := by decide +kernel
theorem dX8_isPerson_106 : decode cX8_isPerson 106 = .ok (.iload 6, 2) := by decide +kernel
theorem dX8_isPerson_108 : decode cX8_isPerson 108 = .ok (.ifCond .ge 5, 3) := by decide +kernel
theorem dX8_isPerson_111 : decode cX8_isPerson 111 = .ok (.iconst 0, 1) := by decide +kernel
theorem dX8_isPerson_112 : decode cX8_isPerson 112 = .ok (.ireturn, 1) := by decide +kernel
theorem dX8_isPerson_113 : decode cX8_isPerson 113 = .ok (.aload_n 0, 1) := by decide +kernel
theorem dX8_isPerson_114 : decode cX8_isPerson 114 = .ok (.getfield 26, 3) := by decide +kernel
theorem dX8_isPerson_117 : decode cX8_isPerson 117 = .ok (.iconst 3, 1) := by decide +kernel
theorem dX8_isPerson_118 : decode cX8_isPerson 118 = .ok (.iload_n 1, 1) := by decide +kernel
theorem dX8_isPerson_119 : decode cX8_isPerson 119 = .ok (.iadd, 1) := by decide +kernel
theorem dX8_isPerson_120 : decode cX8_isPerson 120 = .ok (.iload_n 2, 1) := by decide +kernel
theorem dX8_isPerson_121 : decode cX8_isPerson 121 = .ok (.iastore, 1) := by decide +kernel
theorem dX8_isPerson_122 : decode cX8_isPerson 122 = .ok (.aload_n 0, 1) := by decide +kernel
theorem dX8_isPerson_123 : decode cX8_isPerson 123 = .ok (.getfield 26, 3) := by decide +kernel
theorem dX8_isPerson_126 : decode cX8_isPerson 126 = .ok (.bipush 9, 2) := by decide +kernel
theorem dX8_isPerson_128 : decode cX8_isPerson 128 = .ok (.iload_n 1, 1) := by decide +kernel
theorem dX8_isPerson_129 : decode cX8_isPerson 129 = .ok (.iadd, 1) := by decide +kernel
theorem dX8_isPerson_130 : decode cX8_isPerson 130 = .ok (.iload_n 3, 1) := by decide +kernel
theorem dX8_isPerson_131 : decode cX8_isPerson 131 = .ok (.iastore, 1) := by decide +kernel
theorem dX8_isPerson_132 : decode cX8_isPerson 132 = .ok (.aload_n 0, 1) := by decide +kernel
theorem dX8_isPerson_133 : decode cX8_isPerson 133 = .ok (.getfield 26, 3) := by decide +kernel
theorem dX8_isPerson_136 : decode cX8_isPerson 136 = .ok (.bipush 15, 2) := by decide +kernel
theorem dX8_isPerson_138 : decode cX8_isPerson 138 = .ok (.iload_n 1, 1) := by decide +kernel
theorem dX8_isPerson_139 : decode cX8_isPerson 139 = .ok (.iadd, 1) := by decide +kernel
theorem dX8_isPerson_140 : decode cX8_isPerson 140 = .ok (.iload 4, 2) := by decide +kernel
theorem dX8_isPerson_142 : decode cX8_isPerson 142 = .ok (.iastore, 1) := by decide +kernel
theorem dX8_isPerson_143 : decode cX8_isPerson 143 = .ok (.aload_n 0, 1) := by decide +kernel
theorem dX8_isPerson_144 : decode cX8_isPerson 144 = .ok (.getfield 26, 3) := by decide +kernel
theorem dX8_isPerson_147 : decode cX8_isPerson 147 = .ok (.bipush 21, 2) := by decide +kernel
theorem dX8_isPerson_149 : decode cX8_isPerson 149 = .ok (.iload_n 1, 1) := by decide +kernel
theorem dX8_isPerson_150 : decode cX8_isPerson 150 = .ok (.iadd, 1) := by decide +kernel
theorem dX8_isPerson_151 : decode cX8_isPerson 151 = .ok (.iload 5, 2) := by decide +kernel
theorem dX8_isPerson_153 : decode cX8_isPerson 153 = .ok (.iastore, 1) := by decide +kernel
theorem dX8_isPerson_154 : decode cX8_isPerson 154 = .ok (.aload_n 0, 1) := by decide +kernel
theorem dX8_isPerson_155 : decode cX8_isPerson 155 = .ok (.getfield 26, 3) := by decide +kernel
theorem dX8_isPerson_158 : decode cX8_isPerson 158 = .ok (.bipush 27, 2) := by decide +kernel
theorem dX8_isPerson_160 : decode cX8_isPerson 160 = .ok (.iload_n 1, 1) := by decide +kernel
theorem dX8_isPerson_161 : decode cX8_isPerson 161 = .ok (.iadd, 1) := by decide +kernel
theorem dX8_isPerson_162 : decode cX8_isPerson 162 = .ok (.iload 5, 2) := by decide +kernel
theorem dX8_isPerson_164 : decode cX8_isPerson 164 = .ok (.iastore, 1) := by decide +kernel
theorem dX8_isPerson_165 : decode cX8_isPerson 165 = .ok (.aload_n 0, 1) := by decide +kernel
theorem dX8_isPerson_166 : decode cX8_isPerson 166 = .ok (.getfield 26, 3) := by decide +kernel
theorem dX8_isPerson_169 : decode cX8_isPerson 169 = .ok (.bipush 33, 2) := by decide +kernel
theorem dX8_isPerson_171 : decode cX8_isPerson 171 = .ok (.iload_n 1, 1) := by decide +kernel
theorem dX8_isPerson_172 : decode cX8_isPerson 172 = .ok (.iadd, 1) := by decide +kernel
theorem dX8_isPerson_173 : decode cX8_isPerson 173 = .ok (.iload 6, 2) := by decide +kernel
theorem dX8_isPerson_175 : decode cX8_isPerson 175 = .ok (.iastore, 1) := by decide +kernel
theorem dX8_isPerson_176 : decode cX8_isPerson 176 = .ok (.aload_n 0, 1) := by decide +kernel
theorem dX8_isPerson_177 : decode cX8_isPerson 177 = .ok (.getfield 26, 3) := by decide +kernel
theorem dX8_isPerson_180 : decode cX8_isPerson 180 = .ok (.bipush 45, 2) := by decide +kernel
theorem dX8_isPerson_182 : decode cX8_isPerson 182 = .ok (.iload_n 1, 1) := by decide +kernel
theorem dX8_isPerson_183 : decode cX8_isPerson 183 = .ok (.iadd, 1) := by decide +kernel
theorem dX8_isPerson_184 : decode cX8_isPerson 184 = .ok (.bipush (-4), 2) := by decide +kernel
theorem dX8_isPerson_186 : decode cX8_isPerson 186 = .ok (.iastore, 1) := by decide +kernel
theorem dX8_isPerson_187 : decode cX8_isPerson 187 = .ok (.iconst 1, 1) := by decide +kernel
theorem dX8_isPerson_188 : decode cX8_isPerson 188 = .ok (.ireturn, 1) := by decide +kernel
theorem dX8_addWrong_0 : decode cX8_addWrong 0 = .ok (.aload_n 0, 1) := by decide +kernel
theorem dX8_addWrong_1 : decode cX8_addWrong 1 = .ok (.iconst 2, 1) := by decide +kernel
theorem dX8_addWrong_2 : decode cX8_addWrong 2 = .ok (.iaload, 1) := by decide +kernel
theorem dX8_addWrong_3 : decode cX8_addWrong 3 = .ok (.istore 4, 2) := by decide +kernel
theorem dX8_addWrong_5 : decode cX8_addWrong 5 = .ok (.aload_n 0, 1) := by decide +kernel
theorem dX8_addWrong_6 : decode cX8_addWrong 6 = .ok (.bipush 51, 2) := by decide +kernel
theorem dX8_addWrong_8 : decode cX8_addWrong 8 = .ok (.iload 4, 2) := by decide +kernel
theorem dX8_addWrong_10 : decode cX8_addWrong 10 = .ok (.iadd, 1) := by decide +kernel
theorem dX8_addWrong_11 : decode cX8_addWrong 11 = .ok (.iload_n 1, 1) := by decide +kernel
theorem dX8_addWrong_12 : decode cX8_addWrong 12 = .ok (.iastore, 1) := by decide +kernel
theorem dX8_addWrong_13 : decode cX8_addWrong 13 = .ok (.aload_n 0, 1) := by decide +kernel
theorem dX8_addWrong_14 : decode cX8_addWrong 14 = .ok (.bipush 59, 2) := by decide +kernel
theorem dX8_addWrong_16 : decode cX8_addWrong 16 = .ok (.iload 4, 2) := by decide +kernel
theorem dX8_addWrong_18 : decode cX8_addWrong 18 = .ok (.iadd, 1) := by decide +kernel
theorem dX8_addWrong_19 : decode cX8_addWrong 19 = .ok (.iload_n 2, 1) := by decide +kernel
theorem dX8_addWrong_20 : decode cX8_addWrong 20 = .ok (.iastore, 1) := by decide +kernel
theorem dX8_addWrong_21 : decode cX8_addWrong 21 = .ok (.aload_n 0, 1) := by decide +kernel
theorem dX8_addWrong_22 : decode cX8_addWrong 22 = .ok (.bipush 67, 2) := by decide +kernel
theorem dX8_addWrong_24 : decode cX8_addWrong 24 = .ok (.iload 4, 2) := by decide +kernel
theorem dX8_addWrong_26 : decode cX8_addWrong 26 = .ok (.iadd, 1) := by decide +kernel
theorem dX8_addWrong_27 : decode cX8_addWrong 27 = .ok (.iload_n 3, 1) := by decide +kernel
theorem dX8_addWrong_28 : decode cX8_addWrong 28 = .ok (.iastore, 1) := by decide +kernel
theorem dX8_addWrong_29 : decode cX8_addWrong 29 = .ok (.aload_n 0, 1) := by decide +kernel
theorem dX8_addWrong_30 : decode cX8_addWrong 30 = .ok (.bipush 75, 2) := by decide +kernel
theorem dX8_addWrong_32 : decode cX8_addWrong 32 = .ok (.iload 4, 2) := by decide +kernel
theorem dX8_addWrong_34 : decode cX8_addWrong 34 = .ok (.iadd, 1) := by decide +kernel
theorem dX8_addWrong_35 : decode cX8_addWrong 35 = .ok (.bipush (-4), 2) := by decide +kernel
theorem dX8_addWrong_37 : decode cX8_addWrong 37 = .ok (.iastore, 1) := by decide +kernel
theorem dX8_addWrong_38 : decode cX8_addWrong 38 = .ok (.aload_n 0, 1) := by decide +kernel
theorem dX8_addWrong_39 : decode cX8_addWrong 39 = .ok (.iconst 2, 1) := by decide +kernel
theorem dX8_addWrong_40 : decode cX8_addWrong 40 = .ok (.dup2, 1) := by decide +kernel
theorem dX8_addWrong_41 : decode cX8_addWrong 41 = .ok (.iaload, 1) := by decide +kernel
theorem dX8_addWrong_42 : decode cX8_addWrong 42 = .ok (.iconst 1, 1) := by decide +kernel
theorem dX8_addWrong_43 : decode cX8_addWrong 43 = .ok (.iadd, 1) := by decide +kernel
theorem dX8_addWrong_44 : decode cX8_addWrong 44 = .ok (.iastore, 1) := by decide +kernel
theorem dX8_addWrong_45 : decode cX8_addWrong 45 = .ok (.iload 4, 2) := by decide +kernel
theorem dX8_addWrong_47 : decode cX8_addWrong 47 = .ok (.ireturn, 1) := by decide +kernel
theorem dX8_isWrongItem_0 : decode cX8_isWrongItem 0 = .ok (.aload_n 0, 1) := by decide +kernel
theorem dX8_isWrongItem_1 : decode cX8_isWrongItem 1 = .ok (.iconst 0, 1) := by decide +kernel
theorem dX8_isWrongItem_2 : decode cX8_isWrongItem 2 = .ok (.aload_n 0, 1) := by decide +kernel
theorem dX8_isWrongItem_3 : decode cX8_isWrongItem 3 = .ok (.getfield 26, 3) := by decide +kernel
theorem dX8_isWrongItem_6 : decode cX8_isWrongItem 6 = .ok (.iconst 1, 1) := by decide +kernel
theorem dX8_isWrongItem_7 : decode cX8_isWrongItem 7 = .ok (.iaload, 1) := by decide +kernel
theorem dX8_isWrongItem_8 : decode cX8_isWrongItem 8 = .ok (.iconst 1, 1) := by decide +kernel
theorem dX8_isWrongItem_9 : decode cX8_isWrongItem 9 = .ok (.isub, 1) := by decide +kernel
theorem dX8_isWrongItem_10 : decode cX8_isWrongItem 10 = .ok (.iconst (-1), 1) := by decide +kernel
theorem dX8_isWrongItem_11 : decode cX8_isWrongItem 11 = .ok (.invokevirtual 76, 3) := by decide +kernel
theorem dX8_isWrongItem_14 : decode cX8_isWrongItem 14 = .ok (.istore_n 1, 1) := by decide +kernel
theorem dX8_isWrongItem_15 : decode cX8_isWrongItem 15 = .ok (.iload_n 1, 1) := by decide +kernel
theorem dX8_isWrongItem_16 : decode cX8_isWrongItem 16 = .ok (.ifCond .ge 7, 3) := by decide +kernel
theorem dX8_isWrongItem_19 : decode cX8_isWrongItem 19 = .ok (.iconst (-1), 1) := by decide +kernel
theorem dX8_isWrongItem_20 : decode cX8_isWrongItem 20 = .ok (.goto 17, 3) := by decide +kernel
theorem dX8_isWrongItem_23 : decode cX8_isWrongItem 23 = .ok (.aload_n 0, 1) := by decide +kernel
theorem dX8_isWrongItem_24 : decode cX8_isWrongItem 24 = .ok (.iconst 0, 1) := by decide +kernel
theorem dX8_isWrongItem_25 : decode cX8_isWrongItem 25 = .ok (.aload_n 0, 1) := by decide +kernel
theorem dX8_isWrongItem_26 : decode cX8_isWrongItem 26 = .ok (.getfield 26, 3) := by decide +kernel
theorem dX8_isWrongItem_29 : decode cX8_isWrongItem 29 = .ok (.iconst 1, 1) := by decide +kernel
theorem dX8_isWrongItem_30 : decode cX8_isWrongItem 30 = .ok (.iaload, 1) := by decide +kernel
theorem dX8_isWrongItem_31 : decode cX8_isWrongItem 31 = .ok (.iconst 1, 1) := by decide +kernel
theorem dX8_isWrongItem_32 : decode cX8_isWrongItem 32 = .ok (.isub, 1) := by decide +kernel
theorem dX8_isWrongItem_33 : decode cX8_isWrongItem 33 = .ok (.iload_n 1, 1) := by decide +kernel
theorem dX8_isWrongItem_34 : decode cX8_isWrongItem 34 = .ok (.invokevirtual 76, 3) := by decide +kernel
theorem dX8_isWrongItem_37 : decode cX8_isWrongItem 37 = .ok (.istore_n 2, 1) := by decide +kernel
theorem dX8_isWrongItem_38 : decode cX8_isWrongItem 38 = .ok (.iload_n 2, 1) := by decide +kernel
theorem dX8_isWrongItem_39 : decode cX8_isWrongItem 39 = .ok (.ifCond .ge 7, 3) := by decide +kernel
theorem dX8_isWrongItem_42 : decode cX8_isWrongItem 42 = .ok (.iconst (-1), 1) := by decide +kernel
theorem dX8_isWrongItem_43 : decode cX8_isWrongItem 43 = .ok (.goto 11, 3) := by decide +kernel
theorem dX8_isWrongItem_46 : decode cX8_isWrongItem 46 = .ok (.aload_n 0, 1) := by decide +kernel
theorem dX8_isWrongItem_47 : decode cX8_isWrongItem 47 = .ok (.iconst 1, 1) := by decide +kernel
theorem dX8_isWrongItem_48 : decode cX8_isWrongItem 48 = .ok (.bipush 9, 2) := by decide +kernel
theorem dX8_isWrongItem_50 : decode cX8_isWrongItem 50 = .ok (.iconst (-1), 1) := by decide +kernel
theorem dX8_isWrongItem_51 : decode cX8_isWrongItem 51 = .ok (.invokevirtual 76, 3) := by decide +kernel
theorem dX8_isWrongItem_54 : decode cX8_isWrongItem 54 = .ok (.istore_n 3, 1) := by decide +kernel
theorem dX8_isWrongItem_55 : decode cX8_isWrongItem 55 = .ok (.iload_n 3, 1) := by decide +kernel
theorem dX8_isWrongItem_56 : decode cX8_isWrongItem 56 = .ok (.ifCond .ge 5, 3) := by decide +kernel
theorem dX8_isWrongItem_59 : decode cX8_isWrongItem 59 = .ok (.iconst 0, 1) := by decide +kernel
theorem dX8_isWrongItem_60 : decode cX8_isWrongItem 60 = .ok (.ireturn, 1) := by decide +kernel
theorem dX8_isWrongItem_61 : decode cX8_isWrongItem 61 = .ok (.aload_n 0, 1) := by decide +kernel
theorem dX8_isWrongItem_62 : decode cX8_isWrongItem 62 = .ok (.getfield 26, 3) := by decide +kernel
theorem dX8_isWrongItem_65 : decode cX8_isWrongItem 65 = .ok (.iload_n 1, 1) := by decide +kernel
theorem dX8_isWrongItem_66 : decode cX8_isWrongItem 66 = .ok (.iload_n 2, 1) := by decide +kernel
theorem dX8_isWrongItem_67 : decode cX8_isWrongItem 67 = .ok (.iload_n 3, 1) := by decide +kernel
theorem dX8_isWrongItem_68 : decode cX8_isWrongItem 68 = .ok (.invokestatic 84, 3) := by decide +kernel
theorem dX8_isWrongItem_71 : decode cX8_isWrongItem 71 = .ok (.pop, 1) := by decide +kernel
theorem dX8_isWrongItem_72 : decode cX8_isWrongItem 72 = .ok (.iconst 1, 1) := by decide +kernel
theorem dX8_isWrongItem_73 : decode cX8_isWrongItem 73 = .ok (.ireturn, 1) := by decide +kernel
theorem dX8_isRead_0 : decode cX8_isRead 0 = .ok (.iconst 0, 1) := by decide +kernel
theorem dX8_isRead_1 : decode cX8_isRead 1 = .ok (.istore_n 1, 1) := by decide +kernel
theorem dX8_isRead_2 : decode cX8_isRead 2 = .ok (.iload_n 1, 1) := by decide +kernel
theorem dX8_isRead_3 : decode cX8_isRead 3 = .ok (.bipush 83, 2) := by decide +kernel
theorem dX8_isRead_5 : decode cX8_isRead 5 = .ok (.if_icmp .ge 16, 3) := by decide +kernel
theorem dX8_isRead_8 : decode cX8_isRead 8 = .ok (.aload_n 0, 1) := by decide +kernel
theorem dX8_isRead_9 : decode cX8_isRead 9 = .ok (.getfield 26, 3) := by decide +kernel
theorem dX8_isRead_12 : decode cX8_isRead 12 = .ok (.iload_n 1, 1) := by decide +kernel
theorem dX8_isRead_13 : decode cX8_isRead 13 = .ok (.iconst 0, 1) := by decide +kernel
theorem dX8_isRead_14 : decode cX8_isRead 14 = .ok (.iastore, 1) := by decide +kernel
theorem dX8_isRead_15 : decode cX8_isRead 15 = .ok (.iinc 1 1, 3) := by decide +kernel
theorem dX8_isRead_18 : decode cX8_isRead 18 = .ok (.goto (-16), 3) := by decide +kernel
theorem dX8_isRead_21 : decode cX8_isRead 21 = .ok (.aload_n 0, 1) := by decide +kernel
theorem dX8_isRead_22 : decode cX8_isRead 22 = .ok (.iconst 0, 1) := by decide +kernel
theorem dX8_isRead_23 : decode cX8_isRead 23 = .ok (.putfield 65, 3) := by decide +kernel
theorem dX8_isRead_26 : decode cX8_isRead 26 = .ok (.aload_n 0, 1) := by decide +kernel
theorem dX8_isRead_27 : decode cX8_isRead 27 = .ok (.bipush 114, 2) := by decide +kernel
theorem dX8_isRead_29 : decode cX8_isRead 29 = .ok (.invokevirtual 80, 3) := by decide +kernel
theorem dX8_isRead_32 : decode cX8_isRead 32 = .ok (.ifCond .ne 5, 3) := by decide +kernel
theorem dX8_isRead_35 : decode cX8_isRead 35 = .ok (.iconst 0, 1) := by decide +kernel
theorem dX8_isRead_36 : decode cX8_isRead 36 = .ok (.ireturn, 1) := by decide +kernel
theorem dX8_isRead_37 : decode cX8_isRead 37 = .ok (.aload_n 0, 1) := by decide +kernel
theorem dX8_isRead_38 : decode cX8_isRead 38 = .ok (.iconst 2, 1) := by decide +kernel
theorem dX8_isRead_39 : decode cX8_isRead 39 = .ok (.bipush 6, 2) := by decide +kernel
theorem dX8_isRead_41 : decode cX8_isRead 41 = .ok (.iconst (-1), 1) := by decide +kernel
theorem dX8_isRead_42 : decode cX8_isRead 42 = .ok (.invokevirtual 76, 3) := by decide +kernel
theorem dX8_isRead_45 : decode cX8_isRead 45 = .ok (.istore_n 1, 1) := by decide +kernel
theorem dX8_isRead_46 : decode cX8_isRead 46 = .ok (.iload_n 1, 1) := by decide +kernel
theorem dX8_isRead_47 : decode cX8_isRead 47 = .ok (.ifCond .ge 5, 3) := by decide +kernel
theorem dX8_isRead_50 : decode cX8_isRead 50 = .ok (.iconst 0, 1) := by decide +kernel
theorem dX8_isRead_51 : decode cX8_isRead 51 = .ok (.ireturn, 1) := by decide +kernel
theorem dX8_isRead_52 : decode cX8_isRead 52 = .ok (.aload_n 0, 1) := by decide +kernel
theorem dX8_isRead_53 : decode cX8_isRead 53 = .ok (.getfield 26, 3) := by decide +kernel
theorem dX8_isRead_56 : decode cX8_isRead 56 = .ok (.iconst 1, 1) := by decide +kernel
theorem dX8_isRead_57 : decode cX8_isRead 57 = .ok (.iload_n 1, 1) := by decide +kernel
theorem dX8_isRead_58 : decode cX8_isRead 58 = .ok (.iastore, 1) := by decide +kernel
theorem dX8_isRead_59 : decode cX8_isRead 59 = .ok (.iconst 0, 1) := by decide +kernel
theorem dX8_isRead_60 : decode cX8_isRead 60 = .ok (.istore_n 2, 1) := by decide +kernel
theorem dX8_isRead_61 : decode cX8_isRead 61 = .ok (.iload_n 2, 1) := by decide +kernel
theorem dX8_isRead_62 : decode cX8_isRead 62 = .ok (.iload_n 1, 1) := by decide +kernel
theorem dX8_isRead_63 : decode cX8_isRead 63 = .ok (.if_icmp .ge 40, 3) := by decide +kernel
theorem dX8_isRead_66 : decode cX8_isRead 66 = .ok (.aload_n 0, 1) := by decide +kernel
theorem dX8_isRead_67 : decode cX8_isRead 67 = .ok (.iload_n 2, 1) := by decide +kernel
theorem dX8_isRead_68 : decode cX8_isRead 68 = .ok (.invokevirtual 88, 3) := by decide +kernel
theorem dX8_isRead_71 : decode cX8_isRead 71 = .ok (.ifCond .eq 24, 3) := by decide +kernel
theorem dX8_isRead_74 : decode cX8_isRead 74 = .ok (.aload_n 0, 1) := by decide +kernel
theorem dX8_isRead_75 : decode cX8_isRead 75 = .ok (.iload_n 2, 1) := by decide +kernel
theorem dX8_isRead_76 : decode cX8_isRead 76 = .ok (.iload_n 1, 1) := by decide +kernel
theorem dX8_isRead_77 : decode cX8_isRead 77 = .ok (.iconst 1, 1) := by decide +kernel
theorem dX8_isRead_78 : decode cX8_isRead 78 = .ok (.isub, 1) := by decide +kernel
theorem dX8_isRead_79 : decode cX8_isRead 79 = .ok (.if_icmp .ge 8, 3) := by decide +kernel
theorem dX8_isRead_82 : decode cX8_isRead 82 = .ok (.bipush 44, 2) := by decide +kernel
theorem dX8_isRead_84 : decode cX8_isRead 84 = .ok (.goto 5, 3) := by decide +kernel
theorem dX8_isRead_87 : decode cX8_isRead 87 = .ok (.bipush 59, 2) := by decide +kernel
theorem dX8_isRead_89 : decode cX8_isRead 89 = .ok (.invokevirtual 80, 3) := by decide +kernel
theorem dX8_isRead_92 : decode cX8_isRead 92 = .ok (.ifCond .ne 5, 3) := by decide +kernel
theorem dX8_isRead_95 : decode cX8_isRead 95 = .ok (.iconst 0, 1) := by decide +kernel
theorem dX8_isRead_96 : decode cX8_isRead 96 = .ok (.ireturn, 1) := by decide +kernel
theorem dX8_isRead_97 : decode cX8_isRead 97 = .ok (.iinc 2 1, 3) := by decide +kernel
theorem dX8_isRead_100 : decode cX8_isRead 100 = .ok (.goto (-39), 3) := by decide +kernel
theorem dX8_isRead_103 : decode cX8_isRead 103 = .ok (.iconst 1, 1) := by decide +kernel
theorem dX8_isRead_104 : decode cX8_isRead 104 = .ok (.istore_n 2, 1) := by decide +kernel
theorem dX8_isRead_105 : decode cX8_isRead 105 = .ok (.iload_n 2, 1) := by decide +kernel
theorem dX8_isRead_106 : decode cX8_isRead 106 = .ok (.ifCond .eq 41, 3) := by decide +kernel
theorem dX8_isRead_109 : decode cX8_isRead 109 = .ok (.aload_n 0, 1) := by decide +kernel
theorem dX8_isRead_110 : decode cX8_isRead 110 = .ok (.invokevirtual 91, 3) := by decide +kernel
theorem dX8_isRead_113 : decode cX8_isRead 113 = .ok (.ifCond .ne 5, 3) := by decide +kernel
theorem dX8_isRead_116 : decode cX8_isRead 116 = .ok (.iconst 0, 1) := by decide +kernel
theorem dX8_isRead_117 : decode cX8_isRead 117 = .ok (.ireturn, 1) := by decide +kernel
theorem dX8_isRead_118 : decode cX8_isRead 118 = .ok (.aload_n 0, 1) := by decide +kernel
theorem dX8_isRead_119 : decode cX8_isRead 119 = .ok (.getfield 26, 3) := by decide +kernel
theorem dX8_isRead_122 : decode cX8_isRead 122 = .ok (.iconst 2, 1) := by decide +kernel
theorem dX8_isRead_123 : decode cX8_isRead 123 = .ok (.iaload, 1) := by decide +kernel
theorem dX8_isRead_124 : decode cX8_isRead 124 = .ok (.bipush 8, 2) := by decide +kernel
theorem dX8_isRead_126 : decode cX8_isRead 126 = .ok (.if_icmp .ge 16, 3) := by decide +kernel
theorem dX8_isRead_129 : decode cX8_isRead 129 = .ok (.aload_n 0, 1) := by decide +kernel
theorem dX8_isRead_130 : decode cX8_isRead 130 = .ok (.bipush 44, 2) := by decide +kernel
theorem dX8_isRead_132 : decode cX8_isRead 132 = .ok (.invokevirtual 80, 3) := by decide +kernel
theorem dX8_isRead_135 : decode cX8_isRead 135 = .ok (.ifCond .eq 7, 3) := by decide +kernel
theorem dX8_isRead_138 : decode cX8_isRead 138 = .ok (.iconst 1, 1) := by decide +kernel
theorem dX8_isRead_139 : decode cX8_isRead 139 = .ok (.goto 4, 3) := by decide +kernel
theorem dX8_isRead_142 : decode cX8_isRead 142 = .ok (.iconst 0, 1) := by decide +kernel
theorem dX8_isRead_143 : decode cX8_isRead 143 = .ok (.istore_n 2, 1) := by decide +kernel
theorem dX8_isRead_144 : decode cX8_isRead 144 = .ok (.goto (-39), 3) := by decide +kernel
theorem dX8_isRead_147 : decode cX8_isRead 147 = .ok (.aload_n 0, 1) := by decide +kernel
theorem dX8_isRead_148 : decode cX8_isRead 148 = .ok (.bipush 59, 2) := by decide +kernel
theorem dX8_isRead_150 : decode cX8_isRead 150 = .ok (.invokevirtual 80, 3) := by decide +kernel
theorem dX8_isRead_153 : decode cX8_isRead 153 = .ok (.ifCond .ne 5, 3) := by decide +kernel
theorem dX8_isRead_156 : decode cX8_isRead 156 = .ok (.iconst 0, 1) := by decide +kernel
theorem dX8_isRead_157 : decode cX8_isRead 157 = .ok (.ireturn, 1) := by decide +kernel
theorem dX8_isRead_158 : decode cX8_isRead 158 = .ok (.aload_n 0, 1) := by decide +kernel
theorem dX8_isRead_159 : decode cX8_isRead 159 = .ok (.getfield 26, 3) := by decide +kernel
theorem dX8_isRead_162 : decode cX8_isRead 162 = .ok (.iconst 0, 1) := by decide +kernel
theorem dX8_isRead_163 : decode cX8_isRead 163 = .ok (.aload_n 0, 1) := by decide +kernel
theorem dX8_isRead_164 : decode cX8_isRead 164 = .ok (.iconst 0, 1) := by decide +kernel
theorem dX8_isRead_165 : decode cX8_isRead 165 = .ok (.iconst 1, 1) := by decide +kernel
theorem dX8_isRead_166 : decode cX8_isRead 166 = .ok (.iconst (-1), 1) := by decide +kernel
theorem dX8_isRead_167 : decode cX8_isRead 167 = .ok (.invokevirtual 76, 3) := by decide +kernel
theorem dX8_isRead_170 : decode cX8_isRead 170 = .ok (.iastore, 1) := by decide +kernel
theorem dX8_isRead_171 : decode cX8_isRead 171 = .ok (.aload_n 0, 1) := by decide +kernel
theorem dX8_isRead_172 : decode cX8_isRead 172 = .ok (.getfield 26, 3) := by decide +kernel
theorem dX8_isRead_175 : decode cX8_isRead 175 = .ok (.iconst 0, 1) := by decide +kernel
theorem dX8_isRead_176 : decode cX8_isRead 176 = .ok (.iaload, 1) := by decide +kernel
theorem dX8_isRead_177 : decode cX8_isRead 177 = .ok (.ifCond .lt 18, 3) := by decide +kernel
theorem dX8_isRead_180 : decode cX8_isRead 180 = .ok (.aload_n 0, 1) := by decide +kernel
theorem dX8_isRead_181 : decode cX8_isRead 181 = .ok (.getfield 65, 3) := by decide +kernel
theorem dX8_isRead_184 : decode cX8_isRead 184 = .ok (.aload_n 0, 1) := by decide +kernel
theorem dX8_isRead_185 : decode cX8_isRead 185 = .ok (.getfield 61, 3) := by decide +kernel
theorem dX8_isRead_188 : decode cX8_isRead 188 = .ok (.if_icmp .ne 7, 3) := by decide +kernel
theorem dX8_isRead_191 : decode cX8_isRead 191 = .ok (.iconst 1, 1) := by decide +kernel
theorem dX8_isRead_192 : decode cX8_isRead 192 = .ok (.goto 4, 3) := by decide +kernel
theorem dX8_isRead_195 : decode cX8_isRead 195 = .ok (.iconst 0, 1) := by decide +kernel
theorem dX8_isRead_196 : decode cX8_isRead 196 = .ok (.ireturn, 1) := by decide +kernel
theorem dX8_coast_0 : decode cX8_coast 0 = .ok (.aload_n 0, 1) := by decide +kernel
theorem dX8_coast_1 : decode cX8_coast 1 = .ok (.invokevirtual 95, 3) := by decide +kernel
theorem dX8_coast_4 : decode cX8_coast 4 = .ok (.istore_n 1, 1) := by decide +kernel
theorem dX8_coast_5 : decode cX8_coast 5 = .ok (.aload_n 0, 1) := by decide +kernel
theorem dX8_coast_6 : decode cX8_coast 6 = .ok (.iconst 0, 1) := by decide +kernel
theorem dX8_coast_7 : decode cX8_coast 7 = .ok (.putfield 61, 3) := by decide +kernel
theorem dX8_coast_10 : decode cX8_coast 10 = .ok (.iload_n 1, 1) := by decide +kernel
theorem dX8_coast_11 : decode cX8_coast 11 = .ok (.ifCond .ne 11, 3) := by decide +kernel
theorem dX8_coast_14 : decode cX8_coast 14 = .ok (.bipush (-100), 2) := by decide +kernel
theorem dX8_coast_16 : decode cX8_coast 16 = .ok (.aload_n 0, 1) := by decide +kernel
theorem dX8_coast_17 : decode cX8_coast 17 = .ok (.getfield 65, 3) := by decide +kernel
theorem dX8_coast_20 : decode cX8_coast 20 = .ok (.isub, 1) := by decide +kernel
theorem dX8_coast_21 : decode cX8_coast 21 = .ok (.ireturn, 1) := by decide +kernel
theorem dX8_coast_22 : decode cX8_coast 22 = .ok (.aload_n 0, 1) := by decide +kernel
theorem dX8_coast_23 : decode cX8_coast 23 = .ok (.getfield 26, 3) := by decide +kernel
theorem dX8_coast_26 : decode cX8_coast 26 = .ok (.iconst 0, 1) := by decide +kernel
theorem dX8_coast_27 : decode cX8_coast 27 = .ok (.aload_n 0, 1) := by decide +kernel
theorem dX8_coast_28 : decode cX8_coast 28 = .ok (.getfield 23, 3) := by decide +kernel
theorem dX8_coast_31 : decode cX8_coast 31 = .ok (.iconst 0, 1) := by decide +kernel
theorem dX8_coast_32 : decode cX8_coast 32 = .ok (.bipush 83, 2) := by decide +kernel
theorem dX8_coast_34 : decode cX8_coast 34 = .ok (.invokestatic 98, 3) := by decide +kernel
theorem dX8_coast_37 : decode cX8_coast 37 = .ok (.aload_n 0, 1) := by decide +kernel
theorem dX8_coast_38 : decode cX8_coast 38 = .ok (.iconst 0, 1) := by decide +kernel
theorem dX8_coast_39 : decode cX8_coast 39 = .ok (.putfield 102, 3) := by decide +kernel
theorem dX8_coast_42 : decode cX8_coast 42 = .ok (.aload_n 0, 1) := by decide +kernel
theorem dX8_coast_43 : decode cX8_coast 43 = .ok (.getfield 23, 3) := by decide +kernel
theorem dX8_coast_46 : decode cX8_coast 46 = .ok (.iconst 2, 1) := by decide +kernel
theorem dX8_coast_47 : decode cX8_coast 47 = .ok (.iaload, 1) := by decide +kernel
theorem dX8_coast_48 : decode cX8_coast 48 = .ok (.ireturn, 1) := by decide +kernel
theorem dX8_person_0 : decode cX8_person 0 = .ok (.aload_n 0, 1) := by decide +kernel
theorem dX8_person_1 : decode cX8_person 1 = .ok (.iload_n 1, 1) := by decide +kernel
theorem dX8_person_2 : decode cX8_person 2 = .ok (.invokevirtual 105, 3) := by decide +kernel
theorem dX8_person_5 : decode cX8_person 5 = .ok (.ifCond .eq 13, 3) := by decide +kernel
theorem dX8_person_8 : decode cX8_person 8 = .ok (.iload_n 2, 1) := by decide +kernel
theorem dX8_person_9 : decode cX8_person 9 = .ok (.iconst 0, 1) := by decide +kernel
theorem dX8_person_10 : decode cX8_person 10 = .ok (.bipush 7, 2) := by decide +kernel
theorem dX8_person_12 : decode cX8_person 12 = .ok (.invokestatic 57, 3) := by decide +kernel
theorem dX8_person_15 : decode cX8_person 15 = .ok (.ifCond .ne 5, 3) := by decide +kernel
theorem dX8_person_18 : decode cX8_person 18 = .ok (.iconst (-1), 1) := by decide +kernel
theorem dX8_person_19 : decode cX8_person 19 = .ok (.ireturn, 1) := by decide +kernel
theorem dX8_person_20 : decode cX8_person 20 = .ok (.aload_n 0, 1) := by decide +kernel
theorem dX8_person_21 : decode cX8_person 21 = .ok (.getfield 23, 3) := by decide +kernel
theorem dX8_person_24 : decode cX8_person 24 = .ok (.iconst 3, 1) := by decide +kernel
theorem dX8_person_25 : decode cX8_person 25 = .ok (.bipush 6, 2) := by decide +kernel
theorem dX8_person_27 : decode cX8_person 27 = .ok (.iload_n 2, 1) := by decide +kernel
theorem dX8_person_28 : decode cX8_person 28 = .ok (.imul, 1) := by decide +kernel
theorem dX8_person_29 : decode cX8_person 29 = .ok (.iadd, 1) := by decide +kernel
theorem dX8_person_30 : decode cX8_person 30 = .ok (.iload_n 1, 1) := by decide +kernel
theorem dX8_person_31 : decode cX8_person 31 = .ok (.iadd, 1) := by decide +kernel
theorem dX8_person_32 : decode cX8_person 32 = .ok (.iaload, 1) := by decide +kernel
theorem dX8_person_33 : decode cX8_person 33 = .ok (.ireturn, 1) := by decide +kernel
theorem dX8_as_0 : decode cX8_as 0 = .ok (.aload_n 0, 1) := by decide +kernel
theorem dX8_as_1 : decode cX8_as 1 = .ok (.iload_n 1, 1) := by decide +kernel
theorem dX8_as_2 : decode cX8_as 2 = .ok (.invokevirtual 105, 3) := by decide +kernel
theorem dX8_as_5 : decode cX8_as 5 = .ok (.ifCond .eq 12, 3) := by decide +kernel
theorem dX8_as_8 : decode cX8_as 8 = .ok (.iload_n 2, 1) := by decide +kernel
theorem dX8_as_9 : decode cX8_as 9 = .ok (.iconst 0, 1) := by decide +kernel
theorem dX8_as_10 : decode cX8_as 10 = .ok (.iconst 5, 1) := by decide +kernel
theorem dX8_as_11 : decode cX8_as 11 = .ok (.invokestatic 57, 3) := by decide +kernel
theorem dX8_as_14 : decode cX8_as 14 = .ok (.ifCond .ne 5, 3) := by decide +kernel
theorem dX8_as_17 : decode cX8_as 17 = .ok (.iconst (-1), 1) := by decide +kernel
theorem dX8_as_18 : decode cX8_as 18 = .ok (.ireturn, 1) := by decide +kernel
theorem dX8_as_19 : decode cX8_as 19 = .ok (.aload_n 0, 1) := by decide +kernel
theorem dX8_as_20 : decode cX8_as 20 = .ok (.getfield 23, 3) := by decide +kernel
theorem dX8_as_23 : decode cX8_as 23 = .ok (.iconst 3, 1) := by decide +kernel
theorem dX8_as_24 : decode cX8_as 24 = .ok (.iload_n 1, 1) := by decide +kernel
theorem dX8_as_25 : decode cX8_as 25 = .ok (.iadd, 1) := by decide +kernel
theorem dX8_as_26 : decode cX8_as 26 = .ok (.iaload, 1) := by decide +kernel
theorem dX8_as_27 : decode cX8_as 27 = .ok (.istore_n 3, 1) := by decide +kernel
theorem dX8_as_28 : decode cX8_as 28 = .ok (.iload_n 2, 1) := by decide +kernel
theorem dX8_as_29 : decode cX8_as 29 = .ok (.iconst 1, 1) := by decide +kernel
theorem dX8_as_30 : decode cX8_as 30 = .ok (.if_icmp .ne 12, 3) := by decide +kernel
theorem dX8_as_33 : decode cX8_as 33 = .ok (.iload_n 3, 1) := by decide +kernel
theorem dX8_as_34 : decode cX8_as 34 = .ok (.iconst 4, 1) := by decide +kernel
theorem dX8_as_35 : decode cX8_as 35 = .ok (.if_icmp .eq 7, 3) := by decide +kernel
theorem dX8_as_38 : decode cX8_as 38 = .ok (.iconst 1, 1) := by decide +kernel
theorem dX8_as_39 : decode cX8_as 39 = .ok (.goto 4, 3) := by decide +kernel
theorem dX8_as_42 : decode cX8_as 42 = .ok (.iconst 0, 1) := by decide +kernel
theorem dX8_as_43 : decode cX8_as 43 = .ok (.istore 4, 2) := by decide +kernel
theorem dX8_as_45 : decode cX8_as 45 = .ok (.iload_n 2, 1) := by decide +kernel
theorem dX8_as_46 : decode cX8_as 46 = .ok (.iconst 2, 1) := by decide +kernel
theorem dX8_as_47 : decode cX8_as 47 = .ok (.if_icmp .ne 12, 3) := by decide +kernel
theorem dX8_as_50 : decode cX8_as 50 = .ok (.iload_n 3, 1) := by decide +kernel
theorem dX8_as_51 : decode cX8_as 51 = .ok (.iconst 5, 1) := by decide +kernel
theorem dX8_as_52 : decode cX8_as 52 = .ok (.if_icmp .ne 7, 3) := by decide +kernel
theorem dX8_as_55 : decode cX8_as 55 = .ok (.iconst 1, 1) := by decide +kernel
theorem dX8_as_56 : decode cX8_as 56 = .ok (.goto 4, 3) := by decide +kernel
theorem dX8_as_59 : decode cX8_as 59 = .ok (.iconst 0, 1) := by decide +kernel
theorem dX8_as_60 : decode cX8_as 60 = .ok (.istore 5, 2) := by decide +kernel
theorem dX8_as_62 : decode cX8_as 62 = .ok (.iload_n 2, 1) := by decide +kernel
theorem dX8_as_63 : decode cX8_as 63 = .ok (.ifCond .eq 18, 3) := by decide +kernel
theorem dX8_as_66 : decode cX8_as 66 = .ok (.iload_n 2, 1) := by decide +kernel
theorem dX8_as_67 : decode cX8_as 67 = .ok (.iload_n 3, 1) := by decide +kernel
theorem dX8_as_68 : decode cX8_as 68 = .ok (.if_icmp .eq 13, 3) := by decide +kernel
theorem dX8_as_71 : decode cX8_as 71 = .ok (.iload 4, 2) := by decide +kernel
theorem dX8_as_73 : decode cX8_as 73 = .ok (.ifCond .ne 8, 3) := by decide +kernel
theorem dX8_as_76 : decode cX8_as 76 = .ok (.iload 5, 2) := by decide +kernel
theorem dX8_as_78 : decode cX8_as 78 = .ok (.ifCond .eq 7, 3) := by decide +kernel
theorem dX8_as_81 : decode cX8_as 81 = .ok (.iload_n 1, 1) := by decide +kernel
theorem dX8_as_82 : decode cX8_as 82 = .ok (.goto 5, 3) := by decide +kernel
theorem dX8_as_85 : decode cX8_as 85 = .ok (.bipush (-12), 2) := by decide +kernel
theorem dX8_as_87 : decode cX8_as 87 = .ok (.ireturn, 1) := by decide +kernel
theorem dX8_needOf_0 : decode cX8_needOf 0 = .ok (.aload_n 0, 1) := by decide +kernel
theorem dX8_needOf_1 : decode cX8_needOf 1 = .ok (.bipush 67, 2) := by decide +kernel
theorem dX8_needOf_3 : decode cX8_needOf 3 = .ok (.iload_n 1, 1) := by decide +kernel
theorem dX8_needOf_4 : decode cX8_needOf 4 = .ok (.iadd, 1) := by decide +kernel
theorem dX8_needOf_5 : decode cX8_needOf 5 = .ok (.iaload, 1) := by decide +kernel
theorem dX8_needOf_6 : decode cX8_needOf 6 = .ok (.aload_n 0, 1) := by decide +kernel
theorem dX8_needOf_7 : decode cX8_needOf 7 = .ok (.bipush 15, 2) := by decide +kernel
theorem dX8_needOf_9 : decode cX8_needOf 9 = .ok (.aload_n 0, 1) := by decide +kernel
theorem dX8_needOf_10 : decode cX8_needOf 10 = .ok (.bipush 59, 2) := by decide +kernel
theorem dX8_needOf_12 : decode cX8_needOf 12 = .ok (.iload_n 1, 1) := by decide +kernel
theorem dX8_needOf_13 : decode cX8_needOf 13 = .ok (.iadd, 1) := by decide +kernel
theorem dX8_needOf_14 : decode cX8_needOf 14 = .ok (.iaload, 1) := by decide +kernel
theorem dX8_needOf_15 : decode cX8_needOf 15 = .ok (.iadd, 1) := by decide +kernel
theorem dX8_needOf_16 : decode cX8_needOf 16 = .ok (.iaload, 1) := by decide +kernel
theorem dX8_needOf_17 : decode cX8_needOf 17 = .ok (.iconst 2, 1) := by decide +kernel
theorem dX8_needOf_18 : decode cX8_needOf 18 = .ok (.idiv, 1) := by decide +kernel
theorem dX8_needOf_19 : decode cX8_needOf 19 = .ok (.iadd, 1) := by decide +kernel
theorem dX8_needOf_20 : decode cX8_needOf 20 = .ok (.ireturn, 1) := by decide +kernel
theorem dX8_wrong_0 : decode cX8_wrong 0 = .ok (.aload_n 0, 1) := by decide +kernel
theorem dX8_wrong_1 : decode cX8_wrong 1 = .ok (.iload_n 1, 1) := by decide +kernel
theorem dX8_wrong_2 : decode cX8_wrong 2 = .ok (.invokevirtual 108, 3) := by decide +kernel
theorem dX8_wrong_5 : decode cX8_wrong 5 = .ok (.ifCond .ne 5, 3) := by decide +kernel
theorem dX8_wrong_8 : decode cX8_wrong 8 = .ok (.iconst (-1), 1) := by decide +kernel
theorem dX8_wrong_9 : decode cX8_wrong 9 = .ok (.ireturn, 1) := by decide +kernel
theorem dX8_wrong_10 : decode cX8_wrong 10 = .ok (.iload_n 2, 1) := by decide +kernel
theorem dX8_wrong_11 : decode cX8_wrong 11 = .ok (.tableswitch 82 0 4 #[33, 43, 53, 63, 73], 33) := by decide +kernel
theorem dX8_wrong_44 : decode cX8_wrong 44 = .ok (.aload_n 0, 1) := by decide +kernel
theorem dX8_wrong_45 : decode cX8_wrong 45 = .ok (.getfield 23, 3) := by decide +kernel
theorem dX8_wrong_48 : decode cX8_wrong 48 = .ok (.bipush 51, 2) := by decide +kernel
theorem dX8_wrong_50 : decode cX8_wrong 50 = .ok (.iload_n 1, 1) := by decide +kernel
theorem dX8_wrong_51 : decode cX8_wrong 51 = .ok (.iadd, 1) := by decide +kernel
theorem dX8_wrong_52 : decode cX8_wrong 52 = .ok (.iaload, 1) := by decide +kernel
theorem dX8_wrong_53 : decode cX8_wrong 53 = .ok (.ireturn, 1) := by decide +kernel
theorem dX8_wrong_54 : decode cX8_wrong 54 = .ok (.aload_n 0, 1) := by decide +kernel
theorem dX8_wrong_55 : decode cX8_wrong 55 = .ok (.getfield 23, 3) := by decide +kernel
theorem dX8_wrong_58 : decode cX8_wrong 58 = .ok (.bipush 59, 2) := by decide +kernel
theorem dX8_wrong_60 : decode cX8_wrong 60 = .ok (.iload_n 1, 1) := by decide +kernel
theorem dX8_wrong_61 : decode cX8_wrong 61 = .ok (.iadd, 1) := by decide +kernel
theorem dX8_wrong_62 : decode cX8_wrong 62 = .ok (.iaload, 1) := by decide +kernel
theorem dX8_wrong_63 : decode cX8_wrong 63 = .ok (.ireturn, 1) := by decide +kernel
theorem dX8_wrong_64 : decode cX8_wrong 64 = .ok (.aload_n 0, 1) := by decide +kernel
theorem dX8_wrong_65 : decode cX8_wrong 65 = .ok (.getfield 23, 3) := by decide +kernel
theorem dX8_wrong_68 : decode cX8_wrong 68 = .ok (.bipush 67, 2) := by decide +kernel
theorem dX8_wrong_70 : decode cX8_wrong 70 = .ok (.iload_n 1, 1) := by decide +kernel
theorem dX8_wrong_71 : decode cX8_wrong 71 = .ok (.iadd, 1) := by decide +kernel
theorem dX8_wrong_72 : decode cX8_wrong 72 = .ok (.iaload, 1) := by decide +kernel
theorem dX8_wrong_73 : decode cX8_wrong 73 = .ok (.ireturn, 1) := by decide +kernel
theorem dX8_wrong_74 : decode cX8_wrong 74 = .ok (.aload_n 0, 1) := by decide +kernel
theorem dX8_wrong_75 : decode cX8_wrong 75 = .ok (.getfield 23, 3) := by decide +kernel
theorem dX8_wrong_78 : decode cX8_wrong 78 = .ok (.bipush 75, 2) := by decide +kernel
theorem dX8_wrong_80 : decode cX8_wrong 80 = .ok (.iload_n 1, 1) := by decide +kernel
theorem dX8_wrong_81 : decode cX8_wrong 81 = .ok (.iadd, 1) := by decide +kernel
theorem dX8_wrong_82 : decode cX8_wrong 82 = .ok (.iaload, 1) := by decide +kernel
theorem dX8_wrong_83 : decode cX8_wrong 83 = .ok (.ireturn, 1) := by decide +kernel
theorem dX8_wrong_84 : decode cX8_wrong 84 = .ok (.aload_n 0, 1) := by decide +kernel
theorem dX8_wrong_85 : decode cX8_wrong 85 = .ok (.getfield 23, 3) := by decide +kernel
theorem dX8_wrong_88 : decode cX8_wrong 88 = .ok (.iload_n 1, 1) := by decide +kernel
theorem dX8_wrong_89 : decode cX8_wrong 89 = .ok (.invokestatic 111, 3) := by decide +kernel
theorem dX8_wrong_92 : decode cX8_wrong 92 = .ok (.ireturn, 1) := by decide +kernel
theorem dX8_wrong_93 : decode cX8_wrong 93 = .ok (.iconst (-1), 1) := by decide +kernel
theorem dX8_wrong_94 : decode cX8_wrong 94 = .ok (.ireturn, 1) := by decide +kernel
theorem dX8_milesOf_0 : decode cX8_milesOf 0 = .ok (.iload_n 0, 1) := by decide +kernel
theorem dX8_milesOf_1 : decode cX8_milesOf 1 = .ok (.iload_n 1, 1) := by decide +kernel
theorem dX8_milesOf_2 : decode cX8_milesOf 2 = .ok (.if_icmp .le 9, 3) := by decide +kernel
theorem dX8_milesOf_5 : decode cX8_milesOf 5 = .ok (.iload_n 0, 1) := by decide +kernel
theorem dX8_milesOf_6 : decode cX8_milesOf 6 = .ok (.iload_n 1, 1) := by decide +kernel
theorem dX8_milesOf_7 : decode cX8_milesOf 7 = .ok (.isub, 1) := by decide +kernel
theorem dX8_milesOf_8 : decode cX8_milesOf 8 = .ok (.goto 6, 3) := by decide +kernel
theorem dX8_milesOf_11 : decode cX8_milesOf 11 = .ok (.iload_n 1, 1) := by decide +kernel
theorem dX8_milesOf_12 : decode cX8_milesOf 12 = .ok (.iload_n 0, 1) := by decide +kernel
theorem dX8_milesOf_13 : decode cX8_milesOf 13 = .ok (.isub, 1) := by decide +kernel
theorem dX8_milesOf_14 : decode cX8_milesOf 14 = .ok (.ireturn, 1) := by decide +kernel
theorem dX8_isOverSands_0 : decode cX8_isOverSands 0 = .ok (.iload_n 0, 1) := by decide +kernel
theorem dX8_isOverSands_1 : decode cX8_isOverSands 1 = .ok (.iconst 5, 1) := by decide +kernel
theorem dX8_isOverSands_2 : decode cX8_isOverSands 2 = .ok (.if_icmp .ge 7, 3) := by decide +kernel
theorem dX8_isOverSands_5 : decode cX8_isOverSands 5 = .ok (.iconst 1, 1) := by decide +kernel
theorem dX8_isOverSands_6 : decode cX8_isOverSands 6 = .ok (.goto 4, 3) := by decide +kernel
theorem dX8_isOverSands_9 : decode cX8_isOverSands 9 = .ok (.iconst 0, 1) := by decide +kernel
theorem dX8_isOverSands_10 : decode cX8_isOverSands 10 = .ok (.iload_n 1, 1) := by decide +kernel
theorem dX8_isOverSands_11 : decode cX8_isOverSands 11 = .ok (.iconst 5, 1) := by decide +kernel
theorem dX8_isOverSands_12 : decode cX8_isOverSands 12 = .ok (.if_icmp .ge 7, 3) := by decide +kernel
theorem dX8_isOverSands_15 : decode cX8_isOverSands 15 = .ok (.iconst 1, 1) := by decide +kernel
theorem dX8_isOverSands_16 : decode cX8_isOverSands 16 = .ok (.goto 4, 3) := by decide +kernel
theorem dX8_isOverSands_19 : decode cX8_isOverSands 19 = .ok (.iconst 0, 1) := by decide +kernel
theorem dX8_isOverSands_20 : decode cX8_isOverSands 20 = .ok (.if_icmp .eq 7, 3) := by decide +kernel
theorem dX8_isOverSands_23 : decode cX8_isOverSands 23 = .ok (.iconst 1, 1) := by decide +kernel
theorem dX8_isOverSands_24 : decode cX8_isOverSands 24 = .ok (.goto 4, 3) := by decide +kernel
theorem dX8_isOverSands_27 : decode cX8_isOverSands 27 = .ok (.iconst 0, 1) := by decide +kernel
theorem dX8_isOverSands_28 : decode cX8_isOverSands 28 = .ok (.ireturn, 1) := by decide +kernel
theorem dX8_isMay_0 : decode cX8_isMay 0 = .ok (.aload_n 0, 1) := by decide +kernel
theorem dX8_isMay_1 : decode cX8_isMay 1 = .ok (.bipush 75, 2) := by decide +kernel
theorem dX8_isMay_3 : decode cX8_isMay 3 = .ok (.iload_n 1, 1) := by decide +kernel
theorem dX8_isMay_4 : decode cX8_isMay 4 = .ok (.iadd, 1) := by decide +kernel
theorem dX8_isMay_5 : decode cX8_isMay 5 = .ok (.iaload, 1) := by decide +kernel
theorem dX8_isMay_6 : decode cX8_isMay 6 = .ok (.bipush (-4), 2) := by decide +kernel
theorem dX8_isMay_8 : decode cX8_isMay 8 = .ok (.if_icmp .ne 7, 3) := by decide +kernel
theorem dX8_isMay_11 : decode cX8_isMay 11 = .ok (.iconst 1, 1) := by decide +kernel
theorem dX8_isMay_12 : decode cX8_isMay 12 = .ok (.goto 4, 3) := by decide +kernel
theorem dX8_isMay_15 : decode cX8_isMay 15 = .ok (.iconst 0, 1) := by decide +kernel
theorem dX8_isMay_16 : decode cX8_isMay 16 = .ok (.istore_n 3, 1) := by decide +kernel
theorem dX8_isMay_17 : decode cX8_isMay 17 = .ok (.aload_n 0, 1) := by decide +kernel
theorem dX8_isMay_18 : decode cX8_isMay 18 = .ok (.iconst 0, 1) := by decide +kernel
theorem dX8_isMay_19 : decode cX8_isMay 19 = .ok (.iaload, 1) := by decide +kernel
theorem dX8_isMay_20 : decode cX8_isMay 20 = .ok (.iconst 2, 1) := by decide +kernel
theorem dX8_isMay_21 : decode cX8_isMay 21 = .ok (.irem, 1) := by decide +kernel
theorem dX8_isMay_22 : decode cX8_isMay 22 = .ok (.ifCond .eq 26, 3) := by decide +kernel
theorem dX8_isMay_25 : decode cX8_isMay 25 = .ok (.aload_n 0, 1) := by decide +kernel
theorem dX8_isMay_26 : decode cX8_isMay 26 = .ok (.bipush 27, 2) := by decide +kernel
theorem dX8_isMay_28 : decode cX8_isMay 28 = .ok (.iload_n 2, 1) := by decide +kernel
theorem dX8_isMay_29 : decode cX8_isMay 29 = .ok (.iadd, 1) := by decide +kernel
theorem dX8_isMay_30 : decode cX8_isMay 30 = .ok (.iaload, 1) := by decide +kernel
theorem dX8_isMay_31 : decode cX8_isMay 31 = .ok (.aload_n 0, 1) := by decide +kernel
theorem dX8_isMay_32 : decode cX8_isMay 32 = .ok (.bipush 21, 2) := by decide +kernel
theorem dX8_isMay_34 : decode cX8_isMay 34 = .ok (.aload_n 0, 1) := by decide +kernel
theorem dX8_isMay_35 : decode cX8_isMay 35 = .ok (.bipush 59, 2) := by decide +kernel
theorem dX8_isMay_37 : decode cX8_isMay 37 = .ok (.iload_n 1, 1) := by decide +kernel
theorem dX8_isMay_38 : decode cX8_isMay 38 = .ok (.iadd, 1) := by decide +kernel
theorem dX8_isMay_39 : decode cX8_isMay 39 = .ok (.iaload, 1) := by decide +kernel
theorem dX8_isMay_40 : decode cX8_isMay 40 = .ok (.iadd, 1) := by decide +kernel
theorem dX8_isMay_41 : decode cX8_isMay 41 = .ok (.iaload, 1) := by decide +kernel
theorem dX8_isMay_42 : decode cX8_isMay 42 = .ok (.invokestatic 115, 3) := by decide +kernel
theorem dX8_isMay_45 : decode cX8_isMay 45 = .ok (.ifCond .ne 7, 3) := by decide +kernel
theorem dX8_isMay_48 : decode cX8_isMay 48 = .ok (.iconst 1, 1) := by decide +kernel
theorem dX8_isMay_49 : decode cX8_isMay 49 = .ok (.goto 4, 3) := by decide +kernel
theorem dX8_isMay_52 : decode cX8_isMay 52 = .ok (.iconst 0, 1) := by decide +kernel
theorem dX8_isMay_53 : decode cX8_isMay 53 = .ok (.istore 4, 2) := by decide +kernel
theorem dX8_isMay_55 : decode cX8_isMay 55 = .ok (.iload_n 3, 1) := by decide +kernel
theorem dX8_isMay_56 : decode cX8_isMay 56 = .ok (.ifCond .eq 37, 3) := by decide +kernel
theorem dX8_isMay_59 : decode cX8_isMay 59 = .ok (.aload_n 0, 1) := by decide +kernel
theorem dX8_isMay_60 : decode cX8_isMay 60 = .ok (.bipush 33, 2) := by decide +kernel
theorem dX8_isMay_62 : decode cX8_isMay 62 = .ok (.iload_n 2, 1) := by decide +kernel
theorem dX8_isMay_63 : decode cX8_isMay 63 = .ok (.iadd, 1) := by decide +kernel
theorem dX8_isMay_64 : decode cX8_isMay 64 = .ok (.iaload, 1) := by decide +kernel
theorem dX8_isMay_65 : decode cX8_isMay 65 = .ok (.aload_n 0, 1) := by decide +kernel
theorem dX8_isMay_66 : decode cX8_isMay 66 = .ok (.bipush 51, 2) := by decide +kernel
theorem dX8_isMay_68 : decode cX8_isMay 68 = .ok (.iload_n 1, 1) := by decide +kernel
theorem dX8_isMay_69 : decode cX8_isMay 69 = .ok (.iadd, 1) := by decide +kernel
theorem dX8_isMay_70 : decode cX8_isMay 70 = .ok (.iaload, 1) := by decide +kernel
theorem dX8_isMay_71 : decode cX8_isMay 71 = .ok (.if_icmp .ne 22, 3) := by decide +kernel
theorem dX8_isMay_74 : decode cX8_isMay 74 = .ok (.iload_n 2, 1) := by decide +kernel
theorem dX8_isMay_75 : decode cX8_isMay 75 = .ok (.aload_n 0, 1) := by decide +kernel
theorem dX8_isMay_76 : decode cX8_isMay 76 = .ok (.bipush 59, 2) := by decide +kernel
theorem dX8_isMay_78 : decode cX8_isMay 78 = .ok (.iload_n 1, 1) := by decide +kernel
theorem dX8_isMay_79 : decode cX8_isMay 79 = .ok (.iadd, 1) := by decide +kernel
theorem dX8_isMay_80 : decode cX8_isMay 80 = .ok (.iaload, 1) := by decide +kernel
theorem dX8_isMay_81 : decode cX8_isMay 81 = .ok (.if_icmp .eq 12, 3) := by decide +kernel
theorem dX8_isMay_84 : decode cX8_isMay 84 = .ok (.iload 4, 2) := by decide +kernel
theorem dX8_isMay_86 : decode cX8_isMay 86 = .ok (.ifCond .eq 7, 3) := by decide +kernel
theorem dX8_isMay_89 : decode cX8_isMay 89 = .ok (.iconst 1, 1) := by decide +kernel
theorem dX8_isMay_90 : decode cX8_isMay 90 = .ok (.goto 4, 3) := by decide +kernel
theorem dX8_isMay_93 : decode cX8_isMay 93 = .ok (.iconst 0, 1) := by decide +kernel
theorem dX8_isMay_94 : decode cX8_isMay 94 = .ok (.ireturn, 1) := by decide +kernel
theorem dX8_saidBy_0 : decode cX8_saidBy 0 = .ok (.iload_n 0, 1) := by decide +kernel
theorem dX8_saidBy_1 : decode cX8_saidBy 1 = .ok (.tableswitch 45 1 4 #[31, 33, 37, 41], 31) := by decide +kernel
theorem dX8_saidBy_32 : decode cX8_saidBy 32 = .ok (.iload_n 1, 1) := by decide +kernel
theorem dX8_saidBy_33 : decode cX8_saidBy 33 = .ok (.ireturn, 1) := by decide +kernel
theorem dX8_saidBy_34 : decode cX8_saidBy 34 = .ok (.iload_n 1, 1) := by decide +kernel
theorem dX8_saidBy_35 : decode cX8_saidBy 35 = .ok (.iconst 2, 1) := by decide +kernel
theorem dX8_saidBy_36 : decode cX8_saidBy 36 = .ok (.iadd, 1) := by decide +kernel
theorem dX8_saidBy_37 : decode cX8_saidBy 37 = .ok (.ireturn, 1) := by decide +kernel
theorem dX8_saidBy_38 : decode cX8_saidBy 38 = .ok (.iload_n 1, 1) := by decide +kernel
theorem dX8_saidBy_39 : decode cX8_saidBy 39 = .ok (.iconst 2, 1) := by decide +kernel
theorem dX8_saidBy_40 : decode cX8_saidBy 40 = .ok (.idiv, 1) := by decide +kernel
theorem dX8_saidBy_41 : decode cX8_saidBy 41 = .ok (.ireturn, 1) := by decide +kernel
theorem dX8_saidBy_42 : decode cX8_saidBy 42 = .ok (.iload_n 2, 1) := by decide +kernel
theorem dX8_saidBy_43 : decode cX8_saidBy 43 = .ok (.iconst 2, 1) := by decide +kernel
theorem dX8_saidBy_44 : decode cX8_saidBy 44 = .ok (.iadd, 1) := by decide +kernel
theorem dX8_saidBy_45 : decode cX8_saidBy 45 = .ok (.ireturn, 1) := by decide +kernel
theorem dX8_saidBy_46 : decode cX8_saidBy 46 = .ok (.iload_n 1, 1) := by decide +kernel
theorem dX8_saidBy_47 : decode cX8_saidBy 47 = .ok (.iconst 2, 1) := by decide +kernel
theorem dX8_saidBy_48 : decode cX8_saidBy 48 = .ok (.iadd, 1) := by decide +kernel
theorem dX8_saidBy_49 : decode cX8_saidBy 49 = .ok (.iload_n 3, 1) := by decide +kernel
theorem dX8_saidBy_50 : decode cX8_saidBy 50 = .ok (.iconst 2, 1) := by decide +kernel
theorem dX8_saidBy_51 : decode cX8_saidBy 51 = .ok (.idiv, 1) := by decide +kernel
theorem dX8_saidBy_52 : decode cX8_saidBy 52 = .ok (.iadd, 1) := by decide +kernel
theorem dX8_saidBy_53 : decode cX8_saidBy 53 = .ok (.ireturn, 1) := by decide +kernel
theorem dX8_saidOf_0 : decode cX8_saidOf 0 = .ok (.aload_n 0, 1) := by decide +kernel
theorem dX8_saidOf_1 : decode cX8_saidOf 1 = .ok (.iconst 3, 1) := by decide +kernel
theorem dX8_saidOf_2 : decode cX8_saidOf 2 = .ok (.iload_n 2, 1) := by decide +kernel
theorem dX8_saidOf_3 : decode cX8_saidOf 3 = .ok (.iadd, 1) := by decide +kernel
theorem dX8_saidOf_4 : decode cX8_saidOf 4 = .ok (.iaload, 1) := by decide +kernel
theorem dX8_saidOf_5 : decode cX8_saidOf 5 = .ok (.aload_n 0, 1) := by decide +kernel
theorem dX8_saidOf_6 : decode cX8_saidOf 6 = .ok (.bipush 9, 2) := by decide +kernel
theorem dX8_saidOf_8 : decode cX8_saidOf 8 = .ok (.iload_n 2, 1) := by decide +kernel
theorem dX8_saidOf_9 : decode cX8_saidOf 9 = .ok (.iadd, 1) := by decide +kernel
theorem dX8_saidOf_10 : decode cX8_saidOf 10 = .ok (.iaload, 1) := by decide +kernel
theorem dX8_saidOf_11 : decode cX8_saidOf 11 = .ok (.aload_n 0, 1) := by decide +kernel
theorem dX8_saidOf_12 : decode cX8_saidOf 12 = .ok (.bipush 39, 2) := by decide +kernel
theorem dX8_saidOf_14 : decode cX8_saidOf 14 = .ok (.iload_n 2, 1) := by decide +kernel
theorem dX8_saidOf_15 : decode cX8_saidOf 15 = .ok (.iadd, 1) := by decide +kernel
theorem dX8_saidOf_16 : decode cX8_saidOf 16 = .ok (.iaload, 1) := by decide +kernel
theorem dX8_saidOf_17 : decode cX8_saidOf 17 = .ok (.aload_n 0, 1) := by decide +kernel
theorem dX8_saidOf_18 : decode cX8_saidOf 18 = .ok (.bipush 27, 2) := by decide +kernel
theorem dX8_saidOf_20 : decode cX8_saidOf 20 = .ok (.iload_n 2, 1) := by decide +kernel
theorem dX8_saidOf_21 : decode cX8_saidOf 21 = .ok (.iadd, 1) := by decide +kernel
theorem dX8_saidOf_22 : decode cX8_saidOf 22 = .ok (.iaload, 1) := by decide +kernel
theorem dX8_saidOf_23 : decode cX8_saidOf 23 = .ok (.aload_n 0, 1) := by decide +kernel
theorem dX8_saidOf_24 : decode cX8_saidOf 24 = .ok (.bipush 21, 2) := by decide +kernel
theorem dX8_saidOf_26 : decode cX8_saidOf 26 = .ok (.aload_n 0, 1) := by decide +kernel
theorem dX8_saidOf_27 : decode cX8_saidOf 27 = .ok (.bipush 59, 2) := by decide +kernel
theorem dX8_saidOf_29 : decode cX8_saidOf 29 = .ok (.iload_n 1, 1) := by decide +kernel
theorem dX8_saidOf_30 : decode cX8_saidOf 30 = .ok (.iadd, 1) := by decide +kernel
theorem dX8_saidOf_31 : decode cX8_saidOf 31 = .ok (.iaload, 1) := by decide +kernel
theorem dX8_saidOf_32 : decode cX8_saidOf 32 = .ok (.iadd, 1) := by decide +kernel
theorem dX8_saidOf_33 : decode cX8_saidOf 33 = .ok (.iaload, 1) := by decide +kernel
theorem dX8_saidOf_34 : decode cX8_saidOf 34 = .ok (.invokestatic 119, 3) := by decide +kernel
theorem dX8_saidOf_37 : decode cX8_saidOf 37 = .ok (.invokestatic 123, 3) := by decide +kernel
theorem dX8_saidOf_40 : decode cX8_saidOf 40 = .ok (.ireturn, 1) := by decide +kernel
theorem dX8_stings_0 : decode cX8_stings 0 = .ok (.iload_n 0, 1) := by decide +kernel
theorem dX8_stings_1 : decode cX8_stings 1 = .ok (.iconst 1, 1) := by decide +kernel
theorem dX8_stings_2 : decode cX8_stings 2 = .ok (.if_icmp .eq 8, 3) := by decide +kernel
theorem dX8_stings_5 : decode cX8_stings 5 = .ok (.iload_n 0, 1) := by decide +kernel
theorem dX8_stings_6 : decode cX8_stings 6 = .ok (.iconst 2, 1) := by decide +kernel
theorem dX8_stings_7 : decode cX8_stings 7 = .ok (.if_icmp .ne 7, 3) := by decide +kernel
theorem dX8_stings_10 : decode cX8_stings 10 = .ok (.iconst 1, 1) := by decide +kernel
theorem dX8_stings_11 : decode cX8_stings 11 = .ok (.goto 13, 3) := by decide +kernel
theorem dX8_stings_14 : decode cX8_stings 14 = .ok (.iload_n 0, 1) := by decide +kernel
theorem dX8_stings_15 : decode cX8_stings 15 = .ok (.iconst 3, 1) := by decide +kernel
theorem dX8_stings_16 : decode cX8_stings 16 = .ok (.if_icmp .ne 7, 3) := by decide +kernel
theorem dX8_stings_19 : decode cX8_stings 19 = .ok (.iconst 2, 1) := by decide +kernel
theorem dX8_stings_20 : decode cX8_stings 20 = .ok (.goto 4, 3) := by decide +kernel
theorem dX8_stings_23 : decode cX8_stings 23 = .ok (.iconst 0, 1) := by decide +kernel
theorem dX8_stings_24 : decode cX8_stings 24 = .ok (.ireturn, 1) := by decide +kernel
theorem dX8_comesOf_0 : decode cX8_comesOf 0 = .ok (.aload_n 0, 1) := by decide +kernel
theorem dX8_comesOf_1 : decode cX8_comesOf 1 = .ok (.iload_n 1, 1) := by decide +kernel
theorem dX8_comesOf_2 : decode cX8_comesOf 2 = .ok (.iload_n 2, 1) := by decide +kernel
theorem dX8_comesOf_3 : decode cX8_comesOf 3 = .ok (.invokestatic 127, 3) := by decide +kernel
theorem dX8_comesOf_6 : decode cX8_comesOf 6 = .ok (.istore_n 3, 1) := by decide +kernel
theorem dX8_comesOf_7 : decode cX8_comesOf 7 = .ok (.aload_n 0, 1) := by decide +kernel
theorem dX8_comesOf_8 : decode cX8_comesOf 8 = .ok (.iload_n 1, 1) := by decide +kernel
theorem dX8_comesOf_9 : decode cX8_comesOf 9 = .ok (.invokestatic 111, 3) := by decide +kernel
theorem dX8_comesOf_12 : decode cX8_comesOf 12 = .ok (.istore 4, 2) := by decide +kernel
theorem dX8_comesOf_14 : decode cX8_comesOf 14 = .ok (.iload_n 3, 1) := by decide +kernel
theorem dX8_comesOf_15 : decode cX8_comesOf 15 = .ok (.iload 4, 2) := by decide +kernel
theorem dX8_comesOf_17 : decode cX8_comesOf 17 = .ok (.if_icmp .ge 7, 3) := by decide +kernel
theorem dX8_comesOf_20 : decode cX8_comesOf 20 = .ok (.iconst 0, 1) := by decide +kernel
theorem dX8_comesOf_21 : decode cX8_comesOf 21 = .ok (.goto 32, 3) := by decide +kernel
theorem dX8_comesOf_24 : decode cX8_comesOf 24 = .ok (.iload_n 3, 1) := by decide +kernel
theorem dX8_comesOf_25 : decode cX8_comesOf 25 = .ok (.iload 4, 2) := by decide +kernel
theorem dX8_comesOf_27 : decode cX8_comesOf 27 = .ok (.iconst 4, 1) := by decide +kernel
theorem dX8_comesOf_28 : decode cX8_comesOf 28 = .ok (.iadd, 1) := by decide +kernel
theorem dX8_comesOf_29 : decode cX8_comesOf 29 = .ok (.if_icmp .lt 23, 3) := by decide +kernel
theorem dX8_comesOf_32 : decode cX8_comesOf 32 = .ok (.aload_n 0, 1) := by decide +kernel
theorem dX8_comesOf_33 : decode cX8_comesOf 33 = .ok (.bipush 45, 2) := by decide +kernel
theorem dX8_comesOf_35 : decode cX8_comesOf 35 = .ok (.aload_n 0, 1) := by decide +kernel
theorem dX8_comesOf_36 : decode cX8_comesOf 36 = .ok (.bipush 59, 2) := by decide +kernel
theorem dX8_comesOf_38 : decode cX8_comesOf 38 = .ok (.iload_n 1, 1) := by decide +kernel
theorem dX8_comesOf_39 : decode cX8_comesOf 39 = .ok (.iadd, 1) := by decide +kernel
theorem dX8_comesOf_40 : decode cX8_comesOf 40 = .ok (.iaload, 1) := by decide +kernel
theorem dX8_comesOf_41 : decode cX8_comesOf 41 = .ok (.iadd, 1) := by decide +kernel
theorem dX8_comesOf_42 : decode cX8_comesOf 42 = .ok (.iaload, 1) := by decide +kernel
theorem dX8_comesOf_43 : decode cX8_comesOf 43 = .ok (.bipush (-4), 2) := by decide +kernel
theorem dX8_comesOf_45 : decode cX8_comesOf 45 = .ok (.if_icmp .ne 7, 3) := by decide +kernel
theorem dX8_comesOf_48 : decode cX8_comesOf 48 = .ok (.iconst 2, 1) := by decide +kernel
theorem dX8_comesOf_49 : decode cX8_comesOf 49 = .ok (.goto 4, 3) := by decide +kernel
theorem dX8_comesOf_52 : decode cX8_comesOf 52 = .ok (.iconst 1, 1) := by decide +kernel
theorem dX8_comesOf_53 : decode cX8_comesOf 53 = .ok (.ireturn, 1) := by decide +kernel
theorem dX8_carries_0 : decode cX8_carries 0 = .ok (.aload_n 0, 1) := by decide +kernel
theorem dX8_carries_1 : decode cX8_carries 1 = .ok (.iload_n 1, 1) := by decide +kernel
theorem dX8_carries_2 : decode cX8_carries 2 = .ok (.iload_n 2, 1) := by decide +kernel
theorem dX8_carries_3 : decode cX8_carries 3 = .ok (.invokestatic 131, 3) := by decide +kernel
theorem dX8_carries_6 : decode cX8_carries 6 = .ok (.istore_n 3, 1) := by decide +kernel
theorem dX8_carries_7 : decode cX8_carries 7 = .ok (.aload_n 0, 1) := by decide +kernel
theorem dX8_carries_8 : decode cX8_carries 8 = .ok (.bipush 59, 2) := by decide +kernel
theorem dX8_carries_10 : decode cX8_carries 10 = .ok (.iload_n 1, 1) := by decide +kernel
theorem dX8_carries_11 : decode cX8_carries 11 = .ok (.iadd, 1) := by decide +kernel
theorem dX8_carries_12 : decode cX8_carries 12 = .ok (.iaload, 1) := by decide +kernel
theorem dX8_carries_13 : decode cX8_carries 13 = .ok (.istore 4, 2) := by decide +kernel
theorem dX8_carries_15 : decode cX8_carries 15 = .ok (.iload_n 3, 1) := by decide +kernel
theorem dX8_carries_16 : decode cX8_carries 16 = .ok (.ifCond .ne 43, 3) := by decide +kernel
theorem dX8_carries_19 : decode cX8_carries 19 = .ok (.aload_n 0, 1) := by decide +kernel
theorem dX8_carries_20 : decode cX8_carries 20 = .ok (.bipush 67, 2) := by decide +kernel
theorem dX8_carries_22 : decode cX8_carries 22 = .ok (.iload_n 1, 1) := by decide +kernel
theorem dX8_carries_23 : decode cX8_carries 23 = .ok (.iadd, 1) := by decide +kernel
theorem dX8_carries_24 : decode cX8_carries 24 = .ok (.iaload, 1) := by decide +kernel
theorem dX8_carries_25 : decode cX8_carries 25 = .ok (.aload_n 0, 1) := by decide +kernel
theorem dX8_carries_26 : decode cX8_carries 26 = .ok (.iconst 3, 1) := by decide +kernel
theorem dX8_carries_27 : decode cX8_carries 27 = .ok (.iload_n 2, 1) := by decide +kernel
theorem dX8_carries_28 : decode cX8_carries 28 = .ok (.iadd, 1) := by decide +kernel
theorem dX8_carries_29 : decode cX8_carries 29 = .ok (.iaload, 1) := by decide +kernel
theorem dX8_carries_30 : decode cX8_carries 30 = .ok (.invokestatic 134, 3) := by decide +kernel
theorem dX8_carries_33 : decode cX8_carries 33 = .ok (.iadd, 1) := by decide +kernel
theorem dX8_carries_34 : decode cX8_carries 34 = .ok (.istore 5, 2) := by decide +kernel
theorem dX8_carries_36 : decode cX8_carries 36 = .ok (.aload_n 0, 1) := by decide +kernel
theorem dX8_carries_37 : decode cX8_carries 37 = .ok (.bipush 67, 2) := by decide +kernel
theorem dX8_carries_39 : decode cX8_carries 39 = .ok (.iload_n 1, 1) := by decide +kernel
theorem dX8_carries_40 : decode cX8_carries 40 = .ok (.iadd, 1) := by decide +kernel
theorem dX8_carries_41 : decode cX8_carries 41 = .ok (.iload 5, 2) := by decide +kernel
theorem dX8_carries_43 : decode cX8_carries 43 = .ok (.bipush 9, 2) := by decide +kernel
theorem dX8_carries_45 : decode cX8_carries 45 = .ok (.if_icmp .le 8, 3) := by decide +kernel
theorem dX8_carries_48 : decode cX8_carries 48 = .ok (.bipush 9, 2) := by decide +kernel
theorem dX8_carries_50 : decode cX8_carries 50 = .ok (.goto 5, 3) := by decide +kernel
theorem dX8_carries_53 : decode cX8_carries 53 = .ok (.iload 5, 2) := by decide +kernel
theorem dX8_carries_55 : decode cX8_carries 55 = .ok (.iastore, 1) := by decide +kernel
theorem dX8_carries_56 : decode cX8_carries 56 = .ok (.goto 10, 3) := by decide +kernel
theorem dX8_carries_59 : decode cX8_carries 59 = .ok (.aload_n 0, 1) := by decide +kernel
theorem dX8_carries_60 : decode cX8_carries 60 = .ok (.bipush 75, 2) := by decide +kernel
theorem dX8_carries_62 : decode cX8_carries 62 = .ok (.iload_n 1, 1) := by decide +kernel
theorem dX8_carries_63 : decode cX8_carries 63 = .ok (.iadd, 1) := by decide +kernel
theorem dX8_carries_64 : decode cX8_carries 64 = .ok (.iload_n 2, 1) := by decide +kernel
theorem dX8_carries_65 : decode cX8_carries 65 = .ok (.iastore, 1) := by decide +kernel
theorem dX8_carries_66 : decode cX8_carries 66 = .ok (.iload_n 3, 1) := by decide +kernel
theorem dX8_carries_67 : decode cX8_carries 67 = .ok (.iconst 2, 1) := by decide +kernel
theorem dX8_carries_68 : decode cX8_carries 68 = .ok (.if_icmp .ne 19, 3) := by decide +kernel
theorem dX8_carries_71 : decode cX8_carries 71 = .ok (.aload_n 0, 1) := by decide +kernel
theorem dX8_carries_72 : decode cX8_carries 72 = .ok (.bipush 45, 2) := by decide +kernel
theorem dX8_carries_74 : decode cX8_carries 74 = .ok (.iload 4, 2) := by decide +kernel
theorem dX8_carries_76 : decode cX8_carries 76 = .ok (.iadd, 1) := by decide +kernel
theorem dX8_carries_77 : decode cX8_carries 77 = .ok (.iload_n 2, 1) := by decide +kernel
theorem dX8_carries_78 : decode cX8_carries 78 = .ok (.iastore, 1) := by decide +kernel
theorem dX8_carries_79 : decode cX8_carries 79 = .ok (.aload_n 0, 1) := by decide +kernel
theorem dX8_carries_80 : decode cX8_carries 80 = .ok (.bipush 33, 2) := by decide +kernel
theorem dX8_carries_82 : decode cX8_carries 82 = .ok (.iload_n 2, 1) := by decide +kernel
theorem dX8_carries_83 : decode cX8_carries 83 = .ok (.iadd, 1) := by decide +kernel
theorem dX8_carries_84 : decode cX8_carries 84 = .ok (.bipush (-4), 2) := by decide +kernel
theorem dX8_carries_86 : decode cX8_carries 86 = .ok (.iastore, 1) := by decide +kernel
theorem dX8_carries_87 : decode cX8_carries 87 = .ok (.aload_n 0, 1) := by decide +kernel
theorem dX8_carries_88 : decode cX8_carries 88 = .ok (.bipush 27, 2) := by decide +kernel
theorem dX8_carries_90 : decode cX8_carries 90 = .ok (.iload_n 2, 1) := by decide +kernel
theorem dX8_carries_91 : decode cX8_carries 91 = .ok (.iadd, 1) := by decide +kernel
theorem dX8_carries_92 : decode cX8_carries 92 = .ok (.aload_n 0, 1) := by decide +kernel
theorem dX8_carries_93 : decode cX8_carries 93 = .ok (.bipush 21, 2) := by decide +kernel
theorem dX8_carries_95 : decode cX8_carries 95 = .ok (.iload 4, 2) := by decide +kernel
theorem dX8_carries_97 : decode cX8_carries 97 = .ok (.iadd, 1) := by decide +kernel
theorem dX8_carries_98 : decode cX8_carries 98 = .ok (.iaload, 1) := by decide +kernel
theorem dX8_carries_99 : decode cX8_carries 99 = .ok (.iastore, 1) := by decide +kernel
theorem dX8_carries_100 : decode cX8_carries 100 = .ok (.aload_n 0, 1) := by decide +kernel
theorem dX8_carries_101 : decode cX8_carries 101 = .ok (.bipush 39, 2) := by decide +kernel
theorem dX8_carries_103 : decode cX8_carries 103 = .ok (.iload_n 2, 1) := by decide +kernel
theorem dX8_carries_104 : decode cX8_carries 104 = .ok (.iadd, 1) := by decide +kernel
theorem dX8_carries_105 : decode cX8_carries 105 = .ok (.dup2, 1) := by decide +kernel
theorem dX8_carries_106 : decode cX8_carries 106 = .ok (.iaload, 1) := by decide +kernel
theorem dX8_carries_107 : decode cX8_carries 107 = .ok (.iconst 1, 1) := by decide +kernel
theorem dX8_carries_108 : decode cX8_carries 108 = .ok (.iadd, 1) := by decide +kernel
theorem dX8_carries_109 : decode cX8_carries 109 = .ok (.iastore, 1) := by decide +kernel
theorem dX8_carries_110 : decode cX8_carries 110 = .ok (.aload_n 0, 1) := by decide +kernel
theorem dX8_carries_111 : decode cX8_carries 111 = .ok (.iconst 0, 1) := by decide +kernel
theorem dX8_carries_112 : decode cX8_carries 112 = .ok (.dup2, 1) := by decide +kernel
theorem dX8_carries_113 : decode cX8_carries 113 = .ok (.iaload, 1) := by decide +kernel
theorem dX8_carries_114 : decode cX8_carries 114 = .ok (.iconst 1, 1) := by decide +kernel
theorem dX8_carries_115 : decode cX8_carries 115 = .ok (.iadd, 1) := by decide +kernel
theorem dX8_carries_116 : decode cX8_carries 116 = .ok (.iastore, 1) := by decide +kernel
theorem dX8_carries_117 : decode cX8_carries 117 = .ok (.iload_n 3, 1) := by decide +kernel
theorem dX8_carries_118 : decode cX8_carries 118 = .ok (.ireturn, 1) := by decide +kernel
theorem dX8_note_0 : decode cX8_note 0 = .ok (.aload_n 0, 1) := by decide +kernel
theorem dX8_note_1 : decode cX8_note 1 = .ok (.getfield 102, 3) := by decide +kernel
theorem dX8_note_4 : decode cX8_note 4 = .ok (.bipush 24, 2) := by decide +kernel
theorem dX8_note_6 : decode cX8_note 6 = .ok (.if_icmp .ne 30, 3) := by decide +kernel
theorem dX8_note_9 : decode cX8_note 9 = .ok (.aload_n 0, 1) := by decide +kernel
theorem dX8_note_10 : decode cX8_note 10 = .ok (.getfield 39, 3) := by decide +kernel
theorem dX8_note_13 : decode cX8_note 13 = .ok (.bipush 83, 2) := by decide +kernel
theorem dX8_note_15 : decode cX8_note 15 = .ok (.aload_n 0, 1) := by decide +kernel
theorem dX8_note_16 : decode cX8_note 16 = .ok (.getfield 39, 3) := by decide +kernel
theorem dX8_note_19 : decode cX8_note 19 = .ok (.iconst 0, 1) := by decide +kernel
theorem dX8_note_20 : decode cX8_note 20 = .ok (.sipush 1909, 3) := by decide +kernel
theorem dX8_note_23 : decode cX8_note 23 = .ok (.invokestatic 98, 3) := by decide +kernel
theorem dX8_note_26 : decode cX8_note 26 = .ok (.aload_n 0, 1) := by decide +kernel
theorem dX8_note_27 : decode cX8_note 27 = .ok (.dup, 1) := by decide +kernel
theorem dX8_note_28 : decode cX8_note 28 = .ok (.getfield 102, 3) := by decide +kernel
theorem dX8_note_31 : decode cX8_note 31 = .ok (.iconst 1, 1) := by decide +kernel
theorem dX8_note_32 : decode cX8_note 32 = .ok (.isub, 1) := by decide +kernel
theorem dX8_note_33 : decode cX8_note 33 = .ok (.putfield 102, 3) := by decide +kernel
theorem dX8_note_36 : decode cX8_note 36 = .ok (.aload_n 0, 1) := by decide +kernel
theorem dX8_note_37 : decode cX8_note 37 = .ok (.getfield 23, 3) := by decide +kernel
theorem dX8_note_40 : decode cX8_note 40 = .ok (.iconst 0, 1) := by decide +kernel
theorem dX8_note_41 : decode cX8_note 41 = .ok (.aload_n 0, 1) := by decide +kernel
theorem dX8_note_42 : decode cX8_note 42 = .ok (.getfield 39, 3) := by decide +kernel
theorem dX8_note_45 : decode cX8_note 45 = .ok (.bipush 83, 2) := by decide +kernel
theorem dX8_note_47 : decode cX8_note 47 = .ok (.aload_n 0, 1) := by decide +kernel
theorem dX8_note_48 : decode cX8_note 48 = .ok (.getfield 102, 3) := by decide +kernel
theorem dX8_note_51 : decode cX8_note 51 = .ok (.imul, 1) := by decide +kernel
theorem dX8_note_52 : decode cX8_note 52 = .ok (.bipush 83, 2) := by decide +kernel
theorem dX8_note_54 : decode cX8_note 54 = .ok (.invokestatic 98, 3) := by decide +kernel
theorem dX8_note_57 : decode cX8_note 57 = .ok (.aload_n 0, 1) := by decide +kernel
theorem dX8_note_58 : decode cX8_note 58 = .ok (.dup, 1) := by decide +kernel
theorem dX8_note_59 : decode cX8_note 59 = .ok (.getfield 102, 3) := by decide +kernel
theorem dX8_note_62 : decode cX8_note 62 = .ok (.iconst 1, 1) := by decide +kernel
theorem dX8_note_63 : decode cX8_note 63 = .ok (.iadd, 1) := by decide +kernel
theorem dX8_note_64 : decode cX8_note 64 = .ok (.putfield 102, 3) := by decide +kernel
theorem dX8_note_67 : decode cX8_note 67 = .ok (.return_, 1) := by decide +kernel
theorem dX8_whyNot_0 : decode cX8_whyNot 0 = .ok (.aload_n 0, 1) := by decide +kernel
theorem dX8_whyNot_1 : decode cX8_whyNot 1 = .ok (.iload_n 1, 1) := by decide +kernel
theorem dX8_whyNot_2 : decode cX8_whyNot 2 = .ok (.invokevirtual 108, 3) := by decide +kernel
theorem dX8_whyNot_5 : decode cX8_whyNot 5 = .ok (.ifCond .eq 11, 3) := by decide +kernel
theorem dX8_whyNot_8 : decode cX8_whyNot 8 = .ok (.aload_n 0, 1) := by decide +kernel
theorem dX8_whyNot_9 : decode cX8_whyNot 9 = .ok (.iload_n 2, 1) := by decide +kernel
theorem dX8_whyNot_10 : decode cX8_whyNot 10 = .ok (.invokevirtual 105, 3) := by decide +kernel
theorem dX8_whyNot_13 : decode cX8_whyNot 13 = .ok (.ifCond .ne 7, 3) := by decide +kernel
theorem dX8_whyNot_16 : decode cX8_whyNot 16 = .ok (.iconst (-1), 1) := by decide +kernel
theorem dX8_whyNot_17 : decode cX8_whyNot 17 = .ok (.goto 21, 3) := by decide +kernel
theorem dX8_whyNot_20 : decode cX8_whyNot 20 = .ok (.aload_n 0, 1) := by decide +kernel
theorem dX8_whyNot_21 : decode cX8_whyNot 21 = .ok (.getfield 23, 3) := by decide +kernel
theorem dX8_whyNot_24 : decode cX8_whyNot 24 = .ok (.iload_n 1, 1) := by decide +kernel
theorem dX8_whyNot_25 : decode cX8_whyNot 25 = .ok (.iload_n 2, 1) := by decide +kernel
theorem dX8_whyNot_26 : decode cX8_whyNot 26 = .ok (.invokestatic 137, 3) := by decide +kernel
theorem dX8_whyNot_29 : decode cX8_whyNot 29 = .ok (.ifCond .eq 7, 3) := by decide +kernel
theorem dX8_whyNot_32 : decode cX8_whyNot 32 = .ok (.iconst 0, 1) := by decide +kernel
theorem dX8_whyNot_33 : decode cX8_whyNot 33 = .ok (.goto 5, 3) := by decide +kernel
theorem dX8_whyNot_36 : decode cX8_whyNot 36 = .ok (.bipush (-2), 2) := by decide +kernel
theorem dX8_whyNot_38 : decode cX8_whyNot 38 = .ok (.ireturn, 1) := by decide +kernel
theorem dX8_carry_0 : decode cX8_carry 0 = .ok (.aload_n 0, 1) := by decide +kernel
theorem dX8_carry_1 : decode cX8_carry 1 = .ok (.iload_n 1, 1) := by decide +kernel
theorem dX8_carry_2 : decode cX8_carry 2 = .ok (.iload_n 2, 1) := by decide +kernel
theorem dX8_carry_3 : decode cX8_carry 3 = .ok (.invokevirtual 141, 3) := by decide +kernel
theorem dX8_carry_6 : decode cX8_carry 6 = .ok (.istore_n 3, 1) := by decide +kernel
theorem dX8_carry_7 : decode cX8_carry 7 = .ok (.iload_n 3, 1) := by decide +kernel
theorem dX8_carry_8 : decode cX8_carry 8 = .ok (.ifCond .eq 5, 3) := by decide +kernel
theorem dX8_carry_11 : decode cX8_carry 11 = .ok (.iload_n 3, 1) := by decide +kernel
theorem dX8_carry_12 : decode cX8_carry 12 = .ok (.ireturn, 1) := by decide +kernel
theorem dX8_carry_13 : decode cX8_carry 13 = .ok (.aload_n 0, 1) := by decide +kernel
theorem dX8_carry_14 : decode cX8_carry 14 = .ok (.getfield 23, 3) := by decide +kernel
theorem dX8_carry_17 : decode cX8_carry 17 = .ok (.iconst 0, 1) := by decide +kernel
theorem dX8_carry_18 : decode cX8_carry 18 = .ok (.iaload, 1) := by decide +kernel
theorem dX8_carry_19 : decode cX8_carry 19 = .ok (.sipush 9999, 3) := by decide +kernel
theorem dX8_carry_22 : decode cX8_carry 22 = .ok (.if_icmp .ne 6, 3) := by decide +kernel
theorem dX8_carry_25 : decode cX8_carry 25 = .ok (.bipush (-3), 2) := by decide +kernel
theorem dX8_carry_27 : decode cX8_carry 27 = .ok (.ireturn, 1) := by decide +kernel
theorem dX8_carry_28 : decode cX8_carry 28 = .ok (.aload_n 0, 1) := by decide +kernel
theorem dX8_carry_29 : decode cX8_carry 29 = .ok (.invokevirtual 144, 3) := by decide +kernel
theorem dX8_carry_32 : decode cX8_carry 32 = .ok (.aload_n 0, 1) := by decide +kernel
theorem dX8_carry_33 : decode cX8_carry 33 = .ok (.getfield 23, 3) := by decide +kernel
theorem dX8_carry_36 : decode cX8_carry 36 = .ok (.iload_n 1, 1) := by decide +kernel
theorem dX8_carry_37 : decode cX8_carry 37 = .ok (.iload_n 2, 1) := by decide +kernel
theorem dX8_carry_38 : decode cX8_carry 38 = .ok (.invokestatic 147, 3) := by decide +kernel
theorem dX8_carry_41 : decode cX8_carry 41 = .ok (.ireturn, 1) := by decide +kernel
theorem dX8_lend_0 : decode cX8_lend 0 = .ok (.aload_n 0, 1) := by decide +kernel
theorem dX8_lend_1 : decode cX8_lend 1 = .ok (.iload_n 1, 1) := by decide +kernel
theorem dX8_lend_2 : decode cX8_lend 2 = .ok (.invokevirtual 105, 3) := by decide +kernel
theorem dX8_lend_5 : decode cX8_lend 5 = .ok (.ifCond .eq 16, 3) := by decide +kernel
theorem dX8_lend_8 : decode cX8_lend 8 = .ok (.aload_n 0, 1) := by decide +kernel
theorem dX8_lend_9 : decode cX8_lend 9 = .ok (.iload_n 2, 1) := by decide +kernel
theorem dX8_lend_10 : decode cX8_lend 10 = .ok (.invokevirtual 105, 3) := by decide +kernel
theorem dX8_lend_13 : decode cX8_lend 13 = .ok (.ifCond .eq 8, 3) := by decide +kernel
theorem dX8_lend_16 : decode cX8_lend 16 = .ok (.iload_n 1, 1) := by decide +kernel
theorem dX8_lend_17 : decode cX8_lend 17 = .ok (.iload_n 2, 1) := by decide +kernel
theorem dX8_lend_18 : decode cX8_lend 18 = .ok (.if_icmp .ne 5, 3) := by decide +kernel
theorem dX8_lend_21 : decode cX8_lend 21 = .ok (.iconst (-1), 1) := by decide +kernel
theorem dX8_lend_22 : decode cX8_lend 22 = .ok (.ireturn, 1) := by decide +kernel
theorem dX8_lend_23 : decode cX8_lend 23 = .ok (.aload_n 0, 1) := by decide +kernel
theorem dX8_lend_24 : decode cX8_lend 24 = .ok (.getfield 23, 3) := by decide +kernel
theorem dX8_lend_27 : decode cX8_lend 27 = .ok (.bipush 33, 2) := by decide +kernel
theorem dX8_lend_29 : decode cX8_lend 29 = .ok (.iload_n 1, 1) := by decide +kernel
theorem dX8_lend_30 : decode cX8_lend 30 = .ok (.iadd, 1) := by decide +kernel
theorem dX8_lend_31 : decode cX8_lend 31 = .ok (.iaload, 1) := by decide +kernel
theorem dX8_lend_32 : decode cX8_lend 32 = .ok (.istore_n 3, 1) := by decide +kernel
theorem dX8_lend_33 : decode cX8_lend 33 = .ok (.iload_n 3, 1) := by decide +kernel
theorem dX8_lend_34 : decode cX8_lend 34 = .ok (.iload_n 2, 1) := by decide +kernel
theorem dX8_lend_35 : decode cX8_lend 35 = .ok (.if_icmp .ne 6, 3) := by decide +kernel
theorem dX8_lend_38 : decode cX8_lend 38 = .ok (.bipush (-2), 2) := by decide +kernel
theorem dX8_lend_40 : decode cX8_lend 40 = .ok (.ireturn, 1) := by decide +kernel
theorem dX8_lend_41 : decode cX8_lend 41 = .ok (.aload_n 0, 1) := by decide +kernel
theorem dX8_lend_42 : decode cX8_lend 42 = .ok (.invokevirtual 144, 3) := by decide +kernel
theorem dX8_lend_45 : decode cX8_lend 45 = .ok (.aload_n 0, 1) := by decide +kernel
theorem dX8_lend_46 : decode cX8_lend 46 = .ok (.getfield 23, 3) := by decide +kernel
theorem dX8_lend_49 : decode cX8_lend 49 = .ok (.bipush 33, 2) := by decide +kernel
theorem dX8_lend_51 : decode cX8_lend 51 = .ok (.iload_n 1, 1) := by decide +kernel
theorem dX8_lend_52 : decode cX8_lend 52 = .ok (.iadd, 1) := by decide +kernel
theorem dX8_lend_53 : decode cX8_lend 53 = .ok (.iload_n 2, 1) := by decide +kernel
theorem dX8_lend_54 : decode cX8_lend 54 = .ok (.iastore, 1) := by decide +kernel
theorem dX8_lend_55 : decode cX8_lend 55 = .ok (.iload_n 3, 1) := by decide +kernel
theorem dX8_lend_56 : decode cX8_lend 56 = .ok (.ireturn, 1) := by decide +kernel
theorem dX8_sin_0 : decode cX8_sin 0 = .ok (.aload_n 0, 1) := by decide +kernel
theorem dX8_sin_1 : decode cX8_sin 1 = .ok (.iload_n 1, 1) := by decide +kernel
theorem dX8_sin_2 : decode cX8_sin 2 = .ok (.invokevirtual 105, 3) := by decide +kernel
theorem dX8_sin_5 : decode cX8_sin 5 = .ok (.ifCond .eq 26, 3) := by decide +kernel
theorem dX8_sin_8 : decode cX8_sin 8 = .ok (.aload_n 0, 1) := by decide +kernel
theorem dX8_sin_9 : decode cX8_sin 9 = .ok (.iload_n 2, 1) := by decide +kernel
theorem dX8_sin_10 : decode cX8_sin 10 = .ok (.invokevirtual 105, 3) := by decide +kernel
theorem dX8_sin_13 : decode cX8_sin 13 = .ok (.ifCond .eq 18, 3) := by decide +kernel
theorem dX8_sin_16 : decode cX8_sin 16 = .ok (.iload_n 1, 1) := by decide +kernel
theorem dX8_sin_17 : decode cX8_sin 17 = .ok (.iload_n 2, 1) := by decide +kernel
theorem dX8_sin_18 : decode cX8_sin 18 = .ok (.if_icmp .eq 13, 3) := by decide +kernel
theorem dX8_sin_21 : decode cX8_sin 21 = .ok (.iload_n 3, 1) := by decide +kernel
theorem dX8_sin_22 : decode cX8_sin 22 = .ok (.iconst 1, 1) := by decide +kernel
theorem dX8_sin_23 : decode cX8_sin 23 = .ok (.bipush 9, 2) := by decide +kernel
theorem dX8_sin_25 : decode cX8_sin 25 = .ok (.invokestatic 57, 3) := by decide +kernel
theorem dX8_sin_28 : decode cX8_sin 28 = .ok (.ifCond .ne 5, 3) := by decide +kernel
theorem dX8_sin_31 : decode cX8_sin 31 = .ok (.iconst (-1), 1) := by decide +kernel
theorem dX8_sin_32 : decode cX8_sin 32 = .ok (.ireturn, 1) := by decide +kernel
theorem dX8_sin_33 : decode cX8_sin 33 = .ok (.aload_n 0, 1) := by decide +kernel
theorem dX8_sin_34 : decode cX8_sin 34 = .ok (.getfield 23, 3) := by decide +kernel
theorem dX8_sin_37 : decode cX8_sin 37 = .ok (.iconst 2, 1) := by decide +kernel
theorem dX8_sin_38 : decode cX8_sin 38 = .ok (.iaload, 1) := by decide +kernel
theorem dX8_sin_39 : decode cX8_sin 39 = .ok (.bipush 8, 2) := by decide +kernel
theorem dX8_sin_41 : decode cX8_sin 41 = .ok (.if_icmp .ne 6, 3) := by decide +kernel
theorem dX8_sin_44 : decode cX8_sin 44 = .ok (.bipush (-3), 2) := by decide +kernel
theorem dX8_sin_46 : decode cX8_sin 46 = .ok (.ireturn, 1) := by decide +kernel
theorem dX8_sin_47 : decode cX8_sin 47 = .ok (.aload_n 0, 1) := by decide +kernel
theorem dX8_sin_48 : decode cX8_sin 48 = .ok (.invokevirtual 144, 3) := by decide +kernel
theorem dX8_sin_51 : decode cX8_sin 51 = .ok (.aload_n 0, 1) := by decide +kernel
theorem dX8_sin_52 : decode cX8_sin 52 = .ok (.getfield 23, 3) := by decide +kernel
theorem dX8_sin_55 : decode cX8_sin 55 = .ok (.iload_n 1, 1) := by decide +kernel
theorem dX8_sin_56 : decode cX8_sin 56 = .ok (.iload_n 2, 1) := by decide +kernel
theorem dX8_sin_57 : decode cX8_sin 57 = .ok (.iload_n 3, 1) := by decide +kernel
theorem dX8_sin_58 : decode cX8_sin 58 = .ok (.invokestatic 84, 3) := by decide +kernel
theorem dX8_sin_61 : decode cX8_sin 61 = .ok (.ireturn, 1) := by decide +kernel
theorem dX8_harden_0 : decode cX8_harden 0 = .ok (.aload_n 0, 1) := by decide +kernel
theorem dX8_harden_1 : decode cX8_harden 1 = .ok (.iload_n 1, 1) := by decide +kernel
theorem dX8_harden_2 : decode cX8_harden 2 = .ok (.invokevirtual 105, 3) := by decide +kernel
theorem dX8_harden_5 : decode cX8_harden 5 = .ok (.ifCond .eq 13, 3) := by decide +kernel
theorem dX8_harden_8 : decode cX8_harden 8 = .ok (.iload_n 2, 1) := by decide +kernel
theorem dX8_harden_9 : decode cX8_harden 9 = .ok (.iconst 0, 1) := by decide +kernel
theorem dX8_harden_10 : decode cX8_harden 10 = .ok (.bipush 9, 2) := by decide +kernel
theorem dX8_harden_12 : decode cX8_harden 12 = .ok (.invokestatic 57, 3) := by decide +kernel
theorem dX8_harden_15 : decode cX8_harden 15 = .ok (.ifCond .ne 5, 3) := by decide +kernel
theorem dX8_harden_18 : decode cX8_harden 18 = .ok (.iconst (-1), 1) := by decide +kernel
theorem dX8_harden_19 : decode cX8_harden 19 = .ok (.ireturn, 1) := by decide +kernel
theorem dX8_harden_20 : decode cX8_harden 20 = .ok (.aload_n 0, 1) := by decide +kernel
theorem dX8_harden_21 : decode cX8_harden 21 = .ok (.getfield 23, 3) := by decide +kernel
theorem dX8_harden_24 : decode cX8_harden 24 = .ok (.bipush 15, 2) := by decide +kernel
theorem dX8_harden_26 : decode cX8_harden 26 = .ok (.iload_n 1, 1) := by decide +kernel
theorem dX8_harden_27 : decode cX8_harden 27 = .ok (.iadd, 1) := by decide +kernel
theorem dX8_harden_28 : decode cX8_harden 28 = .ok (.iaload, 1) := by decide +kernel
theorem dX8_harden_29 : decode cX8_harden 29 = .ok (.istore_n 3, 1) := by decide +kernel
theorem dX8_harden_30 : decode cX8_harden 30 = .ok (.iload_n 3, 1) := by decide +kernel
theorem dX8_harden_31 : decode cX8_harden 31 = .ok (.iload_n 2, 1) := by decide +kernel
theorem dX8_harden_32 : decode cX8_harden 32 = .ok (.if_icmp .ne 6, 3) := by decide +kernel
theorem dX8_harden_35 : decode cX8_harden 35 = .ok (.bipush (-2), 2) := by decide +kernel
theorem dX8_harden_37 : decode cX8_harden 37 = .ok (.ireturn, 1) := by decide +kernel
theorem dX8_harden_38 : decode cX8_harden 38 = .ok (.aload_n 0, 1) := by decide +kernel
theorem dX8_harden_39 : decode cX8_harden 39 = .ok (.invokevirtual 144, 3) := by decide +kernel
theorem dX8_harden_42 : decode cX8_harden 42 = .ok (.aload_n 0, 1) := by decide +kernel
theorem dX8_harden_43 : decode cX8_harden 43 = .ok (.getfield 23, 3) := by decide +kernel
theorem dX8_harden_46 : decode cX8_harden 46 = .ok (.bipush 15, 2) := by decide +kernel
theorem dX8_harden_48 : decode cX8_harden 48 = .ok (.iload_n 1, 1) := by decide +kernel
theorem dX8_harden_49 : decode cX8_harden 49 = .ok (.iadd, 1) := by decide +kernel
theorem dX8_harden_50 : decode cX8_harden 50 = .ok (.iload_n 2, 1) := by decide +kernel
theorem dX8_harden_51 : decode cX8_harden 51 = .ok (.iastore, 1) := by decide +kernel
theorem dX8_harden_52 : decode cX8_harden 52 = .ok (.iload_n 3, 1) := by decide +kernel
theorem dX8_harden_53 : decode cX8_harden 53 = .ok (.ireturn, 1) := by decide +kernel
theorem dX8_pass_0 : decode cX8_pass 0 = .ok (.aload_n 0, 1) := by decide +kernel
theorem dX8_pass_1 : decode cX8_pass 1 = .ok (.invokevirtual 150, 3) := by decide +kernel
theorem dX8_pass_4 : decode cX8_pass 4 = .ok (.ifCond .ne 6, 3) := by decide +kernel
theorem dX8_pass_7 : decode cX8_pass 7 = .ok (.bipush (-2), 2) := by decide +kernel
theorem dX8_pass_9 : decode cX8_pass 9 = .ok (.ireturn, 1) := by decide +kernel
theorem dX8_pass_10 : decode cX8_pass 10 = .ok (.aload_n 0, 1) := by decide +kernel
theorem dX8_pass_11 : decode cX8_pass 11 = .ok (.getfield 23, 3) := by decide +kernel
theorem dX8_pass_14 : decode cX8_pass 14 = .ok (.iconst 0, 1) := by decide +kernel
theorem dX8_pass_15 : decode cX8_pass 15 = .ok (.iaload, 1) := by decide +kernel
theorem dX8_pass_16 : decode cX8_pass 16 = .ok (.sipush 9999, 3) := by decide +kernel
theorem dX8_pass_19 : decode cX8_pass 19 = .ok (.if_icmp .ne 6, 3) := by decide +kernel
theorem dX8_pass_22 : decode cX8_pass 22 = .ok (.bipush (-3), 2) := by decide +kernel
theorem dX8_pass_24 : decode cX8_pass 24 = .ok (.ireturn, 1) := by decide +kernel
theorem dX8_pass_25 : decode cX8_pass 25 = .ok (.aload_n 0, 1) := by decide +kernel
theorem dX8_pass_26 : decode cX8_pass 26 = .ok (.invokevirtual 144, 3) := by decide +kernel
theorem dX8_pass_29 : decode cX8_pass 29 = .ok (.aload_n 0, 1) := by decide +kernel
theorem dX8_pass_30 : decode cX8_pass 30 = .ok (.getfield 23, 3) := by decide +kernel
theorem dX8_pass_33 : decode cX8_pass 33 = .ok (.iconst 0, 1) := by decide +kernel
theorem dX8_pass_34 : decode cX8_pass 34 = .ok (.dup2, 1) := by decide +kernel
theorem dX8_pass_35 : decode cX8_pass 35 = .ok (.iaload, 1) := by decide +kernel
theorem dX8_pass_36 : decode cX8_pass 36 = .ok (.iconst 1, 1) := by decide +kernel
theorem dX8_pass_37 : decode cX8_pass 37 = .ok (.iadd, 1) := by decide +kernel
theorem dX8_pass_38 : decode cX8_pass 38 = .ok (.iastore, 1) := by decide +kernel
theorem dX8_pass_39 : decode cX8_pass 39 = .ok (.aload_n 0, 1) := by decide +kernel
theorem dX8_pass_40 : decode cX8_pass 40 = .ok (.getfield 23, 3) := by decide +kernel
theorem dX8_pass_43 : decode cX8_pass 43 = .ok (.iconst 0, 1) := by decide +kernel
theorem dX8_pass_44 : decode cX8_pass 44 = .ok (.iaload, 1) := by decide +kernel
theorem dX8_pass_45 : decode cX8_pass 45 = .ok (.ireturn, 1) := by decide +kernel
theorem dX8_undo_0 : decode cX8_undo 0 = .ok (.aload_n 0, 1) := by decide +kernel
theorem dX8_undo_1 : decode cX8_undo 1 = .ok (.getfield 102, 3) := by decide +kernel
theorem dX8_undo_4 : decode cX8_undo 4 = .ok (.ifCond .ne 6, 3) := by decide +kernel
theorem dX8_undo_7 : decode cX8_undo 7 = .ok (.bipush (-4), 2) := by decide +kernel
theorem dX8_undo_9 : decode cX8_undo 9 = .ok (.ireturn, 1) := by decide +kernel
theorem dX8_undo_10 : decode cX8_undo 10 = .ok (.aload_n 0, 1) := by decide +kernel
theorem dX8_undo_11 : decode cX8_undo 11 = .ok (.dup, 1) := by decide +kernel
theorem dX8_undo_12 : decode cX8_undo 12 = .ok (.getfield 102, 3) := by decide +kernel
theorem dX8_undo_15 : decode cX8_undo 15 = .ok (.iconst 1, 1) := by decide +kernel
theorem dX8_undo_16 : decode cX8_undo 16 = .ok (.isub, 1) := by decide +kernel
theorem dX8_undo_17 : decode cX8_undo 17 = .ok (.putfield 102, 3) := by decide +kernel
theorem dX8_undo_20 : decode cX8_undo 20 = .ok (.aload_n 0, 1) := by decide +kernel
theorem dX8_undo_21 : decode cX8_undo 21 = .ok (.getfield 39, 3) := by decide +kernel
theorem dX8_undo_24 : decode cX8_undo 24 = .ok (.bipush 83, 2) := by decide +kernel
theorem dX8_undo_26 : decode cX8_undo 26 = .ok (.aload_n 0, 1) := by decide +kernel
theorem dX8_undo_27 : decode cX8_undo 27 = .ok (.getfield 102, 3) := by decide +kernel
theorem dX8_undo_30 : decode cX8_undo 30 = .ok (.imul, 1) := by decide +kernel
theorem dX8_undo_31 : decode cX8_undo 31 = .ok (.aload_n 0, 1) := by decide +kernel
theorem dX8_undo_32 : decode cX8_undo 32 = .ok (.getfield 23, 3) := by decide +kernel
theorem dX8_undo_35 : decode cX8_undo 35 = .ok (.iconst 0, 1) := by decide +kernel
theorem dX8_undo_36 : decode cX8_undo 36 = .ok (.bipush 83, 2) := by decide +kernel
theorem dX8_undo_38 : decode cX8_undo 38 = .ok (.invokestatic 98, 3) := by decide +kernel
theorem dX8_undo_41 : decode cX8_undo 41 = .ok (.aload_n 0, 1) := by decide +kernel
theorem dX8_undo_42 : decode cX8_undo 42 = .ok (.getfield 102, 3) := by decide +kernel
theorem dX8_undo_45 : decode cX8_undo 45 = .ok (.ireturn, 1) := by decide +kernel
theorem dX8_image_0 : decode cX8_image 0 = .ok (.iload_n 1, 1) := by decide +kernel
theorem dX8_image_1 : decode cX8_image 1 = .ok (.iconst 0, 1) := by decide +kernel
theorem dX8_image_2 : decode cX8_image 2 = .ok (.iconst 1, 1) := by decide +kernel
theorem dX8_image_3 : decode cX8_image 3 = .ok (.invokestatic 57, 3) := by decide +kernel
theorem dX8_image_6 : decode cX8_image 6 = .ok (.ifCond .ne 5, 3) := by decide +kernel
theorem dX8_image_9 : decode cX8_image 9 = .ok (.iconst (-1), 1) := by decide +kernel
theorem dX8_image_10 : decode cX8_image 10 = .ok (.ireturn, 1) := by decide +kernel
theorem dX8_image_11 : decode cX8_image 11 = .ok (.aload_n 0, 1) := by decide +kernel
theorem dX8_image_12 : decode cX8_image 12 = .ok (.invokevirtual 150, 3) := by decide +kernel
theorem dX8_image_15 : decode cX8_image 15 = .ok (.ifCond .ne 6, 3) := by decide +kernel
theorem dX8_image_18 : decode cX8_image 18 = .ok (.bipush (-2), 2) := by decide +kernel
theorem dX8_image_20 : decode cX8_image 20 = .ok (.ireturn, 1) := by decide +kernel
theorem dX8_image_21 : decode cX8_image 21 = .ok (.aload_n 0, 1) := by decide +kernel
theorem dX8_image_22 : decode cX8_image 22 = .ok (.getfield 23, 3) := by decide +kernel
theorem dX8_image_25 : decode cX8_image 25 = .ok (.iconst 0, 1) := by decide +kernel
theorem dX8_image_26 : decode cX8_image 26 = .ok (.aload_n 0, 1) := by decide +kernel
theorem dX8_image_27 : decode cX8_image 27 = .ok (.getfield 32, 3) := by decide +kernel
theorem dX8_image_30 : decode cX8_image 30 = .ok (.bipush 83, 2) := by decide +kernel
theorem dX8_image_32 : decode cX8_image 32 = .ok (.iload_n 1, 1) := by decide +kernel
theorem dX8_image_33 : decode cX8_image 33 = .ok (.imul, 1) := by decide +kernel
theorem dX8_image_34 : decode cX8_image 34 = .ok (.bipush 83, 2) := by decide +kernel
theorem dX8_image_36 : decode cX8_image 36 = .ok (.invokestatic 98, 3) := by decide +kernel
theorem dX8_image_39 : decode cX8_image 39 = .ok (.aload_n 0, 1) := by decide +kernel
theorem dX8_image_40 : decode cX8_image 40 = .ok (.getfield 35, 3) := by decide +kernel
theorem dX8_image_43 : decode cX8_image 43 = .ok (.iload_n 1, 1) := by decide +kernel
theorem dX8_image_44 : decode cX8_image 44 = .ok (.iconst 1, 1) := by decide +kernel
theorem dX8_image_45 : decode cX8_image 45 = .ok (.bastore, 1) := by decide +kernel
theorem dX8_image_46 : decode cX8_image 46 = .ok (.aload_n 0, 1) := by decide +kernel
theorem dX8_image_47 : decode cX8_image 47 = .ok (.getfield 23, 3) := by decide +kernel
theorem dX8_image_50 : decode cX8_image 50 = .ok (.iconst 0, 1) := by decide +kernel
theorem dX8_image_51 : decode cX8_image 51 = .ok (.iaload, 1) := by decide +kernel
theorem dX8_image_52 : decode cX8_image 52 = .ok (.ireturn, 1) := by decide +kernel
theorem dX8_restore_0 : decode cX8_restore 0 = .ok (.iload_n 1, 1) := by decide +kernel
theorem dX8_restore_1 : decode cX8_restore 1 = .ok (.iconst 0, 1) := by decide +kernel
theorem dX8_restore_2 : decode cX8_restore 2 = .ok (.iconst 1, 1) := by decide +kernel
theorem dX8_restore_3 : decode cX8_restore 3 = .ok (.invokestatic 57, 3) := by decide +kernel
theorem dX8_restore_6 : decode cX8_restore 6 = .ok (.ifCond .ne 5, 3) := by decide +kernel
theorem dX8_restore_9 : decode cX8_restore 9 = .ok (.iconst (-1), 1) := by decide +kernel
theorem dX8_restore_10 : decode cX8_restore 10 = .ok (.ireturn, 1) := by decide +kernel
theorem dX8_restore_11 : decode cX8_restore 11 = .ok (.aload_n 0, 1) := by decide +kernel
theorem dX8_restore_12 : decode cX8_restore 12 = .ok (.getfield 35, 3) := by decide +kernel
theorem dX8_restore_15 : decode cX8_restore 15 = .ok (.iload_n 1, 1) := by decide +kernel
theorem dX8_restore_16 : decode cX8_restore 16 = .ok (.baload, 1) := by decide +kernel
theorem dX8_restore_17 : decode cX8_restore 17 = .ok (.ifCond .ne 6, 3) := by decide +kernel
theorem dX8_restore_20 : decode cX8_restore 20 = .ok (.bipush (-2), 2) := by decide +kernel
theorem dX8_restore_22 : decode cX8_restore 22 = .ok (.ireturn, 1) := by decide +kernel
theorem dX8_restore_23 : decode cX8_restore 23 = .ok (.aload_n 0, 1) := by decide +kernel
theorem dX8_restore_24 : decode cX8_restore 24 = .ok (.getfield 32, 3) := by decide +kernel
theorem dX8_restore_27 : decode cX8_restore 27 = .ok (.bipush 83, 2) := by decide +kernel
theorem dX8_restore_29 : decode cX8_restore 29 = .ok (.iload_n 1, 1) := by decide +kernel
theorem dX8_restore_30 : decode cX8_restore 30 = .ok (.imul, 1) := by decide +kernel
theorem dX8_restore_31 : decode cX8_restore 31 = .ok (.aload_n 0, 1) := by decide +kernel
theorem dX8_restore_32 : decode cX8_restore 32 = .ok (.getfield 23, 3) := by decide +kernel
theorem dX8_restore_35 : decode cX8_restore 35 = .ok (.iconst 0, 1) := by decide +kernel
theorem dX8_restore_36 : decode cX8_restore 36 = .ok (.bipush 83, 2) := by decide +kernel
theorem dX8_restore_38 : decode cX8_restore 38 = .ok (.invokestatic 98, 3) := by decide +kernel
theorem dX8_restore_41 : decode cX8_restore 41 = .ok (.aload_n 0, 1) := by decide +kernel
theorem dX8_restore_42 : decode cX8_restore 42 = .ok (.iconst 0, 1) := by decide +kernel
theorem dX8_restore_43 : decode cX8_restore 43 = .ok (.putfield 102, 3) := by decide +kernel
theorem dX8_restore_46 : decode cX8_restore 46 = .ok (.aload_n 0, 1) := by decide +kernel
theorem dX8_restore_47 : decode cX8_restore 47 = .ok (.getfield 23, 3) := by decide +kernel
theorem dX8_restore_50 : decode cX8_restore 50 = .ok (.iconst 0, 1) := by decide +kernel
theorem dX8_restore_51 : decode cX8_restore 51 = .ok (.iaload, 1) := by decide +kernel
theorem dX8_restore_52 : decode cX8_restore 52 = .ok (.ireturn, 1) := by decide +kernel
theorem dX8_begin_0 : decode cX8_begin 0 = .ok (.aload_n 0, 1) := by decide +kernel
theorem dX8_begin_1 : decode cX8_begin 1 = .ok (.getfield 23, 3) := by decide +kernel
theorem dX8_begin_4 : decode cX8_begin 4 = .ok (.iconst 0, 1) := by decide +kernel
theorem dX8_begin_5 : decode cX8_begin 5 = .ok (.aload_n 0, 1) := by decide +kernel
theorem dX8_begin_6 : decode cX8_begin 6 = .ok (.getfield 29, 3) := by decide +kernel
theorem dX8_begin_9 : decode cX8_begin 9 = .ok (.iconst 0, 1) := by decide +kernel
theorem dX8_begin_10 : decode cX8_begin 10 = .ok (.bipush 83, 2) := by decide +kernel
theorem dX8_begin_12 : decode cX8_begin 12 = .ok (.invokestatic 98, 3) := by decide +kernel
theorem dX8_begin_15 : decode cX8_begin 15 = .ok (.return_, 1) := by decide +kernel
theorem dX8_said_0 : decode cX8_said 0 = .ok (.aload_n 0, 1) := by decide +kernel
theorem dX8_said_1 : decode cX8_said 1 = .ok (.iload_n 1, 1) := by decide +kernel
theorem dX8_said_2 : decode cX8_said 2 = .ok (.invokevirtual 108, 3) := by decide +kernel
theorem dX8_said_5 : decode cX8_said 5 = .ok (.ifCond .eq 23, 3) := by decide +kernel
theorem dX8_said_8 : decode cX8_said 8 = .ok (.aload_n 0, 1) := by decide +kernel
theorem dX8_said_9 : decode cX8_said 9 = .ok (.iload_n 2, 1) := by decide +kernel
theorem dX8_said_10 : decode cX8_said 10 = .ok (.invokevirtual 105, 3) := by decide +kernel
theorem dX8_said_13 : decode cX8_said 13 = .ok (.ifCond .eq 15, 3) := by decide +kernel
theorem dX8_said_16 : decode cX8_said 16 = .ok (.aload_n 0, 1) := by decide +kernel
theorem dX8_said_17 : decode cX8_said 17 = .ok (.getfield 23, 3) := by decide +kernel
theorem dX8_said_20 : decode cX8_said 20 = .ok (.iload_n 1, 1) := by decide +kernel
theorem dX8_said_21 : decode cX8_said 21 = .ok (.iload_n 2, 1) := by decide +kernel
theorem dX8_said_22 : decode cX8_said 22 = .ok (.invokestatic 127, 3) := by decide +kernel
theorem dX8_said_25 : decode cX8_said 25 = .ok (.goto 4, 3) := by decide +kernel
theorem dX8_said_28 : decode cX8_said 28 = .ok (.iconst (-1), 1) := by decide +kernel
theorem dX8_said_29 : decode cX8_said 29 = .ok (.ireturn, 1) := by decide +kernel
theorem dX8_comes_0 : decode cX8_comes 0 = .ok (.aload_n 0, 1) := by decide +kernel
theorem dX8_comes_1 : decode cX8_comes 1 = .ok (.iload_n 1, 1) := by decide +kernel
theorem dX8_comes_2 : decode cX8_comes 2 = .ok (.iload_n 2, 1) := by decide +kernel
theorem dX8_comes_3 : decode cX8_comes 3 = .ok (.invokevirtual 141, 3) := by decide +kernel
theorem dX8_comes_6 : decode cX8_comes 6 = .ok (.istore_n 3, 1) := by decide +kernel
theorem dX8_comes_7 : decode cX8_comes 7 = .ok (.iload_n 3, 1) := by decide +kernel
theorem dX8_comes_8 : decode cX8_comes 8 = .ok (.ifCond .eq 7, 3) := by decide +kernel
theorem dX8_comes_11 : decode cX8_comes 11 = .ok (.iload_n 3, 1) := by decide +kernel
theorem dX8_comes_12 : decode cX8_comes 12 = .ok (.goto 12, 3) := by decide +kernel
theorem dX8_comes_15 : decode cX8_comes 15 = .ok (.aload_n 0, 1) := by decide +kernel
theorem dX8_comes_16 : decode cX8_comes 16 = .ok (.getfield 23, 3) := by decide +kernel
theorem dX8_comes_19 : decode cX8_comes 19 = .ok (.iload_n 1, 1) := by decide +kernel
theorem dX8_comes_20 : decode cX8_comes 20 = .ok (.iload_n 2, 1) := by decide +kernel
theorem dX8_comes_21 : decode cX8_comes 21 = .ok (.invokestatic 131, 3) := by decide +kernel
theorem dX8_comes_24 : decode cX8_comes 24 = .ok (.ireturn, 1) := by decide +kernel
theorem dX8_least_0 : decode cX8_least 0 = .ok (.aload_n 0, 1) := by decide +kernel
theorem dX8_least_1 : decode cX8_least 1 = .ok (.iload_n 1, 1) := by decide +kernel
theorem dX8_least_2 : decode cX8_least 2 = .ok (.iload_n 2, 1) := by decide +kernel
theorem dX8_least_3 : decode cX8_least 3 = .ok (.invokevirtual 141, 3) := by decide +kernel
theorem dX8_least_6 : decode cX8_least 6 = .ok (.istore_n 3, 1) := by decide +kernel
theorem dX8_least_7 : decode cX8_least 7 = .ok (.iload_n 3, 1) := by decide +kernel
theorem dX8_least_8 : decode cX8_least 8 = .ok (.ifCond .eq 5, 3) := by decide +kernel
theorem dX8_least_11 : decode cX8_least 11 = .ok (.iload_n 3, 1) := by decide +kernel
theorem dX8_least_12 : decode cX8_least 12 = .ok (.ireturn, 1) := by decide +kernel
theorem dX8_least_13 : decode cX8_least 13 = .ok (.aload_n 0, 1) := by decide +kernel
theorem dX8_least_14 : decode cX8_least 14 = .ok (.invokevirtual 153, 3) := by decide +kernel
theorem dX8_least_17 : decode cX8_least 17 = .ok (.iconst 0, 1) := by decide +kernel
theorem dX8_least_18 : decode cX8_least 18 = .ok (.istore 4, 2) := by decide +kernel
theorem dX8_least_20 : decode cX8_least 20 = .ok (.iload 4, 2) := by decide +kernel
theorem dX8_least_22 : decode cX8_least 22 = .ok (.bipush 9, 2) := by decide +kernel
theorem dX8_least_24 : decode cX8_least 24 = .ok (.if_icmp .gt 35, 3) := by decide +kernel
theorem dX8_least_27 : decode cX8_least 27 = .ok (.aload_n 0, 1) := by decide +kernel
theorem dX8_least_28 : decode cX8_least 28 = .ok (.getfield 29, 3) := by decide +kernel
theorem dX8_least_31 : decode cX8_least 31 = .ok (.bipush 9, 2) := by decide +kernel
theorem dX8_least_33 : decode cX8_least 33 = .ok (.iload_n 2, 1) := by decide +kernel
theorem dX8_least_34 : decode cX8_least 34 = .ok (.iadd, 1) := by decide +kernel
theorem dX8_least_35 : decode cX8_least 35 = .ok (.iload 4, 2) := by decide +kernel
theorem dX8_least_37 : decode cX8_least 37 = .ok (.iastore, 1) := by decide +kernel
theorem dX8_least_38 : decode cX8_least 38 = .ok (.aload_n 0, 1) := by decide +kernel
theorem dX8_least_39 : decode cX8_least 39 = .ok (.getfield 29, 3) := by decide +kernel
theorem dX8_least_42 : decode cX8_least 42 = .ok (.iload_n 1, 1) := by decide +kernel
theorem dX8_least_43 : decode cX8_least 43 = .ok (.iload_n 2, 1) := by decide +kernel
theorem dX8_least_44 : decode cX8_least 44 = .ok (.invokestatic 131, 3) := by decide +kernel
theorem dX8_least_47 : decode cX8_least 47 = .ok (.ifCond .le 6, 3) := by decide +kernel
theorem dX8_least_50 : decode cX8_least 50 = .ok (.iload 4, 2) := by decide +kernel
theorem dX8_least_52 : decode cX8_least 52 = .ok (.ireturn, 1) := by decide +kernel
theorem dX8_least_53 : decode cX8_least 53 = .ok (.iinc 4 1, 3) := by decide +kernel
theorem dX8_least_56 : decode cX8_least 56 = .ok (.goto (-36), 3) := by decide +kernel
theorem dX8_least_59 : decode cX8_least 59 = .ok (.bipush (-4), 2) := by decide +kernel
theorem dX8_least_61 : decode cX8_least 61 = .ok (.ireturn, 1) := by decide +kernel
theorem dX8_worth_0 : decode cX8_worth 0 = .ok (.aload_n 0, 1) := by decide +kernel
theorem dX8_worth_1 : decode cX8_worth 1 = .ok (.getfield 23, 3) := by decide +kernel
theorem dX8_worth_4 : decode cX8_worth 4 = .ok (.iload_n 1, 1) := by decide +kernel
theorem dX8_worth_5 : decode cX8_worth 5 = .ok (.iload_n 2, 1) := by decide +kernel
theorem dX8_worth_6 : decode cX8_worth 6 = .ok (.invokestatic 137, 3) := by decide +kernel
theorem dX8_worth_9 : decode cX8_worth 9 = .ok (.ifCond .eq 15, 3) := by decide +kernel
theorem dX8_worth_12 : decode cX8_worth 12 = .ok (.aload_n 0, 1) := by decide +kernel
theorem dX8_worth_13 : decode cX8_worth 13 = .ok (.getfield 23, 3) := by decide +kernel
theorem dX8_worth_16 : decode cX8_worth 16 = .ok (.iload_n 1, 1) := by decide +kernel
theorem dX8_worth_17 : decode cX8_worth 17 = .ok (.iload_n 2, 1) := by decide +kernel
theorem dX8_worth_18 : decode cX8_worth 18 = .ok (.invokestatic 131, 3) := by decide +kernel
theorem dX8_worth_21 : decode cX8_worth 21 = .ok (.goto 4, 3) := by decide +kernel
theorem dX8_worth_24 : decode cX8_worth 24 = .ok (.iconst 0, 1) := by decide +kernel
theorem dX8_worth_25 : decode cX8_worth 25 = .ok (.istore_n 3, 1) := by decide +kernel
theorem dX8_worth_26 : decode cX8_worth 26 = .ok (.iload_n 3, 1) := by decide +kernel
theorem dX8_worth_27 : decode cX8_worth 27 = .ok (.ifCond .ne 7, 3) := by decide +kernel
theorem dX8_worth_30 : decode cX8_worth 30 = .ok (.iconst 0, 1) := by decide +kernel
theorem dX8_worth_31 : decode cX8_worth 31 = .ok (.goto 15, 3) := by decide +kernel
theorem dX8_worth_34 : decode cX8_worth 34 = .ok (.iload_n 3, 1) := by decide +kernel
theorem dX8_worth_35 : decode cX8_worth 35 = .ok (.iconst 1, 1) := by decide +kernel
theorem dX8_worth_36 : decode cX8_worth 36 = .ok (.if_icmp .ne 8, 3) := by decide +kernel
theorem dX8_worth_39 : decode cX8_worth 39 = .ok (.bipush 100, 2) := by decide +kernel
theorem dX8_worth_41 : decode cX8_worth 41 = .ok (.goto 5, 3) := by decide +kernel
theorem dX8_worth_44 : decode cX8_worth 44 = .ok (.bipush 99, 2) := by decide +kernel
theorem dX8_worth_46 : decode cX8_worth 46 = .ok (.ireturn, 1) := by decide +kernel
theorem dX8_layMatch_0 : decode cX8_layMatch 0 = .ok (.aload_n 0, 1) := by decide +kernel
theorem dX8_layMatch_1 : decode cX8_layMatch 1 = .ok (.getfield 23, 3) := by decide +kernel
theorem dX8_layMatch_4 : decode cX8_layMatch 4 = .ok (.iconst 2, 1) := by decide +kernel
theorem dX8_layMatch_5 : decode cX8_layMatch 5 = .ok (.iaload, 1) := by decide +kernel
theorem dX8_layMatch_6 : decode cX8_layMatch 6 = .ok (.istore_n 1, 1) := by decide +kernel
theorem dX8_layMatch_7 : decode cX8_layMatch 7 = .ok (.iconst 0, 1) := by decide +kernel
theorem dX8_layMatch_8 : decode cX8_layMatch 8 = .ok (.istore_n 2, 1) := by decide +kernel
theorem dX8_layMatch_9 : decode cX8_layMatch 9 = .ok (.iload_n 2, 1) := by decide +kernel
theorem dX8_layMatch_10 : decode cX8_layMatch 10 = .ok (.bipush 64, 2) := by decide +kernel
theorem dX8_layMatch_12 : decode cX8_layMatch 12 = .ok (.if_icmp .ge 21, 3) := by decide +kernel
theorem dX8_layMatch_15 : decode cX8_layMatch 15 = .ok (.aload_n 0, 1) := by decide +kernel
theorem dX8_layMatch_16 : decode cX8_layMatch 16 = .ok (.getfield 42, 3) := by decide +kernel
theorem dX8_layMatch_19 : decode cX8_layMatch 19 = .ok (.bipush 64, 2) := by decide +kernel
theorem dX8_layMatch_21 : decode cX8_layMatch 21 = .ok (.iload_n 1, 1) := by decide +kernel
theorem dX8_layMatch_22 : decode cX8_layMatch 22 = .ok (.imul, 1) := by decide +kernel
theorem dX8_layMatch_23 : decode cX8_layMatch 23 = .ok (.iload_n 2, 1) := by decide +kernel
theorem dX8_layMatch_24 : decode cX8_layMatch 24 = .ok (.iadd, 1) := by decide +kernel
theorem dX8_layMatch_25 : decode cX8_layMatch 25 = .ok (.iconst 0, 1) := by decide +kernel
theorem dX8_layMatch_26 : decode cX8_layMatch 26 = .ok (.iastore, 1) := by decide +kernel
theorem dX8_layMatch_27 : decode cX8_layMatch 27 = .ok (.iinc 2 1, 3) := by decide +kernel
theorem dX8_layMatch_30 : decode cX8_layMatch 30 = .ok (.goto (-21), 3) := by decide +kernel
theorem dX8_layMatch_33 : decode cX8_layMatch 33 = .ok (.iload_n 1, 1) := by decide +kernel
theorem dX8_layMatch_34 : decode cX8_layMatch 34 = .ok (.iconst 1, 1) := by decide +kernel
theorem dX8_layMatch_35 : decode cX8_layMatch 35 = .ok (.isub, 1) := by decide +kernel
theorem dX8_layMatch_36 : decode cX8_layMatch 36 = .ok (.istore_n 2, 1) := by decide +kernel
theorem dX8_layMatch_37 : decode cX8_layMatch 37 = .ok (.iload_n 2, 1) := by decide +kernel
theorem dX8_layMatch_38 : decode cX8_layMatch 38 = .ok (.ifCond .lt 141, 3) := by decide +kernel
theorem dX8_layMatch_41 : decode cX8_layMatch 41 = .ok (.iconst 0, 1) := by decide +kernel
theorem dX8_layMatch_42 : decode cX8_layMatch 42 = .ok (.istore_n 3, 1) := by decide +kernel
theorem dX8_layMatch_43 : decode cX8_layMatch 43 = .ok (.iload_n 3, 1) := by decide +kernel
theorem dX8_layMatch_44 : decode cX8_layMatch 44 = .ok (.bipush 64, 2) := by decide +kernel
theorem dX8_layMatch_46 : decode cX8_layMatch 46 = .ok (.if_icmp .ge 127, 3) := by decide +kernel
theorem dX8_layMatch_49 : decode cX8_layMatch 49 = .ok (.aload_n 0, 1) := by decide +kernel
theorem dX8_layMatch_50 : decode cX8_layMatch 50 = .ok (.getfield 42, 3) := by decide +kernel
theorem dX8_layMatch_53 : decode cX8_layMatch 53 = .ok (.bipush 64, 2) := by decide +kernel
theorem dX8_layMatch_55 : decode cX8_layMatch 55 = .ok (.iload_n 2, 1) := by decide +kernel
theorem dX8_layMatch_56 : decode cX8_layMatch 56 = .ok (.iconst 1, 1) := by decide +kernel
theorem dX8_layMatch_57 : decode cX8_layMatch 57 = .ok (.iadd, 1) := by decide +kernel
theorem dX8_layMatch_58 : decode cX8_layMatch 58 = .ok (.imul, 1) := by decide +kernel
theorem dX8_layMatch_59 : decode cX8_layMatch 59 = .ok (.iload_n 3, 1) := by decide +kernel
theorem dX8_layMatch_60 : decode cX8_layMatch 60 = .ok (.iadd, 1) := by decide +kernel
theorem dX8_layMatch_61 : decode cX8_layMatch 61 = .ok (.iaload, 1) := by decide +kernel
theorem dX8_layMatch_62 : decode cX8_layMatch 62 = .ok (.istore 4, 2) := by decide +kernel
theorem dX8_layMatch_64 : decode cX8_layMatch 64 = .ok (.iconst 0, 1) := by decide +kernel
theorem dX8_layMatch_65 : decode cX8_layMatch 65 = .ok (.istore 5, 2) := by decide +kernel
theorem dX8_layMatch_67 : decode cX8_layMatch 67 = .ok (.iload 5, 2) := by decide +kernel
theorem dX8_layMatch_69 : decode cX8_layMatch 69 = .ok (.aload_n 0, 1) := by decide +kernel
theorem dX8_layMatch_70 : decode cX8_layMatch 70 = .ok (.getfield 23, 3) := by decide +kernel
theorem dX8_layMatch_73 : decode cX8_layMatch 73 = .ok (.iconst 1, 1) := by decide +kernel
theorem dX8_layMatch_74 : decode cX8_layMatch 74 = .ok (.iaload, 1) := by decide +kernel
theorem dX8_layMatch_75 : decode cX8_layMatch 75 = .ok (.if_icmp .ge 79, 3) := by decide +kernel
theorem dX8_layMatch_78 : decode cX8_layMatch 78 = .ok (.iload_n 3, 1) := by decide +kernel
theorem dX8_layMatch_79 : decode cX8_layMatch 79 = .ok (.iload 5, 2) := by decide +kernel
theorem dX8_layMatch_81 : decode cX8_layMatch 81 = .ok (.invokestatic 156, 3) := by decide +kernel
theorem dX8_layMatch_84 : decode cX8_layMatch 84 = .ok (.ifCond .eq 7, 3) := by decide +kernel
theorem dX8_layMatch_87 : decode cX8_layMatch 87 = .ok (.iconst 0, 1) := by decide +kernel
theorem dX8_layMatch_88 : decode cX8_layMatch 88 = .ok (.goto 10, 3) := by decide +kernel
theorem dX8_layMatch_91 : decode cX8_layMatch 91 = .ok (.aload_n 0, 1) := by decide +kernel
theorem dX8_layMatch_92 : decode cX8_layMatch 92 = .ok (.iload_n 2, 1) := by decide +kernel
theorem dX8_layMatch_93 : decode cX8_layMatch 93 = .ok (.iload 5, 2) := by decide +kernel
theorem dX8_layMatch_95 : decode cX8_layMatch 95 = .ok (.invokevirtual 159, 3) := by decide +kernel
theorem dX8_layMatch_98 : decode cX8_layMatch 98 = .ok (.istore 6, 2) := by decide +kernel
theorem dX8_layMatch_100 : decode cX8_layMatch 100 = .ok (.iload 6, 2) := by decide +kernel
theorem dX8_layMatch_102 : decode cX8_layMatch 102 = .ok (.ifCond .ne 7, 3) := by decide +kernel
theorem dX8_layMatch_105 : decode cX8_layMatch 105 = .ok (.iconst 0, 1) := by decide +kernel
theorem dX8_layMatch_106 : decode cX8_layMatch 106 = .ok (.goto 24, 3) := by decide +kernel
theorem dX8_layMatch_109 : decode cX8_layMatch 109 = .ok (.iload 6, 2) := by decide +kernel
theorem dX8_layMatch_111 : decode cX8_layMatch 111 = .ok (.aload_n 0, 1) := by decide +kernel
theorem dX8_layMatch_112 : decode cX8_layMatch 112 = .ok (.getfield 42, 3) := by decide +kernel
theorem dX8_layMatch_115 : decode cX8_layMatch 115 = .ok (.bipush 64, 2) := by decide +kernel
theorem dX8_layMatch_117 : decode cX8_layMatch 117 = .ok (.iload_n 2, 1) := by decide +kernel
theorem dX8_layMatch_118 : decode cX8_layMatch 118 = .ok (.iconst 1, 1) := by decide +kernel
theorem dX8_layMatch_119 : decode cX8_layMatch 119 = .ok (.iadd, 1) := by decide +kernel
theorem dX8_layMatch_120 : decode cX8_layMatch 120 = .ok (.imul, 1) := by decide +kernel
theorem dX8_layMatch_121 : decode cX8_layMatch 121 = .ok (.iload_n 3, 1) := by decide +kernel
theorem dX8_layMatch_122 : decode cX8_layMatch 122 = .ok (.iconst 1, 1) := by decide +kernel
theorem dX8_layMatch_123 : decode cX8_layMatch 123 = .ok (.iload 5, 2) := by decide +kernel
theorem dX8_layMatch_125 : decode cX8_layMatch 125 = .ok (.ishl, 1) := by decide +kernel
theorem dX8_layMatch_126 : decode cX8_layMatch 126 = .ok (.ior, 1) := by decide +kernel
theorem dX8_layMatch_127 : decode cX8_layMatch 127 = .ok (.iadd, 1) := by decide +kernel
theorem dX8_layMatch_128 : decode cX8_layMatch 128 = .ok (.iaload, 1) := by decide +kernel
theorem dX8_layMatch_129 : decode cX8_layMatch 129 = .ok (.iadd, 1) := by decide +kernel
theorem dX8_layMatch_130 : decode cX8_layMatch 130 = .ok (.istore 7, 2) := by decide +kernel
theorem dX8_layMatch_132 : decode cX8_layMatch 132 = .ok (.iload 7, 2) := by decide +kernel
theorem dX8_layMatch_134 : decode cX8_layMatch 134 = .ok (.iload 4, 2) := by decide +kernel
theorem dX8_layMatch_136 : decode cX8_layMatch 136 = .ok (.if_icmp .le 8, 3) := by decide +kernel
theorem dX8_layMatch_139 : decode cX8_layMatch 139 = .ok (.iload 7, 2) := by decide +kernel
theorem dX8_layMatch_141 : decode cX8_layMatch 141 = .ok (.goto 5, 3) := by decide +kernel
theorem dX8_layMatch_144 : decode cX8_layMatch 144 = .ok (.iload 4, 2) := by decide +kernel
theorem dX8_layMatch_146 : decode cX8_layMatch 146 = .ok (.istore 4, 2) := by decide +kernel
theorem dX8_layMatch_148 : decode cX8_layMatch 148 = .ok (.iinc 5 1, 3) := by decide +kernel
theorem dX8_layMatch_151 : decode cX8_layMatch 151 = .ok (.goto (-84), 3) := by decide +kernel
theorem dX8_layMatch_154 : decode cX8_layMatch 154 = .ok (.aload_n 0, 1) := by decide +kernel
theorem dX8_layMatch_155 : decode cX8_layMatch 155 = .ok (.getfield 42, 3) := by decide +kernel
theorem dX8_layMatch_158 : decode cX8_layMatch 158 = .ok (.bipush 64, 2) := by decide +kernel
theorem dX8_layMatch_160 : decode cX8_layMatch 160 = .ok (.iload_n 2, 1) := by decide +kernel
theorem dX8_layMatch_161 : decode cX8_layMatch 161 = .ok (.imul, 1) := by decide +kernel
theorem dX8_layMatch_162 : decode cX8_layMatch 162 = .ok (.iload_n 3, 1) := by decide +kernel
theorem dX8_layMatch_163 : decode cX8_layMatch 163 = .ok (.iadd, 1) := by decide +kernel
theorem dX8_layMatch_164 : decode cX8_layMatch 164 = .ok (.iload 4, 2) := by decide +kernel
theorem dX8_layMatch_166 : decode cX8_layMatch 166 = .ok (.iastore, 1) := by decide +kernel
theorem dX8_layMatch_167 : decode cX8_layMatch 167 = .ok (.iinc 3 1, 3) := by decide +kernel
theorem dX8_layMatch_170 : decode cX8_layMatch 170 = .ok (.goto (-127), 3) := by decide +kernel
theorem dX8_layMatch_173 : decode cX8_layMatch 173 = .ok (.iinc 2 (-1), 3) := by decide +kernel
theorem dX8_layMatch_176 : decode cX8_layMatch 176 = .ok (.goto (-139), 3) := by decide +kernel
theorem dX8_layMatch_179 : decode cX8_layMatch 179 = .ok (.return_, 1) := by decide +kernel
theorem dX8_matched_0 : decode cX8_matched 0 = .ok (.iconst 0, 1) := by decide +kernel
theorem dX8_matched_1 : decode cX8_matched 1 = .ok (.istore_n 2, 1) := by decide +kernel
theorem dX8_matched_2 : decode cX8_matched 2 = .ok (.bipush (-4), 2) := by decide +kernel
theorem dX8_matched_4 : decode cX8_matched 4 = .ok (.istore_n 3, 1) := by decide +kernel
theorem dX8_matched_5 : decode cX8_matched 5 = .ok (.iconst 0, 1) := by decide +kernel
theorem dX8_matched_6 : decode cX8_matched 6 = .ok (.istore 4, 2) := by decide +kernel
theorem dX8_matched_8 : decode cX8_matched 8 = .ok (.iload 4, 2) := by decide +kernel
theorem dX8_matched_10 : decode cX8_matched 10 = .ok (.iload_n 1, 1) := by decide +kernel
theorem dX8_matched_11 : decode cX8_matched 11 = .ok (.if_icmp .gt 121, 3) := by decide +kernel
theorem dX8_matched_14 : decode cX8_matched 14 = .ok (.bipush (-4), 2) := by decide +kernel
theorem dX8_matched_16 : decode cX8_matched 16 = .ok (.istore_n 3, 1) := by decide +kernel
theorem dX8_matched_17 : decode cX8_matched 17 = .ok (.aload_n 0, 1) := by decide +kernel
theorem dX8_matched_18 : decode cX8_matched 18 = .ok (.getfield 23, 3) := by decide +kernel
theorem dX8_matched_21 : decode cX8_matched 21 = .ok (.iconst 1, 1) := by decide +kernel
theorem dX8_matched_22 : decode cX8_matched 22 = .ok (.iaload, 1) := by decide +kernel
theorem dX8_matched_23 : decode cX8_matched 23 = .ok (.iconst 1, 1) := by decide +kernel
theorem dX8_matched_24 : decode cX8_matched 24 = .ok (.isub, 1) := by decide +kernel
theorem dX8_matched_25 : decode cX8_matched 25 = .ok (.istore 5, 2) := by decide +kernel
theorem dX8_matched_27 : decode cX8_matched 27 = .ok (.iload 5, 2) := by decide +kernel
theorem dX8_matched_29 : decode cX8_matched 29 = .ok (.ifCond .lt 81, 3) := by decide +kernel
theorem dX8_matched_32 : decode cX8_matched 32 = .ok (.iload_n 2, 1) := by decide +kernel
theorem dX8_matched_33 : decode cX8_matched 33 = .ok (.iload 5, 2) := by decide +kernel
theorem dX8_matched_35 : decode cX8_matched 35 = .ok (.invokestatic 156, 3) := by decide +kernel
theorem dX8_matched_38 : decode cX8_matched 38 = .ok (.ifCond .eq 7, 3) := by decide +kernel
theorem dX8_matched_41 : decode cX8_matched 41 = .ok (.iconst 0, 1) := by decide +kernel
theorem dX8_matched_42 : decode cX8_matched 42 = .ok (.goto 11, 3) := by decide +kernel
theorem dX8_matched_45 : decode cX8_matched 45 = .ok (.aload_n 0, 1) := by decide +kernel
theorem dX8_matched_46 : decode cX8_matched 46 = .ok (.iload 4, 2) := by decide +kernel
theorem dX8_matched_48 : decode cX8_matched 48 = .ok (.iload 5, 2) := by decide +kernel
theorem dX8_matched_50 : decode cX8_matched 50 = .ok (.invokevirtual 159, 3) := by decide +kernel
theorem dX8_matched_53 : decode cX8_matched 53 = .ok (.istore 6, 2) := by decide +kernel
theorem dX8_matched_55 : decode cX8_matched 55 = .ok (.iload 6, 2) := by decide +kernel
theorem dX8_matched_57 : decode cX8_matched 57 = .ok (.ifCond .le 45, 3) := by decide +kernel
theorem dX8_matched_60 : decode cX8_matched 60 = .ok (.iload 6, 2) := by decide +kernel
theorem dX8_matched_62 : decode cX8_matched 62 = .ok (.aload_n 0, 1) := by decide +kernel
theorem dX8_matched_63 : decode cX8_matched 63 = .ok (.getfield 42, 3) := by decide +kernel
theorem dX8_matched_66 : decode cX8_matched 66 = .ok (.bipush 64, 2) := by decide +kernel
theorem dX8_matched_68 : decode cX8_matched 68 = .ok (.iload 4, 2) := by decide +kernel
theorem dX8_matched_70 : decode cX8_matched 70 = .ok (.iconst 1, 1) := by decide +kernel
theorem dX8_matched_71 : decode cX8_matched 71 = .ok (.iadd, 1) := by decide +kernel
theorem dX8_matched_72 : decode cX8_matched 72 = .ok (.imul, 1) := by decide +kernel
theorem dX8_matched_73 : decode cX8_matched 73 = .ok (.iload_n 2, 1) := by decide +kernel
theorem dX8_matched_74 : decode cX8_matched 74 = .ok (.iconst 1, 1) := by decide +kernel
theorem dX8_matched_75 : decode cX8_matched 75 = .ok (.iload 5, 2) := by decide +kernel
theorem dX8_matched_77 : decode cX8_matched 77 = .ok (.ishl, 1) := by decide +kernel
theorem dX8_matched_78 : decode cX8_matched 78 = .ok (.ior, 1) := by decide +kernel
theorem dX8_matched_79 : decode cX8_matched 79 = .ok (.iadd, 1) := by decide +kernel
theorem dX8_matched_80 : decode cX8_matched 80 = .ok (.iaload, 1) := by decide +kernel
theorem dX8_matched_81 : decode cX8_matched 81 = .ok (.iadd, 1) := by decide +kernel
theorem dX8_matched_82 : decode cX8_matched 82 = .ok (.aload_n 0, 1) := by decide +kernel
theorem dX8_matched_83 : decode cX8_matched 83 = .ok (.getfield 42, 3) := by decide +kernel
theorem dX8_matched_86 : decode cX8_matched 86 = .ok (.bipush 64, 2) := by decide +kernel
theorem dX8_matched_88 : decode cX8_matched 88 = .ok (.iload 4, 2) := by decide +kernel
theorem dX8_matched_90 : decode cX8_matched 90 = .ok (.imul, 1) := by decide +kernel
theorem dX8_matched_91 : decode cX8_matched 91 = .ok (.iload_n 2, 1) := by decide +kernel
theorem dX8_matched_92 : decode cX8_matched 92 = .ok (.iadd, 1) := by decide +kernel
theorem dX8_matched_93 : decode cX8_matched 93 = .ok (.iaload, 1) := by decide +kernel
theorem dX8_matched_94 : decode cX8_matched 94 = .ok (.if_icmp .ne 8, 3) := by decide +kernel
theorem dX8_matched_97 : decode cX8_matched 97 = .ok (.iload 5, 2) := by decide +kernel
theorem dX8_matched_99 : decode cX8_matched 99 = .ok (.goto 4, 3) := by decide +kernel
theorem dX8_matched_102 : decode cX8_matched 102 = .ok (.iload_n 3, 1) := by decide +kernel
theorem dX8_matched_103 : decode cX8_matched 103 = .ok (.istore_n 3, 1) := by decide +kernel
theorem dX8_matched_104 : decode cX8_matched 104 = .ok (.iinc 5 (-1), 3) := by decide +kernel
theorem dX8_matched_107 : decode cX8_matched 107 = .ok (.goto (-80), 3) := by decide +kernel
theorem dX8_matched_110 : decode cX8_matched 110 = .ok (.iload_n 3, 1) := by decide +kernel
theorem dX8_matched_111 : decode cX8_matched 111 = .ok (.bipush (-4), 2) := by decide +kernel
theorem dX8_matched_113 : decode cX8_matched 113 = .ok (.if_icmp .ne 7, 3) := by decide +kernel
theorem dX8_matched_116 : decode cX8_matched 116 = .ok (.iload_n 2, 1) := by decide +kernel
theorem dX8_matched_117 : decode cX8_matched 117 = .ok (.goto 8, 3) := by decide +kernel
theorem dX8_matched_120 : decode cX8_matched 120 = .ok (.iload_n 2, 1) := by decide +kernel
theorem dX8_matched_121 : decode cX8_matched 121 = .ok (.iconst 1, 1) := by decide +kernel
theorem dX8_matched_122 : decode cX8_matched 122 = .ok (.iload_n 3, 1) := by decide +kernel
theorem dX8_matched_123 : decode cX8_matched 123 = .ok (.ishl, 1) := by decide +kernel
theorem dX8_matched_124 : decode cX8_matched 124 = .ok (.ior, 1) := by decide +kernel
theorem dX8_matched_125 : decode cX8_matched 125 = .ok (.istore_n 2, 1) := by decide +kernel
theorem dX8_matched_126 : decode cX8_matched 126 = .ok (.iinc 4 1, 3) := by decide +kernel
theorem dX8_matched_129 : decode cX8_matched 129 = .ok (.goto (-121), 3) := by decide +kernel
theorem dX8_matched_132 : decode cX8_matched 132 = .ok (.iload_n 3, 1) := by decide +kernel
theorem dX8_matched_133 : decode cX8_matched 133 = .ok (.ireturn, 1) := by decide +kernel
theorem dX8_match_0 : decode cX8_match 0 = .ok (.iload_n 1, 1) := by decide +kernel
theorem dX8_match_1 : decode cX8_match 1 = .ok (.iconst (-1), 1) := by decide +kernel
theorem dX8_match_2 : decode cX8_match 2 = .ok (.if_icmp .eq 20, 3) := by decide +kernel
theorem dX8_match_5 : decode cX8_match 5 = .ok (.aload_n 0, 1) := by decide +kernel
theorem dX8_match_6 : decode cX8_match 6 = .ok (.iload_n 1, 1) := by decide +kernel
theorem dX8_match_7 : decode cX8_match 7 = .ok (.invokevirtual 108, 3) := by decide +kernel
theorem dX8_match_10 : decode cX8_match 10 = .ok (.ifCond .ne 12, 3) := by decide +kernel
theorem dX8_match_13 : decode cX8_match 13 = .ok (.aload_n 0, 1) := by decide +kernel
theorem dX8_match_14 : decode cX8_match 14 = .ok (.invokevirtual 150, 3) := by decide +kernel
theorem dX8_match_17 : decode cX8_match 17 = .ok (.ifCond .eq 5, 3) := by decide +kernel
theorem dX8_match_20 : decode cX8_match 20 = .ok (.iconst (-1), 1) := by decide +kernel
theorem dX8_match_21 : decode cX8_match 21 = .ok (.ireturn, 1) := by decide +kernel
theorem dX8_match_22 : decode cX8_match 22 = .ok (.aload_n 0, 1) := by decide +kernel
theorem dX8_match_23 : decode cX8_match 23 = .ok (.invokevirtual 150, 3) := by decide +kernel
theorem dX8_match_26 : decode cX8_match 26 = .ok (.ifCond .ne 15, 3) := by decide +kernel
theorem dX8_match_29 : decode cX8_match 29 = .ok (.iload_n 1, 1) := by decide +kernel
theorem dX8_match_30 : decode cX8_match 30 = .ok (.iconst (-1), 1) := by decide +kernel
theorem dX8_match_31 : decode cX8_match 31 = .ok (.if_icmp .ne 8, 3) := by decide +kernel
theorem dX8_match_34 : decode cX8_match 34 = .ok (.bipush (-2), 2) := by decide +kernel
theorem dX8_match_36 : decode cX8_match 36 = .ok (.goto 4, 3) := by decide +kernel
theorem dX8_match_39 : decode cX8_match 39 = .ok (.iconst (-1), 1) := by decide +kernel
theorem dX8_match_40 : decode cX8_match 40 = .ok (.ireturn, 1) := by decide +kernel
theorem dX8_match_41 : decode cX8_match 41 = .ok (.aload_n 0, 1) := by decide +kernel
theorem dX8_match_42 : decode cX8_match 42 = .ok (.invokevirtual 162, 3) := by decide +kernel
theorem dX8_match_45 : decode cX8_match 45 = .ok (.iload_n 1, 1) := by decide +kernel
theorem dX8_match_46 : decode cX8_match 46 = .ok (.iconst (-1), 1) := by decide +kernel
theorem dX8_match_47 : decode cX8_match 47 = .ok (.if_icmp .ne 18, 3) := by decide +kernel
theorem dX8_match_50 : decode cX8_match 50 = .ok (.aload_n 0, 1) := by decide +kernel
theorem dX8_match_51 : decode cX8_match 51 = .ok (.getfield 42, 3) := by decide +kernel
theorem dX8_match_54 : decode cX8_match 54 = .ok (.iconst 0, 1) := by decide +kernel
theorem dX8_match_55 : decode cX8_match 55 = .ok (.iaload, 1) := by decide +kernel
theorem dX8_match_56 : decode cX8_match 56 = .ok (.bipush 99, 2) := by decide +kernel
theorem dX8_match_58 : decode cX8_match 58 = .ok (.iadd, 1) := by decide +kernel
theorem dX8_match_59 : decode cX8_match 59 = .ok (.bipush 100, 2) := by decide +kernel
theorem dX8_match_61 : decode cX8_match 61 = .ok (.idiv, 1) := by decide +kernel
theorem dX8_match_62 : decode cX8_match 62 = .ok (.goto 8, 3) := by decide +kernel
theorem dX8_match_65 : decode cX8_match 65 = .ok (.aload_n 0, 1) := by decide +kernel
theorem dX8_match_66 : decode cX8_match 66 = .ok (.iload_n 1, 1) := by decide +kernel
theorem dX8_match_67 : decode cX8_match 67 = .ok (.invokevirtual 165, 3) := by decide +kernel
theorem dX8_match_70 : decode cX8_match 70 = .ok (.ireturn, 1) := by decide +kernel
theorem dX8_stepsTo_0 : decode cX8_stepsTo 0 = .ok (.iload_n 1, 1) := by decide +kernel
theorem dX8_stepsTo_1 : decode cX8_stepsTo 1 = .ok (.istore_n 3, 1) := by decide +kernel
theorem dX8_stepsTo_2 : decode cX8_stepsTo 2 = .ok (.iconst 1, 1) := by decide +kernel
theorem dX8_stepsTo_3 : decode cX8_stepsTo 3 = .ok (.istore 4, 2) := by decide +kernel
theorem dX8_stepsTo_5 : decode cX8_stepsTo 5 = .ok (.iload 4, 2) := by decide +kernel
theorem dX8_stepsTo_7 : decode cX8_stepsTo 7 = .ok (.bipush 6, 2) := by decide +kernel
theorem dX8_stepsTo_9 : decode cX8_stepsTo 9 = .ok (.if_icmp .gt 33, 3) := by decide +kernel
theorem dX8_stepsTo_12 : decode cX8_stepsTo 12 = .ok (.iload_n 3, 1) := by decide +kernel
theorem dX8_stepsTo_13 : decode cX8_stepsTo 13 = .ok (.bipush (-4), 2) := by decide +kernel
theorem dX8_stepsTo_15 : decode cX8_stepsTo 15 = .ok (.if_icmp .eq 27, 3) := by decide +kernel
theorem dX8_stepsTo_18 : decode cX8_stepsTo 18 = .ok (.aload_n 0, 1) := by decide +kernel
theorem dX8_stepsTo_19 : decode cX8_stepsTo 19 = .ok (.getfield 23, 3) := by decide +kernel
theorem dX8_stepsTo_22 : decode cX8_stepsTo 22 = .ok (.bipush 33, 2) := by decide +kernel
theorem dX8_stepsTo_24 : decode cX8_stepsTo 24 = .ok (.iload_n 3, 1) := by decide +kernel
theorem dX8_stepsTo_25 : decode cX8_stepsTo 25 = .ok (.iadd, 1) := by decide +kernel
theorem dX8_stepsTo_26 : decode cX8_stepsTo 26 = .ok (.iaload, 1) := by decide +kernel
theorem dX8_stepsTo_27 : decode cX8_stepsTo 27 = .ok (.istore_n 3, 1) := by decide +kernel
theorem dX8_stepsTo_28 : decode cX8_stepsTo 28 = .ok (.iload_n 3, 1) := by decide +kernel
theorem dX8_stepsTo_29 : decode cX8_stepsTo 29 = .ok (.iload_n 2, 1) := by decide +kernel
theorem dX8_stepsTo_30 : decode cX8_stepsTo 30 = .ok (.if_icmp .ne 6, 3) := by decide +kernel
theorem dX8_stepsTo_33 : decode cX8_stepsTo 33 = .ok (.iload 4, 2) := by decide +kernel
theorem dX8_stepsTo_35 : decode cX8_stepsTo 35 = .ok (.ireturn, 1) := by decide +kernel
theorem dX8_stepsTo_36 : decode cX8_stepsTo 36 = .ok (.iinc 4 1, 3) := by decide +kernel
theorem dX8_stepsTo_39 : decode cX8_stepsTo 39 = .ok (.goto (-34), 3) := by decide +kernel
theorem dX8_stepsTo_42 : decode cX8_stepsTo 42 = .ok (.bipush (-4), 2) := by decide +kernel
theorem dX8_stepsTo_44 : decode cX8_stepsTo 44 = .ok (.ireturn, 1) := by decide +kernel
theorem dX8_chain_0 : decode cX8_chain 0 = .ok (.aload_n 0, 1) := by decide +kernel
theorem dX8_chain_1 : decode cX8_chain 1 = .ok (.iload_n 1, 1) := by decide +kernel
theorem dX8_chain_2 : decode cX8_chain 2 = .ok (.invokevirtual 105, 3) := by decide +kernel
theorem dX8_chain_5 : decode cX8_chain 5 = .ok (.ifCond .eq 12, 3) := by decide +kernel
theorem dX8_chain_8 : decode cX8_chain 8 = .ok (.iload_n 2, 1) := by decide +kernel
theorem dX8_chain_9 : decode cX8_chain 9 = .ok (.iconst 0, 1) := by decide +kernel
theorem dX8_chain_10 : decode cX8_chain 10 = .ok (.iconst 1, 1) := by decide +kernel
theorem dX8_chain_11 : decode cX8_chain 11 = .ok (.invokestatic 57, 3) := by decide +kernel
theorem dX8_chain_14 : decode cX8_chain 14 = .ok (.ifCond .ne 5, 3) := by decide +kernel
theorem dX8_chain_17 : decode cX8_chain 17 = .ok (.iconst (-1), 1) := by decide +kernel
theorem dX8_chain_18 : decode cX8_chain 18 = .ok (.ireturn, 1) := by decide +kernel
theorem dX8_chain_19 : decode cX8_chain 19 = .ok (.iload_n 1, 1) := by decide +kernel
theorem dX8_chain_20 : decode cX8_chain 20 = .ok (.istore_n 3, 1) := by decide +kernel
theorem dX8_chain_21 : decode cX8_chain 21 = .ok (.iconst 0, 1) := by decide +kernel
theorem dX8_chain_22 : decode cX8_chain 22 = .ok (.istore 4, 2) := by decide +kernel
theorem dX8_chain_24 : decode cX8_chain 24 = .ok (.iload_n 3, 1) := by decide +kernel
theorem dX8_chain_25 : decode cX8_chain 25 = .ok (.bipush (-4), 2) := by decide +kernel
theorem dX8_chain_27 : decode cX8_chain 27 = .ok (.if_icmp .eq 30, 3) := by decide +kernel
theorem dX8_chain_30 : decode cX8_chain 30 = .ok (.aload_n 0, 1) := by decide +kernel
theorem dX8_chain_31 : decode cX8_chain 31 = .ok (.iload_n 3, 1) := by decide +kernel
theorem dX8_chain_32 : decode cX8_chain 32 = .ok (.iload_n 3, 1) := by decide +kernel
theorem dX8_chain_33 : decode cX8_chain 33 = .ok (.invokevirtual 168, 3) := by decide +kernel
theorem dX8_chain_36 : decode cX8_chain 36 = .ok (.bipush (-4), 2) := by decide +kernel
theorem dX8_chain_38 : decode cX8_chain 38 = .ok (.if_icmp .ne 19, 3) := by decide +kernel
theorem dX8_chain_41 : decode cX8_chain 41 = .ok (.aload_n 0, 1) := by decide +kernel
theorem dX8_chain_42 : decode cX8_chain 42 = .ok (.getfield 23, 3) := by decide +kernel
theorem dX8_chain_45 : decode cX8_chain 45 = .ok (.bipush 33, 2) := by decide +kernel
theorem dX8_chain_47 : decode cX8_chain 47 = .ok (.iload_n 3, 1) := by decide +kernel
theorem dX8_chain_48 : decode cX8_chain 48 = .ok (.iadd, 1) := by decide +kernel
theorem dX8_chain_49 : decode cX8_chain 49 = .ok (.iaload, 1) := by decide +kernel
theorem dX8_chain_50 : decode cX8_chain 50 = .ok (.istore_n 3, 1) := by decide +kernel
theorem dX8_chain_51 : decode cX8_chain 51 = .ok (.iinc 4 1, 3) := by decide +kernel
theorem dX8_chain_54 : decode cX8_chain 54 = .ok (.goto (-30), 3) := by decide +kernel
theorem dX8_chain_57 : decode cX8_chain 57 = .ok (.iload_n 2, 1) := by decide +kernel
theorem dX8_chain_58 : decode cX8_chain 58 = .ok (.ifCond .ne 8, 3) := by decide +kernel
theorem dX8_chain_61 : decode cX8_chain 61 = .ok (.iload 4, 2) := by decide +kernel
theorem dX8_chain_63 : decode cX8_chain 63 = .ok (.goto 19, 3) := by decide +kernel
theorem dX8_chain_66 : decode cX8_chain 66 = .ok (.iload_n 3, 1) := by decide +kernel
theorem dX8_chain_67 : decode cX8_chain 67 = .ok (.bipush (-4), 2) := by decide +kernel
theorem dX8_chain_69 : decode cX8_chain 69 = .ok (.if_icmp .ne 7, 3) := by decide +kernel
theorem dX8_chain_72 : decode cX8_chain 72 = .ok (.iconst 0, 1) := by decide +kernel
theorem dX8_chain_73 : decode cX8_chain 73 = .ok (.goto 9, 3) := by decide +kernel
theorem dX8_chain_76 : decode cX8_chain 76 = .ok (.aload_n 0, 1) := by decide +kernel
theorem dX8_chain_77 : decode cX8_chain 77 = .ok (.iload_n 3, 1) := by decide +kernel
theorem dX8_chain_78 : decode cX8_chain 78 = .ok (.iload_n 3, 1) := by decide +kernel
theorem dX8_chain_79 : decode cX8_chain 79 = .ok (.invokevirtual 168, 3) := by decide +kernel
theorem dX8_chain_82 : decode cX8_chain 82 = .ok (.ireturn, 1) := by decide +kernel
theorem dX8_reach_0 : decode cX8_reach 0 = .ok (.aload_n 0, 1) := by decide +kernel
theorem dX8_reach_1 : decode cX8_reach 1 = .ok (.iload_n 1, 1) := by decide +kernel
theorem dX8_reach_2 : decode cX8_reach 2 = .ok (.invokevirtual 105, 3) := by decide +kernel
theorem dX8_reach_5 : decode cX8_reach 5 = .ok (.ifCond .eq 13, 3) := by decide +kernel
theorem dX8_reach_8 : decode cX8_reach 8 = .ok (.iload_n 2, 1) := by decide +kernel
theorem dX8_reach_9 : decode cX8_reach 9 = .ok (.iconst 0, 1) := by decide +kernel
theorem dX8_reach_10 : decode cX8_reach 10 = .ok (.bipush 9, 2) := by decide +kernel
theorem dX8_reach_12 : decode cX8_reach 12 = .ok (.invokestatic 57, 3) := by decide +kernel
theorem dX8_reach_15 : decode cX8_reach 15 = .ok (.ifCond .ne 5, 3) := by decide +kernel
theorem dX8_reach_18 : decode cX8_reach 18 = .ok (.iconst (-1), 1) := by decide +kernel
theorem dX8_reach_19 : decode cX8_reach 19 = .ok (.ireturn, 1) := by decide +kernel
theorem dX8_reach_20 : decode cX8_reach 20 = .ok (.iconst 0, 1) := by decide +kernel
theorem dX8_reach_21 : decode cX8_reach 21 = .ok (.istore_n 3, 1) := by decide +kernel
theorem dX8_reach_22 : decode cX8_reach 22 = .ok (.iload_n 3, 1) := by decide +kernel
theorem dX8_reach_23 : decode cX8_reach 23 = .ok (.bipush 10, 2) := by decide +kernel
theorem dX8_reach_25 : decode cX8_reach 25 = .ok (.if_icmp .ge 33, 3) := by decide +kernel
theorem dX8_reach_28 : decode cX8_reach 28 = .ok (.aload_n 0, 1) := by decide +kernel
theorem dX8_reach_29 : decode cX8_reach 29 = .ok (.getfield 45, 3) := by decide +kernel
theorem dX8_reach_32 : decode cX8_reach 32 = .ok (.iload_n 3, 1) := by decide +kernel
theorem dX8_reach_33 : decode cX8_reach 33 = .ok (.iload_n 3, 1) := by decide +kernel
theorem dX8_reach_34 : decode cX8_reach 34 = .ok (.aload_n 0, 1) := by decide +kernel
theorem dX8_reach_35 : decode cX8_reach 35 = .ok (.getfield 23, 3) := by decide +kernel
theorem dX8_reach_38 : decode cX8_reach 38 = .ok (.bipush 27, 2) := by decide +kernel
theorem dX8_reach_40 : decode cX8_reach 40 = .ok (.iload_n 1, 1) := by decide +kernel
theorem dX8_reach_41 : decode cX8_reach 41 = .ok (.iadd, 1) := by decide +kernel
theorem dX8_reach_42 : decode cX8_reach 42 = .ok (.iaload, 1) := by decide +kernel
theorem dX8_reach_43 : decode cX8_reach 43 = .ok (.if_icmp .ne 7, 3) := by decide +kernel
theorem dX8_reach_46 : decode cX8_reach 46 = .ok (.iconst 1, 1) := by decide +kernel
theorem dX8_reach_47 : decode cX8_reach 47 = .ok (.goto 4, 3) := by decide +kernel
theorem dX8_reach_50 : decode cX8_reach 50 = .ok (.iconst 0, 1) := by decide +kernel
theorem dX8_reach_51 : decode cX8_reach 51 = .ok (.iastore, 1) := by decide +kernel
theorem dX8_reach_52 : decode cX8_reach 52 = .ok (.iinc 3 1, 3) := by decide +kernel
theorem dX8_reach_55 : decode cX8_reach 55 = .ok (.goto (-33), 3) := by decide +kernel
theorem dX8_reach_58 : decode cX8_reach 58 = .ok (.iconst 0, 1) := by decide +kernel
theorem dX8_reach_59 : decode cX8_reach 59 = .ok (.istore_n 3, 1) := by decide +kernel
theorem dX8_reach_60 : decode cX8_reach 60 = .ok (.aload_n 0, 1) := by decide +kernel
theorem dX8_reach_61 : decode cX8_reach 61 = .ok (.getfield 45, 3) := by decide +kernel
theorem dX8_reach_64 : decode cX8_reach 64 = .ok (.iload_n 2, 1) := by decide +kernel
theorem dX8_reach_65 : decode cX8_reach 65 = .ok (.iaload, 1) := by decide +kernel
theorem dX8_reach_66 : decode cX8_reach 66 = .ok (.ifCond .ne 151, 3) := by decide +kernel
theorem dX8_reach_69 : decode cX8_reach 69 = .ok (.aload_n 0, 1) := by decide +kernel
theorem dX8_reach_70 : decode cX8_reach 70 = .ok (.getfield 23, 3) := by decide +kernel
theorem dX8_reach_73 : decode cX8_reach 73 = .ok (.iconst 0, 1) := by decide +kernel
theorem dX8_reach_74 : decode cX8_reach 74 = .ok (.iaload, 1) := by decide +kernel
theorem dX8_reach_75 : decode cX8_reach 75 = .ok (.iload_n 3, 1) := by decide +kernel
theorem dX8_reach_76 : decode cX8_reach 76 = .ok (.iadd, 1) := by decide +kernel
theorem dX8_reach_77 : decode cX8_reach 77 = .ok (.iconst 2, 1) := by decide +kernel
theorem dX8_reach_78 : decode cX8_reach 78 = .ok (.irem, 1) := by decide +kernel
theorem dX8_reach_79 : decode cX8_reach 79 = .ok (.ifCond .ne 7, 3) := by decide +kernel
theorem dX8_reach_82 : decode cX8_reach 82 = .ok (.iconst 1, 1) := by decide +kernel
theorem dX8_reach_83 : decode cX8_reach 83 = .ok (.goto 4, 3) := by decide +kernel
theorem dX8_reach_86 : decode cX8_reach 86 = .ok (.iconst 0, 1) := by decide +kernel
theorem dX8_reach_87 : decode cX8_reach 87 = .ok (.istore 4, 2) := by decide +kernel
theorem dX8_reach_89 : decode cX8_reach 89 = .ok (.iconst 0, 1) := by decide +kernel
theorem dX8_reach_90 : decode cX8_reach 90 = .ok (.istore 5, 2) := by decide +kernel
theorem dX8_reach_92 : decode cX8_reach 92 = .ok (.iload 5, 2) := by decide +kernel
theorem dX8_reach_94 : decode cX8_reach 94 = .ok (.bipush 10, 2) := by decide +kernel
theorem dX8_reach_96 : decode cX8_reach 96 = .ok (.if_icmp .ge 100, 3) := by decide +kernel
theorem dX8_reach_99 : decode cX8_reach 99 = .ok (.aload_n 0, 1) := by decide +kernel
theorem dX8_reach_100 : decode cX8_reach 100 = .ok (.getfield 48, 3) := by decide +kernel
theorem dX8_reach_103 : decode cX8_reach 103 = .ok (.iload 5, 2) := by decide +kernel
theorem dX8_reach_105 : decode cX8_reach 105 = .ok (.iconst 0, 1) := by decide +kernel
theorem dX8_reach_106 : decode cX8_reach 106 = .ok (.iastore, 1) := by decide +kernel
theorem dX8_reach_107 : decode cX8_reach 107 = .ok (.iconst 0, 1) := by decide +kernel
theorem dX8_reach_108 : decode cX8_reach 108 = .ok (.istore 6, 2) := by decide +kernel
theorem dX8_reach_110 : decode cX8_reach 110 = .ok (.iload 6, 2) := by decide +kernel
theorem dX8_reach_112 : decode cX8_reach 112 = .ok (.bipush 10, 2) := by decide +kernel
theorem dX8_reach_114 : decode cX8_reach 114 = .ok (.if_icmp .ge 76, 3) := by decide +kernel
theorem dX8_reach_117 : decode cX8_reach 117 = .ok (.aload_n 0, 1) := by decide +kernel
theorem dX8_reach_118 : decode cX8_reach 118 = .ok (.getfield 45, 3) := by decide +kernel
theorem dX8_reach_121 : decode cX8_reach 121 = .ok (.iload 6, 2) := by decide +kernel
theorem dX8_reach_123 : decode cX8_reach 123 = .ok (.iaload, 1) := by decide +kernel
theorem dX8_reach_124 : decode cX8_reach 124 = .ok (.iconst 1, 1) := by decide +kernel
theorem dX8_reach_125 : decode cX8_reach 125 = .ok (.if_icmp .ne 33, 3) := by decide +kernel
theorem dX8_reach_128 : decode cX8_reach 128 = .ok (.iload 6, 2) := by decide +kernel
theorem dX8_reach_130 : decode cX8_reach 130 = .ok (.iload 5, 2) := by decide +kernel
theorem dX8_reach_132 : decode cX8_reach 132 = .ok (.invokestatic 119, 3) := by decide +kernel
theorem dX8_reach_135 : decode cX8_reach 135 = .ok (.iconst 3, 1) := by decide +kernel
theorem dX8_reach_136 : decode cX8_reach 136 = .ok (.if_icmp .gt 22, 3) := by decide +kernel
theorem dX8_reach_139 : decode cX8_reach 139 = .ok (.iload 4, 2) := by decide +kernel
theorem dX8_reach_141 : decode cX8_reach 141 = .ok (.ifCond .ne 13, 3) := by decide +kernel
theorem dX8_reach_144 : decode cX8_reach 144 = .ok (.iload 6, 2) := by decide +kernel
theorem dX8_reach_146 : decode cX8_reach 146 = .ok (.iload 5, 2) := by decide +kernel
theorem dX8_reach_148 : decode cX8_reach 148 = .ok (.invokestatic 115, 3) := by decide +kernel
theorem dX8_reach_151 : decode cX8_reach 151 = .ok (.ifCond .ne 7, 3) := by decide +kernel
theorem dX8_reach_154 : decode cX8_reach 154 = .ok (.iconst 1, 1) := by decide +kernel
theorem dX8_reach_155 : decode cX8_reach 155 = .ok (.goto 4, 3) := by decide +kernel
theorem dX8_reach_158 : decode cX8_reach 158 = .ok (.iconst 0, 1) := by decide +kernel
theorem dX8_reach_159 : decode cX8_reach 159 = .ok (.istore 7, 2) := by decide +kernel
theorem dX8_reach_161 : decode cX8_reach 161 = .ok (.aload_n 0, 1) := by decide +kernel
theorem dX8_reach_162 : decode cX8_reach 162 = .ok (.getfield 48, 3) := by decide +kernel
theorem dX8_reach_165 : decode cX8_reach 165 = .ok (.iload 5, 2) := by decide +kernel
theorem dX8_reach_167 : decode cX8_reach 167 = .ok (.iload 7, 2) := by decide +kernel
theorem dX8_reach_169 : decode cX8_reach 169 = .ok (.ifCond .eq 7, 3) := by decide +kernel
theorem dX8_reach_172 : decode cX8_reach 172 = .ok (.iconst 1, 1) := by decide +kernel
theorem dX8_reach_173 : decode cX8_reach 173 = .ok (.goto 10, 3) := by decide +kernel
theorem dX8_reach_176 : decode cX8_reach 176 = .ok (.aload_n 0, 1) := by decide +kernel
theorem dX8_reach_177 : decode cX8_reach 177 = .ok (.getfield 48, 3) := by decide +kernel
theorem dX8_reach_180 : decode cX8_reach 180 = .ok (.iload 5, 2) := by decide +kernel
theorem dX8_reach_182 : decode cX8_reach 182 = .ok (.iaload, 1) := by decide +kernel
theorem dX8_reach_183 : decode cX8_reach 183 = .ok (.iastore, 1) := by decide +kernel
theorem dX8_reach_184 : decode cX8_reach 184 = .ok (.iinc 6 1, 3) := by decide +kernel
theorem dX8_reach_187 : decode cX8_reach 187 = .ok (.goto (-77), 3) := by decide +kernel
theorem dX8_reach_190 : decode cX8_reach 190 = .ok (.iinc 5 1, 3) := by decide +kernel
theorem dX8_reach_193 : decode cX8_reach 193 = .ok (.goto (-101), 3) := by decide +kernel
theorem dX8_reach_196 : decode cX8_reach 196 = .ok (.aload_n 0, 1) := by decide +kernel
theorem dX8_reach_197 : decode cX8_reach 197 = .ok (.getfield 48, 3) := by decide +kernel
theorem dX8_reach_200 : decode cX8_reach 200 = .ok (.iconst 0, 1) := by decide +kernel
theorem dX8_reach_201 : decode cX8_reach 201 = .ok (.aload_n 0, 1) := by decide +kernel
theorem dX8_reach_202 : decode cX8_reach 202 = .ok (.getfield 45, 3) := by decide +kernel
theorem dX8_reach_205 : decode cX8_reach 205 = .ok (.iconst 0, 1) := by decide +kernel
theorem dX8_reach_206 : decode cX8_reach 206 = .ok (.bipush 10, 2) := by decide +kernel
theorem dX8_reach_208 : decode cX8_reach 208 = .ok (.invokestatic 98, 3) := by decide +kernel
theorem dX8_reach_211 : decode cX8_reach 211 = .ok (.iinc 3 1, 3) := by decide +kernel
theorem dX8_reach_214 : decode cX8_reach 214 = .ok (.goto (-154), 3) := by decide +kernel
theorem dX8_reach_217 : decode cX8_reach 217 = .ok (.iload_n 3, 1) := by decide +kernel
theorem dX8_reach_218 : decode cX8_reach 218 = .ok (.ireturn, 1) := by decide +kernel
theorem dX8_does_0 : decode cX8_does 0 = .ok (.iload_n 1, 1) := by decide +kernel
theorem dX8_does_1 : decode cX8_does 1 = .ok (.bipush 99, 2) := by decide +kernel
theorem dX8_does_3 : decode cX8_does 3 = .ok (.if_icmp .ne 15, 3) := by decide +kernel
theorem dX8_does_6 : decode cX8_does 6 = .ok (.aload_n 0, 1) := by decide +kernel
theorem dX8_does_7 : decode cX8_does 7 = .ok (.getfield 29, 3) := by decide +kernel
theorem dX8_does_10 : decode cX8_does 10 = .ok (.iconst 0, 1) := by decide +kernel
theorem dX8_does_11 : decode cX8_does 11 = .ok (.dup2, 1) := by decide +kernel
theorem dX8_does_12 : decode cX8_does 12 = .ok (.iaload, 1) := by decide +kernel
theorem dX8_does_13 : decode cX8_does 13 = .ok (.iconst 1, 1) := by decide +kernel
theorem dX8_does_14 : decode cX8_does 14 = .ok (.iadd, 1) := by decide +kernel
theorem dX8_does_15 : decode cX8_does 15 = .ok (.iastore, 1) := by decide +kernel
theorem dX8_does_16 : decode cX8_does 16 = .ok (.iconst 0, 1) := by decide +kernel
theorem dX8_does_17 : decode cX8_does 17 = .ok (.ireturn, 1) := by decide +kernel
theorem dX8_does_18 : decode cX8_does 18 = .ok (.iload_n 1, 1) := by decide +kernel
theorem dX8_does_19 : decode cX8_does 19 = .ok (.bipush 10, 2) := by decide +kernel
theorem dX8_does_21 : decode cX8_does 21 = .ok (.idiv, 1) := by decide +kernel
theorem dX8_does_22 : decode cX8_does 22 = .ok (.istore_n 2, 1) := by decide +kernel
theorem dX8_does_23 : decode cX8_does 23 = .ok (.iload_n 1, 1) := by decide +kernel
theorem dX8_does_24 : decode cX8_does 24 = .ok (.bipush 10, 2) := by decide +kernel
theorem dX8_does_26 : decode cX8_does 26 = .ok (.irem, 1) := by decide +kernel
theorem dX8_does_27 : decode cX8_does 27 = .ok (.istore_n 3, 1) := by decide +kernel
theorem dX8_does_28 : decode cX8_does 28 = .ok (.iload_n 3, 1) := by decide +kernel
theorem dX8_does_29 : decode cX8_does 29 = .ok (.aload_n 0, 1) := by decide +kernel
theorem dX8_does_30 : decode cX8_does 30 = .ok (.getfield 23, 3) := by decide +kernel
theorem dX8_does_33 : decode cX8_does 33 = .ok (.iconst 1, 1) := by decide +kernel
theorem dX8_does_34 : decode cX8_does 34 = .ok (.iaload, 1) := by decide +kernel
theorem dX8_does_35 : decode cX8_does 35 = .ok (.if_icmp .ge 15, 3) := by decide +kernel
theorem dX8_does_38 : decode cX8_does 38 = .ok (.aload_n 0, 1) := by decide +kernel
theorem dX8_does_39 : decode cX8_does 39 = .ok (.getfield 29, 3) := by decide +kernel
theorem dX8_does_42 : decode cX8_does 42 = .ok (.iload_n 2, 1) := by decide +kernel
theorem dX8_does_43 : decode cX8_does 43 = .ok (.iload_n 3, 1) := by decide +kernel
theorem dX8_does_44 : decode cX8_does 44 = .ok (.invokestatic 137, 3) := by decide +kernel
theorem dX8_does_47 : decode cX8_does 47 = .ok (.ifCond .ne 5, 3) := by decide +kernel
theorem dX8_does_50 : decode cX8_does 50 = .ok (.iconst (-1), 1) := by decide +kernel
theorem dX8_does_51 : decode cX8_does 51 = .ok (.ireturn, 1) := by decide +kernel
theorem dX8_does_52 : decode cX8_does 52 = .ok (.aload_n 0, 1) := by decide +kernel
theorem dX8_does_53 : decode cX8_does 53 = .ok (.getfield 29, 3) := by decide +kernel
theorem dX8_does_56 : decode cX8_does 56 = .ok (.iload_n 2, 1) := by decide +kernel
theorem dX8_does_57 : decode cX8_does 57 = .ok (.iload_n 3, 1) := by decide +kernel
theorem dX8_does_58 : decode cX8_does 58 = .ok (.invokestatic 147, 3) := by decide +kernel
theorem dX8_does_61 : decode cX8_does 61 = .ok (.ifCond .le 7, 3) := by decide +kernel
theorem dX8_does_64 : decode cX8_does 64 = .ok (.iconst 1, 1) := by decide +kernel
theorem dX8_does_65 : decode cX8_does 65 = .ok (.goto 4, 3) := by decide +kernel
theorem dX8_does_68 : decode cX8_does 68 = .ok (.iconst 0, 1) := by decide +kernel
theorem dX8_does_69 : decode cX8_does 69 = .ok (.ireturn, 1) := by decide +kernel
theorem dX8_nextCode_0 : decode cX8_nextCode 0 = .ok (.iload_n 1, 1) := by decide +kernel
theorem dX8_nextCode_1 : decode cX8_nextCode 1 = .ok (.bipush 10, 2) := by decide +kernel
theorem dX8_nextCode_3 : decode cX8_nextCode 3 = .ok (.irem, 1) := by decide +kernel
theorem dX8_nextCode_4 : decode cX8_nextCode 4 = .ok (.aload_n 0, 1) := by decide +kernel
theorem dX8_nextCode_5 : decode cX8_nextCode 5 = .ok (.getfield 23, 3) := by decide +kernel
theorem dX8_nextCode_8 : decode cX8_nextCode 8 = .ok (.iconst 1, 1) := by decide +kernel
theorem dX8_nextCode_9 : decode cX8_nextCode 9 = .ok (.iaload, 1) := by decide +kernel
theorem dX8_nextCode_10 : decode cX8_nextCode 10 = .ok (.iconst 1, 1) := by decide +kernel
theorem dX8_nextCode_11 : decode cX8_nextCode 11 = .ok (.isub, 1) := by decide +kernel
theorem dX8_nextCode_12 : decode cX8_nextCode 12 = .ok (.if_icmp .ge 9, 3) := by decide +kernel
theorem dX8_nextCode_15 : decode cX8_nextCode 15 = .ok (.iload_n 1, 1) := by decide +kernel
theorem dX8_nextCode_16 : decode cX8_nextCode 16 = .ok (.iconst 1, 1) := by decide +kernel
theorem dX8_nextCode_17 : decode cX8_nextCode 17 = .ok (.iadd, 1) := by decide +kernel
theorem dX8_nextCode_18 : decode cX8_nextCode 18 = .ok (.goto 12, 3) := by decide +kernel
theorem dX8_nextCode_21 : decode cX8_nextCode 21 = .ok (.bipush 10, 2) := by decide +kernel
theorem dX8_nextCode_23 : decode cX8_nextCode 23 = .ok (.iload_n 1, 1) := by decide +kernel
theorem dX8_nextCode_24 : decode cX8_nextCode 24 = .ok (.bipush 10, 2) := by decide +kernel
theorem dX8_nextCode_26 : decode cX8_nextCode 26 = .ok (.idiv, 1) := by decide +kernel
theorem dX8_nextCode_27 : decode cX8_nextCode 27 = .ok (.iconst 1, 1) := by decide +kernel
theorem dX8_nextCode_28 : decode cX8_nextCode 28 = .ok (.iadd, 1) := by decide +kernel
theorem dX8_nextCode_29 : decode cX8_nextCode 29 = .ok (.imul, 1) := by decide +kernel
theorem dX8_nextCode_30 : decode cX8_nextCode 30 = .ok (.istore_n 2, 1) := by decide +kernel
theorem dX8_nextCode_31 : decode cX8_nextCode 31 = .ok (.iload_n 2, 1) := by decide +kernel
theorem dX8_nextCode_32 : decode cX8_nextCode 32 = .ok (.bipush 10, 2) := by decide +kernel
theorem dX8_nextCode_34 : decode cX8_nextCode 34 = .ok (.aload_n 0, 1) := by decide +kernel
theorem dX8_nextCode_35 : decode cX8_nextCode 35 = .ok (.getfield 23, 3) := by decide +kernel
theorem dX8_nextCode_38 : decode cX8_nextCode 38 = .ok (.iconst 2, 1) := by decide +kernel
theorem dX8_nextCode_39 : decode cX8_nextCode 39 = .ok (.iaload, 1) := by decide +kernel
theorem dX8_nextCode_40 : decode cX8_nextCode 40 = .ok (.imul, 1) := by decide +kernel
theorem dX8_nextCode_41 : decode cX8_nextCode 41 = .ok (.if_icmp .lt 8, 3) := by decide +kernel
theorem dX8_nextCode_44 : decode cX8_nextCode 44 = .ok (.bipush 99, 2) := by decide +kernel
theorem dX8_nextCode_46 : decode cX8_nextCode 46 = .ok (.goto 4, 3) := by decide +kernel
theorem dX8_nextCode_49 : decode cX8_nextCode 49 = .ok (.iload_n 2, 1) := by decide +kernel
theorem dX8_nextCode_50 : decode cX8_nextCode 50 = .ok (.ireturn, 1) := by decide +kernel
theorem dX8_planned_0 : decode cX8_planned 0 = .ok (.aload_n 0, 1) := by decide +kernel
theorem dX8_planned_1 : decode cX8_planned 1 = .ok (.invokevirtual 153, 3) := by decide +kernel
theorem dX8_planned_4 : decode cX8_planned 4 = .ok (.iload_n 1, 1) := by decide +kernel
theorem dX8_planned_5 : decode cX8_planned 5 = .ok (.ifCond .le 11, 3) := by decide +kernel
theorem dX8_planned_8 : decode cX8_planned 8 = .ok (.aload_n 0, 1) := by decide +kernel
theorem dX8_planned_9 : decode cX8_planned 9 = .ok (.iload_n 2, 1) := by decide +kernel
theorem dX8_planned_10 : decode cX8_planned 10 = .ok (.invokevirtual 171, 3) := by decide +kernel
theorem dX8_planned_13 : decode cX8_planned 13 = .ok (.goto 4, 3) := by decide +kernel
theorem dX8_planned_16 : decode cX8_planned 16 = .ok (.iconst 0, 1) := by decide +kernel
theorem dX8_planned_17 : decode cX8_planned 17 = .ok (.istore 5, 2) := by decide +kernel
theorem dX8_planned_19 : decode cX8_planned 19 = .ok (.iload 5, 2) := by decide +kernel
theorem dX8_planned_21 : decode cX8_planned 21 = .ok (.ifCond .ge 7, 3) := by decide +kernel
theorem dX8_planned_24 : decode cX8_planned 24 = .ok (.iconst (-1), 1) := by decide +kernel
theorem dX8_planned_25 : decode cX8_planned 25 = .ok (.goto 17, 3) := by decide +kernel
theorem dX8_planned_28 : decode cX8_planned 28 = .ok (.iload_n 1, 1) := by decide +kernel
theorem dX8_planned_29 : decode cX8_planned 29 = .ok (.iconst 1, 1) := by decide +kernel
theorem dX8_planned_30 : decode cX8_planned 30 = .ok (.if_icmp .le 11, 3) := by decide +kernel
theorem dX8_planned_33 : decode cX8_planned 33 = .ok (.aload_n 0, 1) := by decide +kernel
theorem dX8_planned_34 : decode cX8_planned 34 = .ok (.iload_n 3, 1) := by decide +kernel
theorem dX8_planned_35 : decode cX8_planned 35 = .ok (.invokevirtual 171, 3) := by decide +kernel
theorem dX8_planned_38 : decode cX8_planned 38 = .ok (.goto 4, 3) := by decide +kernel
theorem dX8_planned_41 : decode cX8_planned 41 = .ok (.iconst 0, 1) := by decide +kernel
theorem dX8_planned_42 : decode cX8_planned 42 = .ok (.istore 6, 2) := by decide +kernel
theorem dX8_planned_44 : decode cX8_planned 44 = .ok (.iload 6, 2) := by decide +kernel
theorem dX8_planned_46 : decode cX8_planned 46 = .ok (.ifCond .ge 7, 3) := by decide +kernel
theorem dX8_planned_49 : decode cX8_planned 49 = .ok (.iconst (-1), 1) := by decide +kernel
theorem dX8_planned_50 : decode cX8_planned 50 = .ok (.goto 18, 3) := by decide +kernel
theorem dX8_planned_53 : decode cX8_planned 53 = .ok (.iload_n 1, 1) := by decide +kernel
theorem dX8_planned_54 : decode cX8_planned 54 = .ok (.iconst 2, 1) := by decide +kernel
theorem dX8_planned_55 : decode cX8_planned 55 = .ok (.if_icmp .le 12, 3) := by decide +kernel
theorem dX8_planned_58 : decode cX8_planned 58 = .ok (.aload_n 0, 1) := by decide +kernel
theorem dX8_planned_59 : decode cX8_planned 59 = .ok (.iload 4, 2) := by decide +kernel
theorem dX8_planned_61 : decode cX8_planned 61 = .ok (.invokevirtual 171, 3) := by decide +kernel
theorem dX8_planned_64 : decode cX8_planned 64 = .ok (.goto 4, 3) := by decide +kernel
theorem dX8_planned_67 : decode cX8_planned 67 = .ok (.iconst 0, 1) := by decide +kernel
theorem dX8_planned_68 : decode cX8_planned 68 = .ok (.istore 7, 2) := by decide +kernel
theorem dX8_planned_70 : decode cX8_planned 70 = .ok (.iload 7, 2) := by decide +kernel
theorem dX8_planned_72 : decode cX8_planned 72 = .ok (.ifCond .ge 7, 3) := by decide +kernel
theorem dX8_planned_75 : decode cX8_planned 75 = .ok (.iconst (-1), 1) := by decide +kernel
theorem dX8_planned_76 : decode cX8_planned 76 = .ok (.goto 11, 3) := by decide +kernel
theorem dX8_planned_79 : decode cX8_planned 79 = .ok (.iload 5, 2) := by decide +kernel
theorem dX8_planned_81 : decode cX8_planned 81 = .ok (.iload 6, 2) := by decide +kernel
theorem dX8_planned_83 : decode cX8_planned 83 = .ok (.iadd, 1) := by decide +kernel
theorem dX8_planned_84 : decode cX8_planned 84 = .ok (.iload 7, 2) := by decide +kernel
theorem dX8_planned_86 : decode cX8_planned 86 = .ok (.iadd, 1) := by decide +kernel
theorem dX8_planned_87 : decode cX8_planned 87 = .ok (.ireturn, 1) := by decide +kernel
theorem dX8_take_0 : decode cX8_take 0 = .ok (.iload_n 1, 1) := by decide +kernel
theorem dX8_take_1 : decode cX8_take 1 = .ok (.aload_n 0, 1) := by decide +kernel
theorem dX8_take_2 : decode cX8_take 2 = .ok (.getfield 174, 3) := by decide +kernel
theorem dX8_take_5 : decode cX8_take 5 = .ok (.if_icmp .le 30, 3) := by decide +kernel
theorem dX8_take_8 : decode cX8_take 8 = .ok (.aload_n 0, 1) := by decide +kernel
theorem dX8_take_9 : decode cX8_take 9 = .ok (.iload_n 1, 1) := by decide +kernel
theorem dX8_take_10 : decode cX8_take 10 = .ok (.putfield 174, 3) := by decide +kernel
theorem dX8_take_13 : decode cX8_take 13 = .ok (.aload_n 0, 1) := by decide +kernel
theorem dX8_take_14 : decode cX8_take 14 = .ok (.getfield 51, 3) := by decide +kernel
theorem dX8_take_17 : decode cX8_take 17 = .ok (.iconst 0, 1) := by decide +kernel
theorem dX8_take_18 : decode cX8_take 18 = .ok (.iload_n 2, 1) := by decide +kernel
theorem dX8_take_19 : decode cX8_take 19 = .ok (.iastore, 1) := by decide +kernel
theorem dX8_take_20 : decode cX8_take 20 = .ok (.aload_n 0, 1) := by decide +kernel
theorem dX8_take_21 : decode cX8_take 21 = .ok (.getfield 51, 3) := by decide +kernel
theorem dX8_take_24 : decode cX8_take 24 = .ok (.iconst 1, 1) := by decide +kernel
theorem dX8_take_25 : decode cX8_take 25 = .ok (.iload_n 3, 1) := by decide +kernel
theorem dX8_take_26 : decode cX8_take 26 = .ok (.iastore, 1) := by decide +kernel
theorem dX8_take_27 : decode cX8_take 27 = .ok (.aload_n 0, 1) := by decide +kernel
theorem dX8_take_28 : decode cX8_take 28 = .ok (.getfield 51, 3) := by decide +kernel
theorem dX8_take_31 : decode cX8_take 31 = .ok (.iconst 2, 1) := by decide +kernel
theorem dX8_take_32 : decode cX8_take 32 = .ok (.iload 4, 2) := by decide +kernel
theorem dX8_take_34 : decode cX8_take 34 = .ok (.iastore, 1) := by decide +kernel
theorem dX8_take_35 : decode cX8_take 35 = .ok (.return_, 1) := by decide +kernel
theorem dX8_layLast_0 : decode cX8_layLast 0 = .ok (.iconst 0, 1) := by decide +kernel
theorem dX8_layLast_1 : decode cX8_layLast 1 = .ok (.istore 4, 2) := by decide +kernel
theorem dX8_layLast_3 : decode cX8_layLast 3 = .ok (.iload 4, 2) := by decide +kernel
theorem dX8_layLast_5 : decode cX8_layLast 5 = .ok (.bipush 99, 2) := by decide +kernel
theorem dX8_layLast_7 : decode cX8_layLast 7 = .ok (.if_icmp .ge 36, 3) := by decide +kernel
theorem dX8_layLast_10 : decode cX8_layLast 10 = .ok (.iload_n 1, 1) := by decide +kernel
theorem dX8_layLast_11 : decode cX8_layLast 11 = .ok (.iconst 2, 1) := by decide +kernel
theorem dX8_layLast_12 : decode cX8_layLast 12 = .ok (.if_icmp .le 31, 3) := by decide +kernel
theorem dX8_layLast_15 : decode cX8_layLast 15 = .ok (.aload_n 0, 1) := by decide +kernel
theorem dX8_layLast_16 : decode cX8_layLast 16 = .ok (.aload_n 0, 1) := by decide +kernel
theorem dX8_layLast_17 : decode cX8_layLast 17 = .ok (.iconst 3, 1) := by decide +kernel
theorem dX8_layLast_18 : decode cX8_layLast 18 = .ok (.iload_n 2, 1) := by decide +kernel
theorem dX8_layLast_19 : decode cX8_layLast 19 = .ok (.iload_n 3, 1) := by decide +kernel
theorem dX8_layLast_20 : decode cX8_layLast 20 = .ok (.iload 4, 2) := by decide +kernel
theorem dX8_layLast_22 : decode cX8_layLast 22 = .ok (.invokevirtual 177, 3) := by decide +kernel
theorem dX8_layLast_25 : decode cX8_layLast 25 = .ok (.iload_n 2, 1) := by decide +kernel
theorem dX8_layLast_26 : decode cX8_layLast 26 = .ok (.iload_n 3, 1) := by decide +kernel
theorem dX8_layLast_27 : decode cX8_layLast 27 = .ok (.iload 4, 2) := by decide +kernel
theorem dX8_layLast_29 : decode cX8_layLast 29 = .ok (.invokevirtual 180, 3) := by decide +kernel
theorem dX8_layLast_32 : decode cX8_layLast 32 = .ok (.aload_n 0, 1) := by decide +kernel
theorem dX8_layLast_33 : decode cX8_layLast 33 = .ok (.iload 4, 2) := by decide +kernel
theorem dX8_layLast_35 : decode cX8_layLast 35 = .ok (.invokevirtual 184, 3) := by decide +kernel
theorem dX8_layLast_38 : decode cX8_layLast 38 = .ok (.istore 4, 2) := by decide +kernel
theorem dX8_layLast_40 : decode cX8_layLast 40 = .ok (.goto (-37), 3) := by decide +kernel
theorem dX8_layLast_43 : decode cX8_layLast 43 = .ok (.aload_n 0, 1) := by decide +kernel
theorem dX8_layLast_44 : decode cX8_layLast 44 = .ok (.aload_n 0, 1) := by decide +kernel
theorem dX8_layLast_45 : decode cX8_layLast 45 = .ok (.iload_n 1, 1) := by decide +kernel
theorem dX8_layLast_46 : decode cX8_layLast 46 = .ok (.iload_n 2, 1) := by decide +kernel
theorem dX8_layLast_47 : decode cX8_layLast 47 = .ok (.iload_n 3, 1) := by decide +kernel
theorem dX8_layLast_48 : decode cX8_layLast 48 = .ok (.bipush 99, 2) := by decide +kernel
theorem dX8_layLast_50 : decode cX8_layLast 50 = .ok (.invokevirtual 177, 3) := by decide +kernel
theorem dX8_layLast_53 : decode cX8_layLast 53 = .ok (.iload_n 2, 1) := by decide +kernel
theorem dX8_layLast_54 : decode cX8_layLast 54 = .ok (.iload_n 3, 1) := by decide +kernel
theorem dX8_layLast_55 : decode cX8_layLast 55 = .ok (.bipush 99, 2) := by decide +kernel
theorem dX8_layLast_57 : decode cX8_layLast 57 = .ok (.invokevirtual 180, 3) := by decide +kernel
theorem dX8_layLast_60 : decode cX8_layLast 60 = .ok (.return_, 1) := by decide +kernel
theorem dX8_laySecond_0 : decode cX8_laySecond 0 = .ok (.iconst 0, 1) := by decide +kernel
theorem dX8_laySecond_1 : decode cX8_laySecond 1 = .ok (.istore_n 3, 1) := by decide +kernel
theorem dX8_laySecond_2 : decode cX8_laySecond 2 = .ok (.iload_n 3, 1) := by decide +kernel
theorem dX8_laySecond_3 : decode cX8_laySecond 3 = .ok (.bipush 99, 2) := by decide +kernel
theorem dX8_laySecond_5 : decode cX8_laySecond 5 = .ok (.if_icmp .ge 36, 3) := by decide +kernel
theorem dX8_laySecond_8 : decode cX8_laySecond 8 = .ok (.iload_n 1, 1) := by decide +kernel
theorem dX8_laySecond_9 : decode cX8_laySecond 9 = .ok (.iconst 1, 1) := by decide +kernel
theorem dX8_laySecond_10 : decode cX8_laySecond 10 = .ok (.if_icmp .le 31, 3) := by decide +kernel
theorem dX8_laySecond_13 : decode cX8_laySecond 13 = .ok (.aload_n 0, 1) := by decide +kernel
theorem dX8_laySecond_14 : decode cX8_laySecond 14 = .ok (.iconst 2, 1) := by decide +kernel
theorem dX8_laySecond_15 : decode cX8_laySecond 15 = .ok (.iload_n 2, 1) := by decide +kernel
theorem dX8_laySecond_16 : decode cX8_laySecond 16 = .ok (.iload_n 3, 1) := by decide +kernel
theorem dX8_laySecond_17 : decode cX8_laySecond 17 = .ok (.bipush 99, 2) := by decide +kernel
theorem dX8_laySecond_19 : decode cX8_laySecond 19 = .ok (.invokevirtual 177, 3) := by decide +kernel
theorem dX8_laySecond_22 : decode cX8_laySecond 22 = .ok (.ifCond .lt 10, 3) := by decide +kernel
theorem dX8_laySecond_25 : decode cX8_laySecond 25 = .ok (.aload_n 0, 1) := by decide +kernel
theorem dX8_laySecond_26 : decode cX8_laySecond 26 = .ok (.iload_n 1, 1) := by decide +kernel
theorem dX8_laySecond_27 : decode cX8_laySecond 27 = .ok (.iload_n 2, 1) := by decide +kernel
theorem dX8_laySecond_28 : decode cX8_laySecond 28 = .ok (.iload_n 3, 1) := by decide +kernel
theorem dX8_laySecond_29 : decode cX8_laySecond 29 = .ok (.invokevirtual 187, 3) := by decide +kernel
theorem dX8_laySecond_32 : decode cX8_laySecond 32 = .ok (.aload_n 0, 1) := by decide +kernel
theorem dX8_laySecond_33 : decode cX8_laySecond 33 = .ok (.iload_n 3, 1) := by decide +kernel
theorem dX8_laySecond_34 : decode cX8_laySecond 34 = .ok (.invokevirtual 184, 3) := by decide +kernel
theorem dX8_laySecond_37 : decode cX8_laySecond 37 = .ok (.istore_n 3, 1) := by decide +kernel
theorem dX8_laySecond_38 : decode cX8_laySecond 38 = .ok (.goto (-36), 3) := by decide +kernel
theorem dX8_laySecond_41 : decode cX8_laySecond 41 = .ok (.aload_n 0, 1) := by decide +kernel
theorem dX8_laySecond_42 : decode cX8_laySecond 42 = .ok (.iload_n 1, 1) := by decide +kernel
theorem dX8_laySecond_43 : decode cX8_laySecond 43 = .ok (.iload_n 2, 1) := by decide +kernel
theorem dX8_laySecond_44 : decode cX8_laySecond 44 = .ok (.bipush 99, 2) := by decide +kernel
theorem dX8_laySecond_46 : decode cX8_laySecond 46 = .ok (.invokevirtual 187, 3) := by decide +kernel
theorem dX8_laySecond_49 : decode cX8_laySecond 49 = .ok (.return_, 1) := by decide +kernel
theorem dX8_layPlan_0 : decode cX8_layPlan 0 = .ok (.aload_n 0, 1) := by decide +kernel
theorem dX8_layPlan_1 : decode cX8_layPlan 1 = .ok (.iconst (-1), 1) := by decide +kernel
theorem dX8_layPlan_2 : decode cX8_layPlan 2 = .ok (.putfield 174, 3) := by decide +kernel
theorem dX8_layPlan_5 : decode cX8_layPlan 5 = .ok (.iconst 0, 1) := by decide +kernel
theorem dX8_layPlan_6 : decode cX8_layPlan 6 = .ok (.istore_n 2, 1) := by decide +kernel
theorem dX8_layPlan_7 : decode cX8_layPlan 7 = .ok (.iload_n 2, 1) := by decide +kernel
theorem dX8_layPlan_8 : decode cX8_layPlan 8 = .ok (.bipush 99, 2) := by decide +kernel
theorem dX8_layPlan_10 : decode cX8_layPlan 10 = .ok (.if_icmp .ge 35, 3) := by decide +kernel
theorem dX8_layPlan_13 : decode cX8_layPlan 13 = .ok (.iload_n 1, 1) := by decide +kernel
theorem dX8_layPlan_14 : decode cX8_layPlan 14 = .ok (.ifCond .le 31, 3) := by decide +kernel
theorem dX8_layPlan_17 : decode cX8_layPlan 17 = .ok (.aload_n 0, 1) := by decide +kernel
theorem dX8_layPlan_18 : decode cX8_layPlan 18 = .ok (.iconst 1, 1) := by decide +kernel
theorem dX8_layPlan_19 : decode cX8_layPlan 19 = .ok (.iload_n 2, 1) := by decide +kernel
theorem dX8_layPlan_20 : decode cX8_layPlan 20 = .ok (.bipush 99, 2) := by decide +kernel
theorem dX8_layPlan_22 : decode cX8_layPlan 22 = .ok (.bipush 99, 2) := by decide +kernel
theorem dX8_layPlan_24 : decode cX8_layPlan 24 = .ok (.invokevirtual 177, 3) := by decide +kernel
theorem dX8_layPlan_27 : decode cX8_layPlan 27 = .ok (.ifCond .lt 9, 3) := by decide +kernel
theorem dX8_layPlan_30 : decode cX8_layPlan 30 = .ok (.aload_n 0, 1) := by decide +kernel
theorem dX8_layPlan_31 : decode cX8_layPlan 31 = .ok (.iload_n 1, 1) := by decide +kernel
theorem dX8_layPlan_32 : decode cX8_layPlan 32 = .ok (.iload_n 2, 1) := by decide +kernel
theorem dX8_layPlan_33 : decode cX8_layPlan 33 = .ok (.invokevirtual 191, 3) := by decide +kernel
theorem dX8_layPlan_36 : decode cX8_layPlan 36 = .ok (.aload_n 0, 1) := by decide +kernel
theorem dX8_layPlan_37 : decode cX8_layPlan 37 = .ok (.iload_n 2, 1) := by decide +kernel
theorem dX8_layPlan_38 : decode cX8_layPlan 38 = .ok (.invokevirtual 184, 3) := by decide +kernel
theorem dX8_layPlan_41 : decode cX8_layPlan 41 = .ok (.istore_n 2, 1) := by decide +kernel
theorem dX8_layPlan_42 : decode cX8_layPlan 42 = .ok (.goto (-35), 3) := by decide +kernel
theorem dX8_layPlan_45 : decode cX8_layPlan 45 = .ok (.aload_n 0, 1) := by decide +kernel
theorem dX8_layPlan_46 : decode cX8_layPlan 46 = .ok (.iload_n 1, 1) := by decide +kernel
theorem dX8_layPlan_47 : decode cX8_layPlan 47 = .ok (.bipush 99, 2) := by decide +kernel
theorem dX8_layPlan_49 : decode cX8_layPlan 49 = .ok (.invokevirtual 191, 3) := by decide +kernel
theorem dX8_layPlan_52 : decode cX8_layPlan 52 = .ok (.return_, 1) := by decide +kernel
theorem dX8_plan_0 : decode cX8_plan 0 = .ok (.iload_n 1, 1) := by decide +kernel
theorem dX8_plan_1 : decode cX8_plan 1 = .ok (.iconst 0, 1) := by decide +kernel
theorem dX8_plan_2 : decode cX8_plan 2 = .ok (.iconst 3, 1) := by decide +kernel
theorem dX8_plan_3 : decode cX8_plan 3 = .ok (.invokestatic 57, 3) := by decide +kernel
theorem dX8_plan_6 : decode cX8_plan 6 = .ok (.ifCond .eq 8, 3) := by decide +kernel
theorem dX8_plan_9 : decode cX8_plan 9 = .ok (.iload_n 2, 1) := by decide +kernel
theorem dX8_plan_10 : decode cX8_plan 10 = .ok (.iconst (-1), 1) := by decide +kernel
theorem dX8_plan_11 : decode cX8_plan 11 = .ok (.if_icmp .ge 5, 3) := by decide +kernel
theorem dX8_plan_14 : decode cX8_plan 14 = .ok (.iconst (-1), 1) := by decide +kernel
theorem dX8_plan_15 : decode cX8_plan 15 = .ok (.ireturn, 1) := by decide +kernel
theorem dX8_plan_16 : decode cX8_plan 16 = .ok (.aload_n 0, 1) := by decide +kernel
theorem dX8_plan_17 : decode cX8_plan 17 = .ok (.invokevirtual 150, 3) := by decide +kernel
theorem dX8_plan_20 : decode cX8_plan 20 = .ok (.ifCond .ne 6, 3) := by decide +kernel
theorem dX8_plan_23 : decode cX8_plan 23 = .ok (.bipush (-2), 2) := by decide +kernel
theorem dX8_plan_25 : decode cX8_plan 25 = .ok (.ireturn, 1) := by decide +kernel
theorem dX8_plan_26 : decode cX8_plan 26 = .ok (.aload_n 0, 1) := by decide +kernel
theorem dX8_plan_27 : decode cX8_plan 27 = .ok (.iload_n 1, 1) := by decide +kernel
theorem dX8_plan_28 : decode cX8_plan 28 = .ok (.invokevirtual 195, 3) := by decide +kernel
theorem dX8_plan_31 : decode cX8_plan 31 = .ok (.iload_n 2, 1) := by decide +kernel
theorem dX8_plan_32 : decode cX8_plan 32 = .ok (.iconst (-1), 1) := by decide +kernel
theorem dX8_plan_33 : decode cX8_plan 33 = .ok (.if_icmp .ne 10, 3) := by decide +kernel
theorem dX8_plan_36 : decode cX8_plan 36 = .ok (.aload_n 0, 1) := by decide +kernel
theorem dX8_plan_37 : decode cX8_plan 37 = .ok (.getfield 174, 3) := by decide +kernel
theorem dX8_plan_40 : decode cX8_plan 40 = .ok (.goto 19, 3) := by decide +kernel
theorem dX8_plan_43 : decode cX8_plan 43 = .ok (.iload_n 2, 1) := by decide +kernel
theorem dX8_plan_44 : decode cX8_plan 44 = .ok (.iload_n 1, 1) := by decide +kernel
theorem dX8_plan_45 : decode cX8_plan 45 = .ok (.if_icmp .ge 12, 3) := by decide +kernel
theorem dX8_plan_48 : decode cX8_plan 48 = .ok (.aload_n 0, 1) := by decide +kernel
theorem dX8_plan_49 : decode cX8_plan 49 = .ok (.getfield 51, 3) := by decide +kernel
theorem dX8_plan_52 : decode cX8_plan 52 = .ok (.iload_n 2, 1) := by decide +kernel
theorem dX8_plan_53 : decode cX8_plan 53 = .ok (.iaload, 1) := by decide +kernel
theorem dX8_plan_54 : decode cX8_plan 54 = .ok (.goto 5, 3) := by decide +kernel
theorem dX8_plan_57 : decode cX8_plan 57 = .ok (.bipush (-4), 2) := by decide +kernel
theorem dX8_plan_59 : decode cX8_plan 59 = .ok (.ireturn, 1) := by decide +kernel
theorem dX8_gusts_0 : decode cX8_gusts 0 = .ok (.iload_n 3, 1) := by decide +kernel
theorem dX8_gusts_1 : decode cX8_gusts 1 = .ok (.iconst 0, 1) := by decide +kernel
theorem dX8_gusts_2 : decode cX8_gusts 2 = .ok (.bipush 10, 2) := by decide +kernel
theorem dX8_gusts_4 : decode cX8_gusts 4 = .ok (.invokestatic 57, 3) := by decide +kernel
theorem dX8_gusts_7 : decode cX8_gusts 7 = .ok (.ifCond .eq 13, 3) := by decide +kernel
theorem dX8_gusts_10 : decode cX8_gusts 10 = .ok (.iload 4, 2) := by decide +kernel
theorem dX8_gusts_12 : decode cX8_gusts 12 = .ok (.iconst 0, 1) := by decide +kernel
theorem dX8_gusts_13 : decode cX8_gusts 13 = .ok (.iconst 1, 1) := by decide +kernel
theorem dX8_gusts_14 : decode cX8_gusts 14 = .ok (.invokestatic 57, 3) := by decide +kernel
theorem dX8_gusts_17 : decode cX8_gusts 17 = .ok (.ifCond .ne 5, 3) := by decide +kernel
theorem dX8_gusts_20 : decode cX8_gusts 20 = .ok (.iconst (-1), 1) := by decide +kernel
theorem dX8_gusts_21 : decode cX8_gusts 21 = .ok (.ireturn, 1) := by decide +kernel
theorem dX8_gusts_22 : decode cX8_gusts 22 = .ok (.aload_n 0, 1) := by decide +kernel
theorem dX8_gusts_23 : decode cX8_gusts 23 = .ok (.iload_n 1, 1) := by decide +kernel
theorem dX8_gusts_24 : decode cX8_gusts 24 = .ok (.iload_n 2, 1) := by decide +kernel
theorem dX8_gusts_25 : decode cX8_gusts 25 = .ok (.invokevirtual 141, 3) := by decide +kernel
theorem dX8_gusts_28 : decode cX8_gusts 28 = .ok (.istore 5, 2) := by decide +kernel
theorem dX8_gusts_30 : decode cX8_gusts 30 = .ok (.iload 5, 2) := by decide +kernel
theorem dX8_gusts_32 : decode cX8_gusts 32 = .ok (.ifCond .eq 6, 3) := by decide +kernel
theorem dX8_gusts_35 : decode cX8_gusts 35 = .ok (.iload 5, 2) := by decide +kernel
theorem dX8_gusts_37 : decode cX8_gusts 37 = .ok (.ireturn, 1) := by decide +kernel
theorem dX8_gusts_38 : decode cX8_gusts 38 = .ok (.iconst 0, 1) := by decide +kernel
theorem dX8_gusts_39 : decode cX8_gusts 39 = .ok (.istore 6, 2) := by decide +kernel
theorem dX8_gusts_41 : decode cX8_gusts 41 = .ok (.iconst 0, 1) := by decide +kernel
theorem dX8_gusts_42 : decode cX8_gusts 42 = .ok (.istore 7, 2) := by decide +kernel
theorem dX8_gusts_44 : decode cX8_gusts 44 = .ok (.iload 7, 2) := by decide +kernel
theorem dX8_gusts_46 : decode cX8_gusts 46 = .ok (.bipush 8, 2) := by decide +kernel
theorem dX8_gusts_48 : decode cX8_gusts 48 = .ok (.if_icmp .ge 107, 3) := by decide +kernel
theorem dX8_gusts_51 : decode cX8_gusts 51 = .ok (.iconst 1, 1) := by decide +kernel
theorem dX8_gusts_52 : decode cX8_gusts 52 = .ok (.istore 8, 2) := by decide +kernel
theorem dX8_gusts_54 : decode cX8_gusts 54 = .ok (.iconst 0, 1) := by decide +kernel
theorem dX8_gusts_55 : decode cX8_gusts 55 = .ok (.istore 9, 2) := by decide +kernel
theorem dX8_gusts_57 : decode cX8_gusts 57 = .ok (.iconst 0, 1) := by decide +kernel
theorem dX8_gusts_58 : decode cX8_gusts 58 = .ok (.istore 10, 2) := by decide +kernel
theorem dX8_gusts_60 : decode cX8_gusts 60 = .ok (.iload 10, 2) := by decide +kernel
theorem dX8_gusts_62 : decode cX8_gusts 62 = .ok (.iconst 3, 1) := by decide +kernel
theorem dX8_gusts_63 : decode cX8_gusts 63 = .ok (.if_icmp .ge 52, 3) := by decide +kernel
theorem dX8_gusts_66 : decode cX8_gusts 66 = .ok (.iload 8, 2) := by decide +kernel
theorem dX8_gusts_68 : decode cX8_gusts 68 = .ok (.iload 7, 2) := by decide +kernel
theorem dX8_gusts_70 : decode cX8_gusts 70 = .ok (.iload 10, 2) := by decide +kernel
theorem dX8_gusts_72 : decode cX8_gusts 72 = .ok (.invokestatic 156, 3) := by decide +kernel
theorem dX8_gusts_75 : decode cX8_gusts 75 = .ok (.ifCond .eq 7, 3) := by decide +kernel
theorem dX8_gusts_78 : decode cX8_gusts 78 = .ok (.iload_n 3, 1) := by decide +kernel
theorem dX8_gusts_79 : decode cX8_gusts 79 = .ok (.goto 7, 3) := by decide +kernel
theorem dX8_gusts_82 : decode cX8_gusts 82 = .ok (.bipush 10, 2) := by decide +kernel
theorem dX8_gusts_84 : decode cX8_gusts 84 = .ok (.iload_n 3, 1) := by decide +kernel
theorem dX8_gusts_85 : decode cX8_gusts 85 = .ok (.isub, 1) := by decide +kernel
theorem dX8_gusts_86 : decode cX8_gusts 86 = .ok (.imul, 1) := by decide +kernel
theorem dX8_gusts_87 : decode cX8_gusts 87 = .ok (.istore 8, 2) := by decide +kernel
theorem dX8_gusts_89 : decode cX8_gusts 89 = .ok (.iload 9, 2) := by decide +kernel
theorem dX8_gusts_91 : decode cX8_gusts 91 = .ok (.iload 7, 2) := by decide +kernel
theorem dX8_gusts_93 : decode cX8_gusts 93 = .ok (.iload 10, 2) := by decide +kernel
theorem dX8_gusts_95 : decode cX8_gusts 95 = .ok (.invokestatic 156, 3) := by decide +kernel
theorem dX8_gusts_98 : decode cX8_gusts 98 = .ok (.ifCond .eq 7, 3) := by decide +kernel
theorem dX8_gusts_101 : decode cX8_gusts 101 = .ok (.iconst 1, 1) := by decide +kernel
theorem dX8_gusts_102 : decode cX8_gusts 102 = .ok (.goto 4, 3) := by decide +kernel
theorem dX8_gusts_105 : decode cX8_gusts 105 = .ok (.iconst 0, 1) := by decide +kernel
theorem dX8_gusts_106 : decode cX8_gusts 106 = .ok (.iadd, 1) := by decide +kernel
theorem dX8_gusts_107 : decode cX8_gusts 107 = .ok (.istore 9, 2) := by decide +kernel
theorem dX8_gusts_109 : decode cX8_gusts 109 = .ok (.iinc 10 1, 3) := by decide +kernel
theorem dX8_gusts_112 : decode cX8_gusts 112 = .ok (.goto (-52), 3) := by decide +kernel
theorem dX8_gusts_115 : decode cX8_gusts 115 = .ok (.iload 6, 2) := by decide +kernel
theorem dX8_gusts_117 : decode cX8_gusts 117 = .ok (.aload_n 0, 1) := by decide +kernel
theorem dX8_gusts_118 : decode cX8_gusts 118 = .ok (.getfield 23, 3) := by decide +kernel
theorem dX8_gusts_121 : decode cX8_gusts 121 = .ok (.iload_n 1, 1) := by decide +kernel
theorem dX8_gusts_122 : decode cX8_gusts 122 = .ok (.iload_n 2, 1) := by decide +kernel
theorem dX8_gusts_123 : decode cX8_gusts 123 = .ok (.invokestatic 127, 3) := by decide +kernel
theorem dX8_gusts_126 : decode cX8_gusts 126 = .ok (.iload 9, 2) := by decide +kernel
theorem dX8_gusts_128 : decode cX8_gusts 128 = .ok (.isub, 1) := by decide +kernel
theorem dX8_gusts_129 : decode cX8_gusts 129 = .ok (.aload_n 0, 1) := by decide +kernel
theorem dX8_gusts_130 : decode cX8_gusts 130 = .ok (.getfield 23, 3) := by decide +kernel
theorem dX8_gusts_133 : decode cX8_gusts 133 = .ok (.iload_n 1, 1) := by decide +kernel
theorem dX8_gusts_134 : decode cX8_gusts 134 = .ok (.invokestatic 111, 3) := by decide +kernel
theorem dX8_gusts_137 : decode cX8_gusts 137 = .ok (.if_icmp .lt 8, 3) := by decide +kernel
theorem dX8_gusts_140 : decode cX8_gusts 140 = .ok (.iload 8, 2) := by decide +kernel
theorem dX8_gusts_142 : decode cX8_gusts 142 = .ok (.goto 4, 3) := by decide +kernel
theorem dX8_gusts_145 : decode cX8_gusts 145 = .ok (.iconst 0, 1) := by decide +kernel
theorem dX8_gusts_146 : decode cX8_gusts 146 = .ok (.iadd, 1) := by decide +kernel
theorem dX8_gusts_147 : decode cX8_gusts 147 = .ok (.istore 6, 2) := by decide +kernel
theorem dX8_gusts_149 : decode cX8_gusts 149 = .ok (.iinc 7 1, 3) := by decide +kernel
theorem dX8_gusts_152 : decode cX8_gusts 152 = .ok (.goto (-108), 3) := by decide +kernel
theorem dX8_gusts_155 : decode cX8_gusts 155 = .ok (.iload 6, 2) := by decide +kernel
theorem dX8_gusts_157 : decode cX8_gusts 157 = .ok (.istore 7, 2) := by decide +kernel
theorem dX8_gusts_159 : decode cX8_gusts 159 = .ok (.sipush 1000, 3) := by decide +kernel
theorem dX8_gusts_162 : decode cX8_gusts 162 = .ok (.istore 8, 2) := by decide +kernel
theorem dX8_gusts_164 : decode cX8_gusts 164 = .ok (.iload 8, 2) := by decide +kernel
theorem dX8_gusts_166 : decode cX8_gusts 166 = .ok (.ifCond .le 21, 3) := by decide +kernel
theorem dX8_gusts_169 : decode cX8_gusts 169 = .ok (.iload 7, 2) := by decide +kernel
theorem dX8_gusts_171 : decode cX8_gusts 171 = .ok (.iload 8, 2) := by decide +kernel
theorem dX8_gusts_173 : decode cX8_gusts 173 = .ok (.irem, 1) := by decide +kernel
theorem dX8_gusts_174 : decode cX8_gusts 174 = .ok (.istore 9, 2) := by decide +kernel
theorem dX8_gusts_176 : decode cX8_gusts 176 = .ok (.iload 8, 2) := by decide +kernel
theorem dX8_gusts_178 : decode cX8_gusts 178 = .ok (.istore 7, 2) := by decide +kernel
theorem dX8_gusts_180 : decode cX8_gusts 180 = .ok (.iload 9, 2) := by decide +kernel
theorem dX8_gusts_182 : decode cX8_gusts 182 = .ok (.istore 8, 2) := by decide +kernel
theorem dX8_gusts_184 : decode cX8_gusts 184 = .ok (.goto (-20), 3) := by decide +kernel
theorem dX8_gusts_187 : decode cX8_gusts 187 = .ok (.iload 4, 2) := by decide +kernel
theorem dX8_gusts_189 : decode cX8_gusts 189 = .ok (.ifCond .ne 8, 3) := by decide +kernel
theorem dX8_gusts_192 : decode cX8_gusts 192 = .ok (.iload 6, 2) := by decide +kernel
theorem dX8_gusts_194 : decode cX8_gusts 194 = .ok (.goto 6, 3) := by decide +kernel
theorem dX8_gusts_197 : decode cX8_gusts 197 = .ok (.sipush 1000, 3) := by decide +kernel
theorem dX8_gusts_200 : decode cX8_gusts 200 = .ok (.iload 7, 2) := by decide +kernel
theorem dX8_gusts_202 : decode cX8_gusts 202 = .ok (.idiv, 1) := by decide +kernel
theorem dX8_gusts_203 : decode cX8_gusts 203 = .ok (.ireturn, 1) := by decide +kernel
theorem dX8_forgivenOnes_0 : decode cX8_forgivenOnes 0 = .ok (.iconst 0, 1) := by decide +kernel
theorem dX8_forgivenOnes_1 : decode cX8_forgivenOnes 1 = .ok (.istore_n 1, 1) := by decide +kernel
theorem dX8_forgivenOnes_2 : decode cX8_forgivenOnes 2 = .ok (.iconst 0, 1) := by decide +kernel
theorem dX8_forgivenOnes_3 : decode cX8_forgivenOnes 3 = .ok (.istore_n 2, 1) := by decide +kernel
theorem dX8_forgivenOnes_4 : decode cX8_forgivenOnes 4 = .ok (.iload_n 2, 1) := by decide +kernel
theorem dX8_forgivenOnes_5 : decode cX8_forgivenOnes 5 = .ok (.aload_n 0, 1) := by decide +kernel
theorem dX8_forgivenOnes_6 : decode cX8_forgivenOnes 6 = .ok (.iconst 2, 1) := by decide +kernel
theorem dX8_forgivenOnes_7 : decode cX8_forgivenOnes 7 = .ok (.iaload, 1) := by decide +kernel
theorem dX8_forgivenOnes_8 : decode cX8_forgivenOnes 8 = .ok (.if_icmp .ge 28, 3) := by decide +kernel
theorem dX8_forgivenOnes_11 : decode cX8_forgivenOnes 11 = .ok (.iload_n 1, 1) := by decide +kernel
theorem dX8_forgivenOnes_12 : decode cX8_forgivenOnes 12 = .ok (.aload_n 0, 1) := by decide +kernel
theorem dX8_forgivenOnes_13 : decode cX8_forgivenOnes 13 = .ok (.bipush 75, 2) := by decide +kernel
theorem dX8_forgivenOnes_15 : decode cX8_forgivenOnes 15 = .ok (.iload_n 2, 1) := by decide +kernel
theorem dX8_forgivenOnes_16 : decode cX8_forgivenOnes 16 = .ok (.iadd, 1) := by decide +kernel
theorem dX8_forgivenOnes_17 : decode cX8_forgivenOnes 17 = .ok (.iaload, 1) := by decide +kernel
theorem dX8_forgivenOnes_18 : decode cX8_forgivenOnes 18 = .ok (.bipush (-4), 2) := by decide +kernel
theorem dX8_forgivenOnes_20 : decode cX8_forgivenOnes 20 = .ok (.if_icmp .ne 7, 3) := by decide +kernel
theorem dX8_forgivenOnes_23 : decode cX8_forgivenOnes 23 = .ok (.iconst 0, 1) := by decide +kernel
theorem dX8_forgivenOnes_24 : decode cX8_forgivenOnes 24 = .ok (.goto 4, 3) := by decide +kernel
theorem dX8_forgivenOnes_27 : decode cX8_forgivenOnes 27 = .ok (.iconst 1, 1) := by decide +kernel
theorem dX8_forgivenOnes_28 : decode cX8_forgivenOnes 28 = .ok (.iadd, 1) := by decide +kernel
theorem dX8_forgivenOnes_29 : decode cX8_forgivenOnes 29 = .ok (.istore_n 1, 1) := by decide +kernel
theorem dX8_forgivenOnes_30 : decode cX8_forgivenOnes 30 = .ok (.iinc 2 1, 3) := by decide +kernel
theorem dX8_forgivenOnes_33 : decode cX8_forgivenOnes 33 = .ok (.goto (-29), 3) := by decide +kernel
theorem dX8_forgivenOnes_36 : decode cX8_forgivenOnes 36 = .ok (.iload_n 1, 1) := by decide +kernel
theorem dX8_forgivenOnes_37 : decode cX8_forgivenOnes 37 = .ok (.ireturn, 1) := by decide +kernel
theorem dX8_wonOnes_0 : decode cX8_wonOnes 0 = .ok (.iconst 0, 1) := by decide +kernel
theorem dX8_wonOnes_1 : decode cX8_wonOnes 1 = .ok (.istore_n 1, 1) := by decide +kernel
theorem dX8_wonOnes_2 : decode cX8_wonOnes 2 = .ok (.iconst 0, 1) := by decide +kernel
theorem dX8_wonOnes_3 : decode cX8_wonOnes 3 = .ok (.istore_n 2, 1) := by decide +kernel
theorem dX8_wonOnes_4 : decode cX8_wonOnes 4 = .ok (.iload_n 2, 1) := by decide +kernel
theorem dX8_wonOnes_5 : decode cX8_wonOnes 5 = .ok (.aload_n 0, 1) := by decide +kernel
theorem dX8_wonOnes_6 : decode cX8_wonOnes 6 = .ok (.iconst 1, 1) := by decide +kernel
theorem dX8_wonOnes_7 : decode cX8_wonOnes 7 = .ok (.iaload, 1) := by decide +kernel
theorem dX8_wonOnes_8 : decode cX8_wonOnes 8 = .ok (.if_icmp .ge 30, 3) := by decide +kernel
theorem dX8_wonOnes_11 : decode cX8_wonOnes 11 = .ok (.iload_n 1, 1) := by decide +kernel
theorem dX8_wonOnes_12 : decode cX8_wonOnes 12 = .ok (.aload_n 0, 1) := by decide +kernel
theorem dX8_wonOnes_13 : decode cX8_wonOnes 13 = .ok (.bipush 45, 2) := by decide +kernel
theorem dX8_wonOnes_15 : decode cX8_wonOnes 15 = .ok (.iload_n 2, 1) := by decide +kernel
theorem dX8_wonOnes_16 : decode cX8_wonOnes 16 = .ok (.iadd, 1) := by decide +kernel
theorem dX8_wonOnes_17 : decode cX8_wonOnes 17 = .ok (.iaload, 1) := by decide +kernel
theorem dX8_wonOnes_18 : decode cX8_wonOnes 18 = .ok (.bipush (-4), 2) := by decide +kernel
theorem dX8_wonOnes_20 : decode cX8_wonOnes 20 = .ok (.if_icmp .ne 7, 3) := by decide +kernel
theorem dX8_wonOnes_23 : decode cX8_wonOnes 23 = .ok (.iconst 0, 1) := by decide +kernel
theorem dX8_wonOnes_24 : decode cX8_wonOnes 24 = .ok (.goto 6, 3) := by decide +kernel
theorem dX8_wonOnes_27 : decode cX8_wonOnes 27 = .ok (.iconst 1, 1) := by decide +kernel
theorem dX8_wonOnes_28 : decode cX8_wonOnes 28 = .ok (.iload_n 2, 1) := by decide +kernel
theorem dX8_wonOnes_29 : decode cX8_wonOnes 29 = .ok (.ishl, 1) := by decide +kernel
theorem dX8_wonOnes_30 : decode cX8_wonOnes 30 = .ok (.ior, 1) := by decide +kernel
theorem dX8_wonOnes_31 : decode cX8_wonOnes 31 = .ok (.istore_n 1, 1) := by decide +kernel
theorem dX8_wonOnes_32 : decode cX8_wonOnes 32 = .ok (.iinc 2 1, 3) := by decide +kernel
theorem dX8_wonOnes_35 : decode cX8_wonOnes 35 = .ok (.goto (-31), 3) := by decide +kernel
theorem dX8_wonOnes_38 : decode cX8_wonOnes 38 = .ok (.iload_n 1, 1) := by decide +kernel
theorem dX8_wonOnes_39 : decode cX8_wonOnes 39 = .ok (.ireturn, 1) := by decide +kernel
theorem dX8_decades_0 : decode cX8_decades 0 = .ok (.iload_n 1, 1) := by decide +kernel
theorem dX8_decades_1 : decode cX8_decades 1 = .ok (.iconst 0, 1) := by decide +kernel
theorem dX8_decades_2 : decode cX8_decades 2 = .ok (.bipush 60, 2) := by decide +kernel
theorem dX8_decades_4 : decode cX8_decades 4 = .ok (.invokestatic 57, 3) := by decide +kernel
theorem dX8_decades_7 : decode cX8_decades 7 = .ok (.ifCond .eq 22, 3) := by decide +kernel
theorem dX8_decades_10 : decode cX8_decades 10 = .ok (.iload_n 2, 1) := by decide +kernel
theorem dX8_decades_11 : decode cX8_decades 11 = .ok (.iconst 1, 1) := by decide +kernel
theorem dX8_decades_12 : decode cX8_decades 12 = .ok (.ldc 199, 2) := by decide +kernel
theorem dX8_decades_14 : decode cX8_decades 14 = .ok (.invokestatic 57, 3) := by decide +kernel
theorem dX8_decades_17 : decode cX8_decades 17 = .ok (.ifCond .eq 12, 3) := by decide +kernel
theorem dX8_decades_20 : decode cX8_decades 20 = .ok (.iload_n 3, 1) := by decide +kernel
theorem dX8_decades_21 : decode cX8_decades 21 = .ok (.iconst 0, 1) := by decide +kernel
theorem dX8_decades_22 : decode cX8_decades 22 = .ok (.iconst 1, 1) := by decide +kernel
theorem dX8_decades_23 : decode cX8_decades 23 = .ok (.invokestatic 57, 3) := by decide +kernel
theorem dX8_decades_26 : decode cX8_decades 26 = .ok (.ifCond .ne 5, 3) := by decide +kernel
theorem dX8_decades_29 : decode cX8_decades 29 = .ok (.iconst (-1), 1) := by decide +kernel
theorem dX8_decades_30 : decode cX8_decades 30 = .ok (.ireturn, 1) := by decide +kernel
theorem dX8_decades_31 : decode cX8_decades 31 = .ok (.aload_n 0, 1) := by decide +kernel
theorem dX8_decades_32 : decode cX8_decades 32 = .ok (.invokevirtual 150, 3) := by decide +kernel
theorem dX8_decades_35 : decode cX8_decades 35 = .ok (.ifCond .ne 6, 3) := by decide +kernel
theorem dX8_decades_38 : decode cX8_decades 38 = .ok (.bipush (-2), 2) := by decide +kernel
theorem dX8_decades_40 : decode cX8_decades 40 = .ok (.ireturn, 1) := by decide +kernel
theorem dX8_decades_41 : decode cX8_decades 41 = .ok (.aload_n 0, 1) := by decide +kernel
theorem dX8_decades_42 : decode cX8_decades 42 = .ok (.invokevirtual 153, 3) := by decide +kernel
theorem dX8_decades_45 : decode cX8_decades 45 = .ok (.iload_n 2, 1) := by decide +kernel
theorem dX8_decades_46 : decode cX8_decades 46 = .ok (.i2l, 1) := by decide +kernel
theorem dX8_decades_47 : decode cX8_decades 47 = .ok (.lstore 4, 2) := by decide +kernel
theorem dX8_decades_49 : decode cX8_decades 49 = .ok (.iconst 0, 1) := by decide +kernel
theorem dX8_decades_50 : decode cX8_decades 50 = .ok (.istore 6, 2) := by decide +kernel
theorem dX8_decades_52 : decode cX8_decades 52 = .ok (.iload 6, 2) := by decide +kernel
theorem dX8_decades_54 : decode cX8_decades 54 = .ok (.iload_n 1, 1) := by decide +kernel
theorem dX8_decades_55 : decode cX8_decades 55 = .ok (.if_icmp .ge 90, 3) := by decide +kernel
theorem dX8_decades_58 : decode cX8_decades 58 = .ok (.lload 4, 2) := by decide +kernel
theorem dX8_decades_60 : decode cX8_decades 60 = .ok (.ldc2_w 200, 3) := by decide +kernel
theorem dX8_decades_63 : decode cX8_decades 63 = .ok (.lmul, 1) := by decide +kernel
theorem dX8_decades_64 : decode cX8_decades 64 = .ok (.ldc2_w 202, 3) := by decide +kernel
theorem dX8_decades_67 : decode cX8_decades 67 = .ok (.lrem, 1) := by decide +kernel
theorem dX8_decades_68 : decode cX8_decades 68 = .ok (.lstore 4, 2) := by decide +kernel
theorem dX8_decades_70 : decode cX8_decades 70 = .ok (.lload 4, 2) := by decide +kernel
theorem dX8_decades_72 : decode cX8_decades 72 = .ok (.aload_n 0, 1) := by decide +kernel
theorem dX8_decades_73 : decode cX8_decades 73 = .ok (.getfield 29, 3) := by decide +kernel
theorem dX8_decades_76 : decode cX8_decades 76 = .ok (.iconst 2, 1) := by decide +kernel
theorem dX8_decades_77 : decode cX8_decades 77 = .ok (.iaload, 1) := by decide +kernel
theorem dX8_decades_78 : decode cX8_decades 78 = .ok (.i2l, 1) := by decide +kernel
theorem dX8_decades_79 : decode cX8_decades 79 = .ok (.lrem, 1) := by decide +kernel
theorem dX8_decades_80 : decode cX8_decades 80 = .ok (.l2i, 1) := by decide +kernel
theorem dX8_decades_81 : decode cX8_decades 81 = .ok (.istore 7, 2) := by decide +kernel
theorem dX8_decades_83 : decode cX8_decades 83 = .ok (.lload 4, 2) := by decide +kernel
theorem dX8_decades_85 : decode cX8_decades 85 = .ok (.ldc2_w 204, 3) := by decide +kernel
theorem dX8_decades_88 : decode cX8_decades 88 = .ok (.ldiv, 1) := by decide +kernel
theorem dX8_decades_89 : decode cX8_decades 89 = .ok (.aload_n 0, 1) := by decide +kernel
theorem dX8_decades_90 : decode cX8_decades 90 = .ok (.getfield 29, 3) := by decide +kernel
theorem dX8_decades_93 : decode cX8_decades 93 = .ok (.iconst 1, 1) := by decide +kernel
theorem dX8_decades_94 : decode cX8_decades 94 = .ok (.iaload, 1) := by decide +kernel
theorem dX8_decades_95 : decode cX8_decades 95 = .ok (.i2l, 1) := by decide +kernel
theorem dX8_decades_96 : decode cX8_decades 96 = .ok (.lrem, 1) := by decide +kernel
theorem dX8_decades_97 : decode cX8_decades 97 = .ok (.l2i, 1) := by decide +kernel
theorem dX8_decades_98 : decode cX8_decades 98 = .ok (.istore 8, 2) := by decide +kernel
theorem dX8_decades_100 : decode cX8_decades 100 = .ok (.aload_n 0, 1) := by decide +kernel
theorem dX8_decades_101 : decode cX8_decades 101 = .ok (.getfield 29, 3) := by decide +kernel
theorem dX8_decades_104 : decode cX8_decades 104 = .ok (.iload 7, 2) := by decide +kernel
theorem dX8_decades_106 : decode cX8_decades 106 = .ok (.iload 8, 2) := by decide +kernel
theorem dX8_decades_108 : decode cX8_decades 108 = .ok (.invokestatic 137, 3) := by decide +kernel
theorem dX8_decades_111 : decode cX8_decades 111 = .ok (.ifCond .eq 18, 3) := by decide +kernel
theorem dX8_decades_114 : decode cX8_decades 114 = .ok (.aload_n 0, 1) := by decide +kernel
theorem dX8_decades_115 : decode cX8_decades 115 = .ok (.getfield 29, 3) := by decide +kernel
theorem dX8_decades_118 : decode cX8_decades 118 = .ok (.iload 7, 2) := by decide +kernel
theorem dX8_decades_120 : decode cX8_decades 120 = .ok (.iload 8, 2) := by decide +kernel
theorem dX8_decades_122 : decode cX8_decades 122 = .ok (.invokestatic 147, 3) := by decide +kernel
theorem dX8_decades_125 : decode cX8_decades 125 = .ok (.pop, 1) := by decide +kernel
theorem dX8_decades_126 : decode cX8_decades 126 = .ok (.goto 13, 3) := by decide +kernel
theorem dX8_decades_129 : decode cX8_decades 129 = .ok (.aload_n 0, 1) := by decide +kernel
theorem dX8_decades_130 : decode cX8_decades 130 = .ok (.getfield 29, 3) := by decide +kernel
theorem dX8_decades_133 : decode cX8_decades 133 = .ok (.iconst 0, 1) := by decide +kernel
theorem dX8_decades_134 : decode cX8_decades 134 = .ok (.dup2, 1) := by decide +kernel
theorem dX8_decades_135 : decode cX8_decades 135 = .ok (.iaload, 1) := by decide +kernel
theorem dX8_decades_136 : decode cX8_decades 136 = .ok (.iconst 1, 1) := by decide +kernel
theorem dX8_decades_137 : decode cX8_decades 137 = .ok (.iadd, 1) := by decide +kernel
theorem dX8_decades_138 : decode cX8_decades 138 = .ok (.iastore, 1) := by decide +kernel
theorem dX8_decades_139 : decode cX8_decades 139 = .ok (.iinc 6 1, 3) := by decide +kernel
theorem dX8_decades_142 : decode cX8_decades 142 = .ok (.goto (-90), 3) := by decide +kernel
theorem dX8_decades_145 : decode cX8_decades 145 = .ok (.iload_n 3, 1) := by decide +kernel
theorem dX8_decades_146 : decode cX8_decades 146 = .ok (.ifCond .ne 13, 3) := by decide +kernel
theorem dX8_decades_149 : decode cX8_decades 149 = .ok (.aload_n 0, 1) := by decide +kernel
theorem dX8_decades_150 : decode cX8_decades 150 = .ok (.getfield 29, 3) := by decide +kernel
theorem dX8_decades_153 : decode cX8_decades 153 = .ok (.invokestatic 206, 3) := by decide +kernel
theorem dX8_decades_156 : decode cX8_decades 156 = .ok (.goto 10, 3) := by decide +kernel
theorem dX8_decades_159 : decode cX8_decades 159 = .ok (.aload_n 0, 1) := by decide +kernel
theorem dX8_decades_160 : decode cX8_decades 160 = .ok (.getfield 29, 3) := by decide +kernel
theorem dX8_decades_163 : decode cX8_decades 163 = .ok (.invokestatic 210, 3) := by decide +kernel
theorem dX8_decades_166 : decode cX8_decades 166 = .ok (.ireturn, 1) := by decide +kernel
theorem dX8_isSheet_0 : decode cX8_isSheet 0 = .ok (.iload_n 0, 1) := by decide +kernel
theorem dX8_isSheet_1 : decode cX8_isSheet 1 = .ok (.iconst 0, 1) := by decide +kernel
theorem dX8_isSheet_2 : decode cX8_isSheet 2 = .ok (.iconst 3, 1) := by decide +kernel
theorem dX8_isSheet_3 : decode cX8_isSheet 3 = .ok (.invokestatic 57, 3) := by decide +kernel
theorem dX8_isSheet_6 : decode cX8_isSheet 6 = .ok (.ireturn, 1) := by decide +kernel
theorem dX8_isPart_0 : decode cX8_isPart 0 = .ok (.iload_n 1, 1) := by decide +kernel
theorem dX8_isPart_1 : decode cX8_isPart 1 = .ok (.ifCond .lt 23, 3) := by decide +kernel
theorem dX8_isPart_4 : decode cX8_isPart 4 = .ok (.iload_n 0, 1) := by decide +kernel
theorem dX8_isPart_5 : decode cX8_isPart 5 = .ok (.ifCond .lt 19, 3) := by decide +kernel
theorem dX8_isPart_8 : decode cX8_isPart 8 = .ok (.iload_n 1, 1) := by decide +kernel
theorem dX8_isPart_9 : decode cX8_isPart 9 = .ok (.iload_n 2, 1) := by decide +kernel
theorem dX8_isPart_10 : decode cX8_isPart 10 = .ok (.if_icmp .gt 14, 3) := by decide +kernel
theorem dX8_isPart_13 : decode cX8_isPart 13 = .ok (.iload_n 0, 1) := by decide +kernel
theorem dX8_isPart_14 : decode cX8_isPart 14 = .ok (.iload_n 2, 1) := by decide +kernel
theorem dX8_isPart_15 : decode cX8_isPart 15 = .ok (.iload_n 1, 1) := by decide +kernel
theorem dX8_isPart_16 : decode cX8_isPart 16 = .ok (.isub, 1) := by decide +kernel
theorem dX8_isPart_17 : decode cX8_isPart 17 = .ok (.if_icmp .gt 7, 3) := by decide +kernel
theorem dX8_isPart_20 : decode cX8_isPart 20 = .ok (.iconst 1, 1) := by decide +kernel
theorem dX8_isPart_21 : decode cX8_isPart 21 = .ok (.goto 4, 3) := by decide +kernel
theorem dX8_isPart_24 : decode cX8_isPart 24 = .ok (.iconst 0, 1) := by decide +kernel
theorem dX8_isPart_25 : decode cX8_isPart 25 = .ok (.ireturn, 1) := by decide +kernel
theorem dX8_badRow_0 : decode cX8_badRow 0 = .ok (.aload_n 0, 1) := by decide +kernel
theorem dX8_badRow_1 : decode cX8_badRow 1 = .ok (.getfield 7, 3) := by decide +kernel
theorem dX8_badRow_4 : decode cX8_badRow 4 = .ok (.iload_n 1, 1) := by decide +kernel
theorem dX8_badRow_5 : decode cX8_badRow 5 = .ok (.iaload, 1) := by decide +kernel
theorem dX8_badRow_6 : decode cX8_badRow 6 = .ok (.ifCond .ge 8, 3) := by decide +kernel
theorem dX8_badRow_9 : decode cX8_badRow 9 = .ok (.bipush (-11), 2) := by decide +kernel
theorem dX8_badRow_11 : decode cX8_badRow 11 = .ok (.goto 39, 3) := by decide +kernel
theorem dX8_badRow_14 : decode cX8_badRow 14 = .ok (.aload_n 0, 1) := by decide +kernel
theorem dX8_badRow_15 : decode cX8_badRow 15 = .ok (.getfield 7, 3) := by decide +kernel
theorem dX8_badRow_18 : decode cX8_badRow 18 = .ok (.iload_n 1, 1) := by decide +kernel
theorem dX8_badRow_19 : decode cX8_badRow 19 = .ok (.iaload, 1) := by decide +kernel
theorem dX8_badRow_20 : decode cX8_badRow 20 = .ok (.iload_n 2, 1) := by decide +kernel
theorem dX8_badRow_21 : decode cX8_badRow 21 = .ok (.if_icmp .eq 8, 3) := by decide +kernel
theorem dX8_badRow_24 : decode cX8_badRow 24 = .ok (.bipush (-12), 2) := by decide +kernel
theorem dX8_badRow_26 : decode cX8_badRow 26 = .ok (.goto 24, 3) := by decide +kernel
theorem dX8_badRow_29 : decode cX8_badRow 29 = .ok (.iload_n 3, 1) := by decide +kernel
theorem dX8_badRow_30 : decode cX8_badRow 30 = .ok (.iload 4, 2) := by decide +kernel
theorem dX8_badRow_32 : decode cX8_badRow 32 = .ok (.aload_n 0, 1) := by decide +kernel
theorem dX8_badRow_33 : decode cX8_badRow 33 = .ok (.getfield 13, 3) := by decide +kernel
theorem dX8_badRow_36 : decode cX8_badRow 36 = .ok (.iload_n 1, 1) := by decide +kernel
theorem dX8_badRow_37 : decode cX8_badRow 37 = .ok (.iaload, 1) := by decide +kernel
theorem dX8_badRow_38 : decode cX8_badRow 38 = .ok (.invokestatic 213, 3) := by decide +kernel
theorem dX8_badRow_41 : decode cX8_badRow 41 = .ok (.ifCond .eq 7, 3) := by decide +kernel
theorem dX8_badRow_44 : decode cX8_badRow 44 = .ok (.iconst 0, 1) := by decide +kernel
theorem dX8_badRow_45 : decode cX8_badRow 45 = .ok (.goto 5, 3) := by decide +kernel
theorem dX8_badRow_48 : decode cX8_badRow 48 = .ok (.bipush (-13), 2) := by decide +kernel
theorem dX8_badRow_50 : decode cX8_badRow 50 = .ok (.ireturn, 1) := by decide +kernel
theorem dX8_sheet_0 : decode cX8_sheet 0 = .ok (.iload_n 1, 1) := by decide +kernel
theorem dX8_sheet_1 : decode cX8_sheet 1 = .ok (.invokestatic 216, 3) := by decide +kernel
theorem dX8_sheet_4 : decode cX8_sheet 4 = .ok (.ifCond .eq 18, 3) := by decide +kernel
theorem dX8_sheet_7 : decode cX8_sheet 7 = .ok (.iload_n 2, 1) := by decide +kernel
theorem dX8_sheet_8 : decode cX8_sheet 8 = .ok (.iconst 0, 1) := by decide +kernel
theorem dX8_sheet_9 : decode cX8_sheet 9 = .ok (.iconst 3, 1) := by decide +kernel
theorem dX8_sheet_10 : decode cX8_sheet 10 = .ok (.invokestatic 57, 3) := by decide +kernel
theorem dX8_sheet_13 : decode cX8_sheet 13 = .ok (.ifCond .eq 9, 3) := by decide +kernel
theorem dX8_sheet_16 : decode cX8_sheet 16 = .ok (.iload_n 3, 1) := by decide +kernel
theorem dX8_sheet_17 : decode cX8_sheet 17 = .ok (.bipush 24, 2) := by decide +kernel
theorem dX8_sheet_19 : decode cX8_sheet 19 = .ok (.if_icmp .le 5, 3) := by decide +kernel
theorem dX8_sheet_22 : decode cX8_sheet 22 = .ok (.iconst (-1), 1) := by decide +kernel
theorem dX8_sheet_23 : decode cX8_sheet 23 = .ok (.ireturn, 1) := by decide +kernel
theorem dX8_sheet_24 : decode cX8_sheet 24 = .ok (.iload_n 3, 1) := by decide +kernel
theorem dX8_sheet_25 : decode cX8_sheet 25 = .ok (.ifCond .ge 6, 3) := by decide +kernel
theorem dX8_sheet_28 : decode cX8_sheet 28 = .ok (.bipush (-14), 2) := by decide +kernel
theorem dX8_sheet_30 : decode cX8_sheet 30 = .ok (.ireturn, 1) := by decide +kernel
theorem dX8_sheet_31 : decode cX8_sheet 31 = .ok (.aload_n 0, 1) := by decide +kernel
theorem dX8_sheet_32 : decode cX8_sheet 32 = .ok (.getfield 7, 3) := by decide +kernel
theorem dX8_sheet_35 : decode cX8_sheet 35 = .ok (.iload_n 1, 1) := by decide +kernel
theorem dX8_sheet_36 : decode cX8_sheet 36 = .ok (.iload_n 2, 1) := by decide +kernel
theorem dX8_sheet_37 : decode cX8_sheet 37 = .ok (.iastore, 1) := by decide +kernel
theorem dX8_sheet_38 : decode cX8_sheet 38 = .ok (.aload_n 0, 1) := by decide +kernel
theorem dX8_sheet_39 : decode cX8_sheet 39 = .ok (.getfield 13, 3) := by decide +kernel
theorem dX8_sheet_42 : decode cX8_sheet 42 = .ok (.iload_n 1, 1) := by decide +kernel
theorem dX8_sheet_43 : decode cX8_sheet 43 = .ok (.iload_n 3, 1) := by decide +kernel
theorem dX8_sheet_44 : decode cX8_sheet 44 = .ok (.iastore, 1) := by decide +kernel
theorem dX8_sheet_45 : decode cX8_sheet 45 = .ok (.iconst 0, 1) := by decide +kernel
theorem dX8_sheet_46 : decode cX8_sheet 46 = .ok (.istore 4, 2) := by decide +kernel
theorem dX8_sheet_48 : decode cX8_sheet 48 = .ok (.iload 4, 2) := by decide +kernel
theorem dX8_sheet_50 : decode cX8_sheet 50 = .ok (.bipush 24, 2) := by decide +kernel
theorem dX8_sheet_52 : decode cX8_sheet 52 = .ok (.if_icmp .ge 22, 3) := by decide +kernel
theorem dX8_sheet_55 : decode cX8_sheet 55 = .ok (.aload_n 0, 1) := by decide +kernel
theorem dX8_sheet_56 : decode cX8_sheet 56 = .ok (.getfield 16, 3) := by decide +kernel
theorem dX8_sheet_59 : decode cX8_sheet 59 = .ok (.bipush 24, 2) := by decide +kernel
theorem dX8_sheet_61 : decode cX8_sheet 61 = .ok (.iload_n 1, 1) := by decide +kernel
theorem dX8_sheet_62 : decode cX8_sheet 62 = .ok (.imul, 1) := by decide +kernel
theorem dX8_sheet_63 : decode cX8_sheet 63 = .ok (.iload 4, 2) := by decide +kernel
theorem dX8_sheet_65 : decode cX8_sheet 65 = .ok (.iadd, 1) := by decide +kernel
theorem dX8_sheet_66 : decode cX8_sheet 66 = .ok (.lconst 0, 1) := by decide +kernel
theorem dX8_sheet_67 : decode cX8_sheet 67 = .ok (.lastore, 1) := by decide +kernel
theorem dX8_sheet_68 : decode cX8_sheet 68 = .ok (.iinc 4 1, 3) := by decide +kernel
theorem dX8_sheet_71 : decode cX8_sheet 71 = .ok (.goto (-23), 3) := by decide +kernel
theorem dX8_sheet_74 : decode cX8_sheet 74 = .ok (.iload_n 3, 1) := by decide +kernel
theorem dX8_sheet_75 : decode cX8_sheet 75 = .ok (.ireturn, 1) := by decide +kernel
theorem dX8_drop_0 : decode cX8_drop 0 = .ok (.iload_n 1, 1) := by decide +kernel
theorem dX8_drop_1 : decode cX8_drop 1 = .ok (.invokestatic 216, 3) := by decide +kernel
theorem dX8_drop_4 : decode cX8_drop 4 = .ok (.ifCond .ne 5, 3) := by decide +kernel
theorem dX8_drop_7 : decode cX8_drop 7 = .ok (.iconst (-1), 1) := by decide +kernel
theorem dX8_drop_8 : decode cX8_drop 8 = .ok (.ireturn, 1) := by decide +kernel
theorem dX8_drop_9 : decode cX8_drop 9 = .ok (.aload_n 0, 1) := by decide +kernel
theorem dX8_drop_10 : decode cX8_drop 10 = .ok (.getfield 7, 3) := by decide +kernel
theorem dX8_drop_13 : decode cX8_drop 13 = .ok (.iload_n 1, 1) := by decide +kernel
theorem dX8_drop_14 : decode cX8_drop 14 = .ok (.iaload, 1) := by decide +kernel
theorem dX8_drop_15 : decode cX8_drop 15 = .ok (.ifCond .ge 6, 3) := by decide +kernel
theorem dX8_drop_18 : decode cX8_drop 18 = .ok (.bipush (-11), 2) := by decide +kernel
theorem dX8_drop_20 : decode cX8_drop 20 = .ok (.ireturn, 1) := by decide +kernel
theorem dX8_drop_21 : decode cX8_drop 21 = .ok (.aload_n 0, 1) := by decide +kernel
theorem dX8_drop_22 : decode cX8_drop 22 = .ok (.getfield 7, 3) := by decide +kernel
theorem dX8_drop_25 : decode cX8_drop 25 = .ok (.iload_n 1, 1) := by decide +kernel
theorem dX8_drop_26 : decode cX8_drop 26 = .ok (.iconst (-1), 1) := by decide +kernel
theorem dX8_drop_27 : decode cX8_drop 27 = .ok (.iastore, 1) := by decide +kernel
theorem dX8_drop_28 : decode cX8_drop 28 = .ok (.aload_n 0, 1) := by decide +kernel
theorem dX8_drop_29 : decode cX8_drop 29 = .ok (.getfield 13, 3) := by decide +kernel
theorem dX8_drop_32 : decode cX8_drop 32 = .ok (.iload_n 1, 1) := by decide +kernel
theorem dX8_drop_33 : decode cX8_drop 33 = .ok (.iaload, 1) := by decide +kernel
theorem dX8_drop_34 : decode cX8_drop 34 = .ok (.ireturn, 1) := by decide +kernel
theorem dX8_item_0 : decode cX8_item 0 = .ok (.iload_n 1, 1) := by decide +kernel
theorem dX8_item_1 : decode cX8_item 1 = .ok (.invokestatic 216, 3) := by decide +kernel
theorem dX8_item_4 : decode cX8_item 4 = .ok (.ifCond .eq 12, 3) := by decide +kernel
theorem dX8_item_7 : decode cX8_item 7 = .ok (.iload_n 2, 1) := by decide +kernel
theorem dX8_item_8 : decode cX8_item 8 = .ok (.iconst 0, 1) := by decide +kernel
theorem dX8_item_9 : decode cX8_item 9 = .ok (.iconst 3, 1) := by decide +kernel
theorem dX8_item_10 : decode cX8_item 10 = .ok (.invokestatic 57, 3) := by decide +kernel
theorem dX8_item_13 : decode cX8_item 13 = .ok (.ifCond .ne 7, 3) := by decide +kernel
theorem dX8_item_16 : decode cX8_item 16 = .ok (.ldc2_w 219, 3) := by decide +kernel
theorem dX8_item_19 : decode cX8_item 19 = .ok (.lreturn, 1) := by decide +kernel
theorem dX8_item_20 : decode cX8_item 20 = .ok (.aload_n 0, 1) := by decide +kernel
theorem dX8_item_21 : decode cX8_item 21 = .ok (.iload_n 1, 1) := by decide +kernel
theorem dX8_item_22 : decode cX8_item 22 = .ok (.iload_n 2, 1) := by decide +kernel
theorem dX8_item_23 : decode cX8_item 23 = .ok (.iload_n 3, 1) := by decide +kernel
theorem dX8_item_24 : decode cX8_item 24 = .ok (.iconst 1, 1) := by decide +kernel
theorem dX8_item_25 : decode cX8_item 25 = .ok (.invokevirtual 221, 3) := by decide +kernel
theorem dX8_item_28 : decode cX8_item 28 = .ok (.istore 6, 2) := by decide +kernel
theorem dX8_item_30 : decode cX8_item 30 = .ok (.iload 6, 2) := by decide +kernel
theorem dX8_item_32 : decode cX8_item 32 = .ok (.ifCond .eq 7, 3) := by decide +kernel
theorem dX8_item_35 : decode cX8_item 35 = .ok (.iload 6, 2) := by decide +kernel
theorem dX8_item_37 : decode cX8_item 37 = .ok (.i2l, 1) := by decide +kernel
theorem dX8_item_38 : decode cX8_item 38 = .ok (.lreturn, 1) := by decide +kernel
theorem dX8_item_39 : decode cX8_item 39 = .ok (.aload_n 0, 1) := by decide +kernel
theorem dX8_item_40 : decode cX8_item 40 = .ok (.getfield 16, 3) := by decide +kernel
theorem dX8_item_43 : decode cX8_item 43 = .ok (.bipush 24, 2) := by decide +kernel
theorem dX8_item_45 : decode cX8_item 45 = .ok (.iload_n 1, 1) := by decide +kernel
theorem dX8_item_46 : decode cX8_item 46 = .ok (.imul, 1) := by decide +kernel
theorem dX8_item_47 : decode cX8_item 47 = .ok (.iload_n 3, 1) := by decide +kernel
theorem dX8_item_48 : decode cX8_item 48 = .ok (.iadd, 1) := by decide +kernel
theorem dX8_item_49 : decode cX8_item 49 = .ok (.iload_n 2, 1) := by decide +kernel
theorem dX8_item_50 : decode cX8_item 50 = .ok (.ifCond .ne 11, 3) := by decide +kernel
theorem dX8_item_53 : decode cX8_item 53 = .ok (.lload 4, 2) := by decide +kernel
theorem dX8_item_55 : decode cX8_item 55 = .ok (.l2i, 1) := by decide +kernel
theorem dX8_item_56 : decode cX8_item 56 = .ok (.i2b, 1) := by decide +kernel
theorem dX8_item_57 : decode cX8_item 57 = .ok (.i2l, 1) := by decide +kernel
theorem dX8_item_58 : decode cX8_item 58 = .ok (.goto 30, 3) := by decide +kernel
theorem dX8_item_61 : decode cX8_item 61 = .ok (.iload_n 2, 1) := by decide +kernel
theorem dX8_item_62 : decode cX8_item 62 = .ok (.iconst 1, 1) := by decide +kernel
theorem dX8_item_63 : decode cX8_item 63 = .ok (.if_icmp .ne 11, 3) := by decide +kernel
theorem dX8_item_66 : decode cX8_item 66 = .ok (.lload 4, 2) := by decide +kernel
theorem dX8_item_68 : decode cX8_item 68 = .ok (.l2i, 1) := by decide +kernel
theorem dX8_item_69 : decode cX8_item 69 = .ok (.i2s, 1) := by decide +kernel
theorem dX8_item_70 : decode cX8_item 70 = .ok (.i2l, 1) := by decide +kernel
theorem dX8_item_71 : decode cX8_item 71 = .ok (.goto 17, 3) := by decide +kernel
theorem dX8_item_74 : decode cX8_item 74 = .ok (.iload_n 2, 1) := by decide +kernel
theorem dX8_item_75 : decode cX8_item 75 = .ok (.iconst 2, 1) := by decide +kernel
theorem dX8_item_76 : decode cX8_item 76 = .ok (.if_icmp .ne 10, 3) := by decide +kernel
theorem dX8_item_79 : decode cX8_item 79 = .ok (.lload 4, 2) := by decide +kernel
theorem dX8_item_81 : decode cX8_item 81 = .ok (.l2i, 1) := by decide +kernel
theorem dX8_item_82 : decode cX8_item 82 = .ok (.i2l, 1) := by decide +kernel
theorem dX8_item_83 : decode cX8_item 83 = .ok (.goto 5, 3) := by decide +kernel
theorem dX8_item_86 : decode cX8_item 86 = .ok (.lload 4, 2) := by decide +kernel
theorem dX8_item_88 : decode cX8_item 88 = .ok (.lastore, 1) := by decide +kernel
theorem dX8_item_89 : decode cX8_item 89 = .ok (.aload_n 0, 1) := by decide +kernel
theorem dX8_item_90 : decode cX8_item 90 = .ok (.getfield 16, 3) := by decide +kernel
theorem dX8_item_93 : decode cX8_item 93 = .ok (.bipush 24, 2) := by decide +kernel
theorem dX8_item_95 : decode cX8_item 95 = .ok (.iload_n 1, 1) := by decide +kernel
theorem dX8_item_96 : decode cX8_item 96 = .ok (.imul, 1) := by decide +kernel
theorem dX8_item_97 : decode cX8_item 97 = .ok (.iload_n 3, 1) := by decide +kernel
theorem dX8_item_98 : decode cX8_item 98 = .ok (.iadd, 1) := by decide +kernel
theorem dX8_item_99 : decode cX8_item 99 = .ok (.laload, 1) := by decide +kernel
theorem dX8_item_100 : decode cX8_item 100 = .ok (.lreturn, 1) := by decide +kernel
theorem dX8_copy_0 : decode cX8_copy 0 = .ok (.iload_n 1, 1) := by decide +kernel
theorem dX8_copy_1 : decode cX8_copy 1 = .ok (.invokestatic 216, 3) := by decide +kernel
theorem dX8_copy_4 : decode cX8_copy 4 = .ok (.ifCond .eq 10, 3) := by decide +kernel
theorem dX8_copy_7 : decode cX8_copy 7 = .ok (.iload_n 3, 1) := by decide +kernel
theorem dX8_copy_8 : decode cX8_copy 8 = .ok (.invokestatic 216, 3) := by decide +kernel
theorem dX8_copy_11 : decode cX8_copy 11 = .ok (.ifCond .ne 5, 3) := by decide +kernel
theorem dX8_copy_14 : decode cX8_copy 14 = .ok (.iconst (-1), 1) := by decide +kernel
theorem dX8_copy_15 : decode cX8_copy 15 = .ok (.ireturn, 1) := by decide +kernel
theorem dX8_copy_16 : decode cX8_copy 16 = .ok (.aload_n 0, 1) := by decide +kernel
theorem dX8_copy_17 : decode cX8_copy 17 = .ok (.getfield 7, 3) := by decide +kernel
theorem dX8_copy_20 : decode cX8_copy 20 = .ok (.iload_n 1, 1) := by decide +kernel
theorem dX8_copy_21 : decode cX8_copy 21 = .ok (.iaload, 1) := by decide +kernel
theorem dX8_copy_22 : decode cX8_copy 22 = .ok (.ifCond .lt 12, 3) := by decide +kernel
theorem dX8_copy_25 : decode cX8_copy 25 = .ok (.aload_n 0, 1) := by decide +kernel
theorem dX8_copy_26 : decode cX8_copy 26 = .ok (.getfield 7, 3) := by decide +kernel
theorem dX8_copy_29 : decode cX8_copy 29 = .ok (.iload_n 3, 1) := by decide +kernel
theorem dX8_copy_30 : decode cX8_copy 30 = .ok (.iaload, 1) := by decide +kernel
theorem dX8_copy_31 : decode cX8_copy 31 = .ok (.ifCond .ge 6, 3) := by decide +kernel
theorem dX8_copy_34 : decode cX8_copy 34 = .ok (.bipush (-11), 2) := by decide +kernel
theorem dX8_copy_36 : decode cX8_copy 36 = .ok (.ireturn, 1) := by decide +kernel
theorem dX8_copy_37 : decode cX8_copy 37 = .ok (.aload_n 0, 1) := by decide +kernel
theorem dX8_copy_38 : decode cX8_copy 38 = .ok (.getfield 7, 3) := by decide +kernel
theorem dX8_copy_41 : decode cX8_copy 41 = .ok (.iload_n 1, 1) := by decide +kernel
theorem dX8_copy_42 : decode cX8_copy 42 = .ok (.iaload, 1) := by decide +kernel
theorem dX8_copy_43 : decode cX8_copy 43 = .ok (.aload_n 0, 1) := by decide +kernel
theorem dX8_copy_44 : decode cX8_copy 44 = .ok (.getfield 7, 3) := by decide +kernel
theorem dX8_copy_47 : decode cX8_copy 47 = .ok (.iload_n 3, 1) := by decide +kernel
theorem dX8_copy_48 : decode cX8_copy 48 = .ok (.iaload, 1) := by decide +kernel
theorem dX8_copy_49 : decode cX8_copy 49 = .ok (.if_icmp .eq 6, 3) := by decide +kernel
theorem dX8_copy_52 : decode cX8_copy 52 = .ok (.bipush (-12), 2) := by decide +kernel
theorem dX8_copy_54 : decode cX8_copy 54 = .ok (.ireturn, 1) := by decide +kernel
theorem dX8_copy_55 : decode cX8_copy 55 = .ok (.iload_n 2, 1) := by decide +kernel
theorem dX8_copy_56 : decode cX8_copy 56 = .ok (.iload 5, 2) := by decide +kernel
theorem dX8_copy_58 : decode cX8_copy 58 = .ok (.aload_n 0, 1) := by decide +kernel
theorem dX8_copy_59 : decode cX8_copy 59 = .ok (.getfield 13, 3) := by decide +kernel
theorem dX8_copy_62 : decode cX8_copy 62 = .ok (.iload_n 1, 1) := by decide +kernel
theorem dX8_copy_63 : decode cX8_copy 63 = .ok (.iaload, 1) := by decide +kernel
theorem dX8_copy_64 : decode cX8_copy 64 = .ok (.invokestatic 213, 3) := by decide +kernel
theorem dX8_copy_67 : decode cX8_copy 67 = .ok (.ifCond .eq 19, 3) := by decide +kernel
theorem dX8_copy_70 : decode cX8_copy 70 = .ok (.iload 4, 2) := by decide +kernel
theorem dX8_copy_72 : decode cX8_copy 72 = .ok (.iload 5, 2) := by decide +kernel
theorem dX8_copy_74 : decode cX8_copy 74 = .ok (.aload_n 0, 1) := by decide +kernel
theorem dX8_copy_75 : decode cX8_copy 75 = .ok (.getfield 13, 3) := by decide +kernel
theorem dX8_copy_78 : decode cX8_copy 78 = .ok (.iload_n 3, 1) := by decide +kernel
theorem dX8_copy_79 : decode cX8_copy 79 = .ok (.iaload, 1) := by decide +kernel
theorem dX8_copy_80 : decode cX8_copy 80 = .ok (.invokestatic 213, 3) := by decide +kernel
theorem dX8_copy_83 : decode cX8_copy 83 = .ok (.ifCond .ne 6, 3) := by decide +kernel
theorem dX8_copy_86 : decode cX8_copy 86 = .ok (.bipush (-13), 2) := by decide +kernel
theorem dX8_copy_88 : decode cX8_copy 88 = .ok (.ireturn, 1) := by decide +kernel
theorem dX8_copy_89 : decode cX8_copy 89 = .ok (.iload_n 1, 1) := by decide +kernel
theorem dX8_copy_90 : decode cX8_copy 90 = .ok (.iload_n 3, 1) := by decide +kernel
theorem dX8_copy_91 : decode cX8_copy 91 = .ok (.if_icmp .ne 13, 3) := by decide +kernel
theorem dX8_copy_94 : decode cX8_copy 94 = .ok (.iload 4, 2) := by decide +kernel
theorem dX8_copy_96 : decode cX8_copy 96 = .ok (.iload_n 2, 1) := by decide +kernel
theorem dX8_copy_97 : decode cX8_copy 97 = .ok (.if_icmp .le 7, 3) := by decide +kernel
theorem dX8_copy_100 : decode cX8_copy 100 = .ok (.iconst 1, 1) := by decide +kernel
theorem dX8_copy_101 : decode cX8_copy 101 = .ok (.goto 4, 3) := by decide +kernel
theorem dX8_copy_104 : decode cX8_copy 104 = .ok (.iconst 0, 1) := by decide +kernel
theorem dX8_copy_105 : decode cX8_copy 105 = .ok (.istore 6, 2) := by decide +kernel
theorem dX8_copy_107 : decode cX8_copy 107 = .ok (.iconst 0, 1) := by decide +kernel
theorem dX8_copy_108 : decode cX8_copy 108 = .ok (.istore 7, 2) := by decide +kernel
theorem dX8_copy_110 : decode cX8_copy 110 = .ok (.iload 7, 2) := by decide +kernel
theorem dX8_copy_112 : decode cX8_copy 112 = .ok (.iload 5, 2) := by decide +kernel
theorem dX8_copy_114 : decode cX8_copy 114 = .ok (.if_icmp .ge 57, 3) := by decide +kernel
theorem dX8_copy_117 : decode cX8_copy 117 = .ok (.iload 6, 2) := by decide +kernel
theorem dX8_copy_119 : decode cX8_copy 119 = .ok (.ifCond .eq 13, 3) := by decide +kernel
theorem dX8_copy_122 : decode cX8_copy 122 = .ok (.iload 5, 2) := by decide +kernel
theorem dX8_copy_124 : decode cX8_copy 124 = .ok (.iconst 1, 1) := by decide +kernel
theorem dX8_copy_125 : decode cX8_copy 125 = .ok (.isub, 1) := by decide +kernel
theorem dX8_copy_126 : decode cX8_copy 126 = .ok (.iload 7, 2) := by decide +kernel
theorem dX8_copy_128 : decode cX8_copy 128 = .ok (.isub, 1) := by decide +kernel
theorem dX8_copy_129 : decode cX8_copy 129 = .ok (.goto 5, 3) := by decide +kernel
theorem dX8_copy_132 : decode cX8_copy 132 = .ok (.iload 7, 2) := by decide +kernel
theorem dX8_copy_134 : decode cX8_copy 134 = .ok (.istore 8, 2) := by decide +kernel
theorem dX8_copy_136 : decode cX8_copy 136 = .ok (.aload_n 0, 1) := by decide +kernel
theorem dX8_copy_137 : decode cX8_copy 137 = .ok (.getfield 16, 3) := by decide +kernel
theorem dX8_copy_140 : decode cX8_copy 140 = .ok (.bipush 24, 2) := by decide +kernel
theorem dX8_copy_142 : decode cX8_copy 142 = .ok (.iload_n 3, 1) := by decide +kernel
theorem dX8_copy_143 : decode cX8_copy 143 = .ok (.imul, 1) := by decide +kernel
theorem dX8_copy_144 : decode cX8_copy 144 = .ok (.iload 4, 2) := by decide +kernel
theorem dX8_copy_146 : decode cX8_copy 146 = .ok (.iadd, 1) := by decide +kernel
theorem dX8_copy_147 : decode cX8_copy 147 = .ok (.iload 8, 2) := by decide +kernel
theorem dX8_copy_149 : decode cX8_copy 149 = .ok (.iadd, 1) := by decide +kernel
theorem dX8_copy_150 : decode cX8_copy 150 = .ok (.aload_n 0, 1) := by decide +kernel
theorem dX8_copy_151 : decode cX8_copy 151 = .ok (.getfield 16, 3) := by decide +kernel
theorem dX8_copy_154 : decode cX8_copy 154 = .ok (.bipush 24, 2) := by decide +kernel
theorem dX8_copy_156 : decode cX8_copy 156 = .ok (.iload_n 1, 1) := by decide +kernel
theorem dX8_copy_157 : decode cX8_copy 157 = .ok (.imul, 1) := by decide +kernel
theorem dX8_copy_158 : decode cX8_copy 158 = .ok (.iload_n 2, 1) := by decide +kernel
theorem dX8_copy_159 : decode cX8_copy 159 = .ok (.iadd, 1) := by decide +kernel
theorem dX8_copy_160 : decode cX8_copy 160 = .ok (.iload 8, 2) := by decide +kernel
theorem dX8_copy_162 : decode cX8_copy 162 = .ok (.iadd, 1) := by decide +kernel
theorem dX8_copy_163 : decode cX8_copy 163 = .ok (.laload, 1) := by decide +kernel
theorem dX8_copy_164 : decode cX8_copy 164 = .ok (.lastore, 1) := by decide +kernel
theorem dX8_copy_165 : decode cX8_copy 165 = .ok (.iinc 7 1, 3) := by decide +kernel
theorem dX8_copy_168 : decode cX8_copy 168 = .ok (.goto (-58), 3) := by decide +kernel
theorem dX8_copy_171 : decode cX8_copy 171 = .ok (.iload 5, 2) := by decide +kernel
theorem dX8_copy_173 : decode cX8_copy 173 = .ok (.ireturn, 1) := by decide +kernel
theorem dX8_cutTo_0 : decode cX8_cutTo 0 = .ok (.iload_n 0, 1) := by decide +kernel
theorem dX8_cutTo_1 : decode cX8_cutTo 1 = .ok (.ifCond .ne 10, 3) := by decide +kernel
theorem dX8_cutTo_4 : decode cX8_cutTo 4 = .ok (.lload_n 1, 1) := by decide +kernel
theorem dX8_cutTo_5 : decode cX8_cutTo 5 = .ok (.l2i, 1) := by decide +kernel
theorem dX8_cutTo_6 : decode cX8_cutTo 6 = .ok (.i2b, 1) := by decide +kernel
theorem dX8_cutTo_7 : decode cX8_cutTo 7 = .ok (.i2l, 1) := by decide +kernel
theorem dX8_cutTo_8 : decode cX8_cutTo 8 = .ok (.goto 27, 3) := by decide +kernel
theorem dX8_cutTo_11 : decode cX8_cutTo 11 = .ok (.iload_n 0, 1) := by decide +kernel
theorem dX8_cutTo_12 : decode cX8_cutTo 12 = .ok (.iconst 1, 1) := by decide +kernel
theorem dX8_cutTo_13 : decode cX8_cutTo 13 = .ok (.if_icmp .ne 10, 3) := by decide +kernel
theorem dX8_cutTo_16 : decode cX8_cutTo 16 = .ok (.lload_n 1, 1) := by decide +kernel
theorem dX8_cutTo_17 : decode cX8_cutTo 17 = .ok (.l2i, 1) := by decide +kernel
theorem dX8_cutTo_18 : decode cX8_cutTo 18 = .ok (.i2s, 1) := by decide +kernel
theorem dX8_cutTo_19 : decode cX8_cutTo 19 = .ok (.i2l, 1) := by decide +kernel
theorem dX8_cutTo_20 : decode cX8_cutTo 20 = .ok (.goto 15, 3) := by decide +kernel
theorem dX8_cutTo_23 : decode cX8_cutTo 23 = .ok (.iload_n 0, 1) := by decide +kernel
theorem dX8_cutTo_24 : decode cX8_cutTo 24 = .ok (.iconst 2, 1) := by decide +kernel
theorem dX8_cutTo_25 : decode cX8_cutTo 25 = .ok (.if_icmp .ne 9, 3) := by decide +kernel
theorem dX8_cutTo_28 : decode cX8_cutTo 28 = .ok (.lload_n 1, 1) := by decide +kernel
theorem dX8_cutTo_29 : decode cX8_cutTo 29 = .ok (.l2i, 1) := by decide +kernel
theorem dX8_cutTo_30 : decode cX8_cutTo 30 = .ok (.i2l, 1) := by decide +kernel
theorem dX8_cutTo_31 : decode cX8_cutTo 31 = .ok (.goto 4, 3) := by decide +kernel
theorem dX8_cutTo_34 : decode cX8_cutTo 34 = .ok (.lload_n 1, 1) := by decide +kernel
theorem dX8_cutTo_35 : decode cX8_cutTo 35 = .ok (.lreturn, 1) := by decide +kernel
theorem dX8_log_0 : decode cX8_log 0 = .ok (.aload_n 0, 1) := by decide +kernel
theorem dX8_log_1 : decode cX8_log 1 = .ok (.iload_n 1, 1) := by decide +kernel
theorem dX8_log_2 : decode cX8_log 2 = .ok (.invokevirtual 105, 3) := by decide +kernel
theorem dX8_log_5 : decode cX8_log 5 = .ok (.ifCond .eq 19, 3) := by decide +kernel
theorem dX8_log_8 : decode cX8_log 8 = .ok (.iload_n 2, 1) := by decide +kernel
theorem dX8_log_9 : decode cX8_log 9 = .ok (.invokestatic 216, 3) := by decide +kernel
theorem dX8_log_12 : decode cX8_log 12 = .ok (.ifCond .eq 12, 3) := by decide +kernel
theorem dX8_log_15 : decode cX8_log 15 = .ok (.iload_n 3, 1) := by decide +kernel
theorem dX8_log_16 : decode cX8_log 16 = .ok (.iconst 0, 1) := by decide +kernel
theorem dX8_log_17 : decode cX8_log 17 = .ok (.iconst 3, 1) := by decide +kernel
theorem dX8_log_18 : decode cX8_log 18 = .ok (.invokestatic 57, 3) := by decide +kernel
theorem dX8_log_21 : decode cX8_log 21 = .ok (.ifCond .ne 5, 3) := by decide +kernel
theorem dX8_log_24 : decode cX8_log 24 = .ok (.iconst (-1), 1) := by decide +kernel
theorem dX8_log_25 : decode cX8_log 25 = .ok (.ireturn, 1) := by decide +kernel
theorem dX8_log_26 : decode cX8_log 26 = .ok (.aload_n 0, 1) := by decide +kernel
theorem dX8_log_27 : decode cX8_log 27 = .ok (.iload_n 2, 1) := by decide +kernel
theorem dX8_log_28 : decode cX8_log 28 = .ok (.iload_n 3, 1) := by decide +kernel
theorem dX8_log_29 : decode cX8_log 29 = .ok (.iload 4, 2) := by decide +kernel
theorem dX8_log_31 : decode cX8_log 31 = .ok (.aload_n 0, 1) := by decide +kernel
theorem dX8_log_32 : decode cX8_log 32 = .ok (.getfield 23, 3) := by decide +kernel
theorem dX8_log_35 : decode cX8_log 35 = .ok (.iconst 2, 1) := by decide +kernel
theorem dX8_log_36 : decode cX8_log 36 = .ok (.iaload, 1) := by decide +kernel
theorem dX8_log_37 : decode cX8_log 37 = .ok (.invokevirtual 221, 3) := by decide +kernel
theorem dX8_log_40 : decode cX8_log 40 = .ok (.istore 5, 2) := by decide +kernel
theorem dX8_log_42 : decode cX8_log 42 = .ok (.iload 5, 2) := by decide +kernel
theorem dX8_log_44 : decode cX8_log 44 = .ok (.ifCond .eq 6, 3) := by decide +kernel
theorem dX8_log_47 : decode cX8_log 47 = .ok (.iload 5, 2) := by decide +kernel
theorem dX8_log_49 : decode cX8_log 49 = .ok (.ireturn, 1) := by decide +kernel
theorem dX8_log_50 : decode cX8_log 50 = .ok (.iconst 0, 1) := by decide +kernel
theorem dX8_log_51 : decode cX8_log 51 = .ok (.istore 6, 2) := by decide +kernel
theorem dX8_log_53 : decode cX8_log 53 = .ok (.iload 6, 2) := by decide +kernel
theorem dX8_log_55 : decode cX8_log 55 = .ok (.aload_n 0, 1) := by decide +kernel
theorem dX8_log_56 : decode cX8_log 56 = .ok (.getfield 23, 3) := by decide +kernel
theorem dX8_log_59 : decode cX8_log 59 = .ok (.iconst 2, 1) := by decide +kernel
theorem dX8_log_60 : decode cX8_log 60 = .ok (.iaload, 1) := by decide +kernel
theorem dX8_log_61 : decode cX8_log 61 = .ok (.if_icmp .ge 39, 3) := by decide +kernel
theorem dX8_log_64 : decode cX8_log 64 = .ok (.aload_n 0, 1) := by decide +kernel
theorem dX8_log_65 : decode cX8_log 65 = .ok (.getfield 16, 3) := by decide +kernel
theorem dX8_log_68 : decode cX8_log 68 = .ok (.bipush 24, 2) := by decide +kernel
theorem dX8_log_70 : decode cX8_log 70 = .ok (.iload_n 2, 1) := by decide +kernel
theorem dX8_log_71 : decode cX8_log 71 = .ok (.imul, 1) := by decide +kernel
theorem dX8_log_72 : decode cX8_log 72 = .ok (.iload 4, 2) := by decide +kernel
theorem dX8_log_74 : decode cX8_log 74 = .ok (.iadd, 1) := by decide +kernel
theorem dX8_log_75 : decode cX8_log 75 = .ok (.iload 6, 2) := by decide +kernel
theorem dX8_log_77 : decode cX8_log 77 = .ok (.iadd, 1) := by decide +kernel
theorem dX8_log_78 : decode cX8_log 78 = .ok (.iload_n 3, 1) := by decide +kernel
theorem dX8_log_79 : decode cX8_log 79 = .ok (.aload_n 0, 1) := by decide +kernel
theorem dX8_log_80 : decode cX8_log 80 = .ok (.getfield 23, 3) := by decide +kernel
theorem dX8_log_83 : decode cX8_log 83 = .ok (.iload 6, 2) := by decide +kernel
theorem dX8_log_85 : decode cX8_log 85 = .ok (.iload_n 1, 1) := by decide +kernel
theorem dX8_log_86 : decode cX8_log 86 = .ok (.invokestatic 127, 3) := by decide +kernel
theorem dX8_log_89 : decode cX8_log 89 = .ok (.i2l, 1) := by decide +kernel
theorem dX8_log_90 : decode cX8_log 90 = .ok (.invokestatic 224, 3) := by decide +kernel
theorem dX8_log_93 : decode cX8_log 93 = .ok (.lastore, 1) := by decide +kernel
theorem dX8_log_94 : decode cX8_log 94 = .ok (.iinc 6 1, 3) := by decide +kernel
theorem dX8_log_97 : decode cX8_log 97 = .ok (.goto (-44), 3) := by decide +kernel
theorem dX8_log_100 : decode cX8_log 100 = .ok (.aload_n 0, 1) := by decide +kernel
theorem dX8_log_101 : decode cX8_log 101 = .ok (.getfield 23, 3) := by decide +kernel
theorem dX8_log_104 : decode cX8_log 104 = .ok (.iconst 2, 1) := by decide +kernel
theorem dX8_log_105 : decode cX8_log 105 = .ok (.iaload, 1) := by decide +kernel
theorem dX8_log_106 : decode cX8_log 106 = .ok (.ireturn, 1) := by decide +kernel
theorem dX8_saidAs_0 : decode cX8_saidAs 0 = .ok (.iload_n 2, 1) := by decide +kernel
theorem dX8_saidAs_1 : decode cX8_saidAs 1 = .ok (.ifCond .eq 30, 3) := by decide +kernel
theorem dX8_saidAs_4 : decode cX8_saidAs 4 = .ok (.iload_n 3, 1) := by decide +kernel
theorem dX8_saidAs_5 : decode cX8_saidAs 5 = .ok (.aload_n 0, 1) := by decide +kernel
theorem dX8_saidAs_6 : decode cX8_saidAs 6 = .ok (.getfield 23, 3) := by decide +kernel
theorem dX8_saidAs_9 : decode cX8_saidAs 9 = .ok (.bipush 9, 2) := by decide +kernel
theorem dX8_saidAs_11 : decode cX8_saidAs 11 = .ok (.iload_n 1, 1) := by decide +kernel
theorem dX8_saidAs_12 : decode cX8_saidAs 12 = .ok (.iadd, 1) := by decide +kernel
theorem dX8_saidAs_13 : decode cX8_saidAs 13 = .ok (.iaload, 1) := by decide +kernel
theorem dX8_saidAs_14 : decode cX8_saidAs 14 = .ok (.aload_n 0, 1) := by decide +kernel
theorem dX8_saidAs_15 : decode cX8_saidAs 15 = .ok (.getfield 23, 3) := by decide +kernel
theorem dX8_saidAs_18 : decode cX8_saidAs 18 = .ok (.bipush 39, 2) := by decide +kernel
theorem dX8_saidAs_20 : decode cX8_saidAs 20 = .ok (.iload_n 1, 1) := by decide +kernel
theorem dX8_saidAs_21 : decode cX8_saidAs 21 = .ok (.iadd, 1) := by decide +kernel
theorem dX8_saidAs_22 : decode cX8_saidAs 22 = .ok (.iaload, 1) := by decide +kernel
theorem dX8_saidAs_23 : decode cX8_saidAs 23 = .ok (.iload 4, 2) := by decide +kernel
theorem dX8_saidAs_25 : decode cX8_saidAs 25 = .ok (.invokestatic 123, 3) := by decide +kernel
theorem dX8_saidAs_28 : decode cX8_saidAs 28 = .ok (.goto 26, 3) := by decide +kernel
theorem dX8_saidAs_31 : decode cX8_saidAs 31 = .ok (.aload_n 0, 1) := by decide +kernel
theorem dX8_saidAs_32 : decode cX8_saidAs 32 = .ok (.getfield 23, 3) := by decide +kernel
theorem dX8_saidAs_35 : decode cX8_saidAs 35 = .ok (.iconst 3, 1) := by decide +kernel
theorem dX8_saidAs_36 : decode cX8_saidAs 36 = .ok (.iload_n 1, 1) := by decide +kernel
theorem dX8_saidAs_37 : decode cX8_saidAs 37 = .ok (.iadd, 1) := by decide +kernel
theorem dX8_saidAs_38 : decode cX8_saidAs 38 = .ok (.iaload, 1) := by decide +kernel
theorem dX8_saidAs_39 : decode cX8_saidAs 39 = .ok (.iload_n 3, 1) := by decide +kernel
theorem dX8_saidAs_40 : decode cX8_saidAs 40 = .ok (.aload_n 0, 1) := by decide +kernel
theorem dX8_saidAs_41 : decode cX8_saidAs 41 = .ok (.getfield 23, 3) := by decide +kernel
theorem dX8_saidAs_44 : decode cX8_saidAs 44 = .ok (.bipush 39, 2) := by decide +kernel
theorem dX8_saidAs_46 : decode cX8_saidAs 46 = .ok (.iload_n 1, 1) := by decide +kernel
theorem dX8_saidAs_47 : decode cX8_saidAs 47 = .ok (.iadd, 1) := by decide +kernel
theorem dX8_saidAs_48 : decode cX8_saidAs 48 = .ok (.iaload, 1) := by decide +kernel
theorem dX8_saidAs_49 : decode cX8_saidAs 49 = .ok (.iload 4, 2) := by decide +kernel
theorem dX8_saidAs_51 : decode cX8_saidAs 51 = .ok (.invokestatic 123, 3) := by decide +kernel
theorem dX8_saidAs_54 : decode cX8_saidAs 54 = .ok (.ireturn, 1) := by decide +kernel
theorem dX8_fitBy_0 : decode cX8_fitBy 0 = .ok (.iconst 0, 1) := by decide +kernel
theorem dX8_fitBy_1 : decode cX8_fitBy 1 = .ok (.istore 5, 2) := by decide +kernel
theorem dX8_fitBy_3 : decode cX8_fitBy 3 = .ok (.iload_n 2, 1) := by decide +kernel
theorem dX8_fitBy_4 : decode cX8_fitBy 4 = .ok (.ifCond .eq 7, 3) := by decide +kernel
theorem dX8_fitBy_7 : decode cX8_fitBy 7 = .ok (.iconst 1, 1) := by decide +kernel
theorem dX8_fitBy_8 : decode cX8_fitBy 8 = .ok (.goto 4, 3) := by decide +kernel
theorem dX8_fitBy_11 : decode cX8_fitBy 11 = .ok (.iconst 0, 1) := by decide +kernel
theorem dX8_fitBy_12 : decode cX8_fitBy 12 = .ok (.istore 6, 2) := by decide +kernel
theorem dX8_fitBy_14 : decode cX8_fitBy 14 = .ok (.iload 6, 2) := by decide +kernel
theorem dX8_fitBy_16 : decode cX8_fitBy 16 = .ok (.iload_n 2, 1) := by decide +kernel
theorem dX8_fitBy_17 : decode cX8_fitBy 17 = .ok (.ifCond .eq 7, 3) := by decide +kernel
theorem dX8_fitBy_20 : decode cX8_fitBy 20 = .ok (.iconst 5, 1) := by decide +kernel
theorem dX8_fitBy_21 : decode cX8_fitBy 21 = .ok (.goto 5, 3) := by decide +kernel
theorem dX8_fitBy_24 : decode cX8_fitBy 24 = .ok (.bipush 9, 2) := by decide +kernel
theorem dX8_fitBy_26 : decode cX8_fitBy 26 = .ok (.if_icmp .gt 96, 3) := by decide +kernel
theorem dX8_fitBy_29 : decode cX8_fitBy 29 = .ok (.iconst 1, 1) := by decide +kernel
theorem dX8_fitBy_30 : decode cX8_fitBy 30 = .ok (.istore 7, 2) := by decide +kernel
theorem dX8_fitBy_32 : decode cX8_fitBy 32 = .ok (.iconst 0, 1) := by decide +kernel
theorem dX8_fitBy_33 : decode cX8_fitBy 33 = .ok (.istore 8, 2) := by decide +kernel
theorem dX8_fitBy_35 : decode cX8_fitBy 35 = .ok (.iload 8, 2) := by decide +kernel
theorem dX8_fitBy_37 : decode cX8_fitBy 37 = .ok (.iload 4, 2) := by decide +kernel
theorem dX8_fitBy_39 : decode cX8_fitBy 39 = .ok (.if_icmp .ge 59, 3) := by decide +kernel
theorem dX8_fitBy_42 : decode cX8_fitBy 42 = .ok (.iload 7, 2) := by decide +kernel
theorem dX8_fitBy_44 : decode cX8_fitBy 44 = .ok (.ifCond .eq 45, 3) := by decide +kernel
theorem dX8_fitBy_47 : decode cX8_fitBy 47 = .ok (.aload_n 0, 1) := by decide +kernel
theorem dX8_fitBy_48 : decode cX8_fitBy 48 = .ok (.iload_n 1, 1) := by decide +kernel
theorem dX8_fitBy_49 : decode cX8_fitBy 49 = .ok (.iload_n 2, 1) := by decide +kernel
theorem dX8_fitBy_50 : decode cX8_fitBy 50 = .ok (.iload 6, 2) := by decide +kernel
theorem dX8_fitBy_52 : decode cX8_fitBy 52 = .ok (.aload_n 0, 1) := by decide +kernel
theorem dX8_fitBy_53 : decode cX8_fitBy 53 = .ok (.getfield 16, 3) := by decide +kernel
theorem dX8_fitBy_56 : decode cX8_fitBy 56 = .ok (.iload_n 3, 1) := by decide +kernel
theorem dX8_fitBy_57 : decode cX8_fitBy 57 = .ok (.iconst 2, 1) := by decide +kernel
theorem dX8_fitBy_58 : decode cX8_fitBy 58 = .ok (.iload 8, 2) := by decide +kernel
theorem dX8_fitBy_60 : decode cX8_fitBy 60 = .ok (.imul, 1) := by decide +kernel
theorem dX8_fitBy_61 : decode cX8_fitBy 61 = .ok (.iadd, 1) := by decide +kernel
theorem dX8_fitBy_62 : decode cX8_fitBy 62 = .ok (.laload, 1) := by decide +kernel
theorem dX8_fitBy_63 : decode cX8_fitBy 63 = .ok (.l2i, 1) := by decide +kernel
theorem dX8_fitBy_64 : decode cX8_fitBy 64 = .ok (.invokevirtual 228, 3) := by decide +kernel
theorem dX8_fitBy_67 : decode cX8_fitBy 67 = .ok (.i2l, 1) := by decide +kernel
theorem dX8_fitBy_68 : decode cX8_fitBy 68 = .ok (.aload_n 0, 1) := by decide +kernel
theorem dX8_fitBy_69 : decode cX8_fitBy 69 = .ok (.getfield 16, 3) := by decide +kernel
theorem dX8_fitBy_72 : decode cX8_fitBy 72 = .ok (.iload_n 3, 1) := by decide +kernel
theorem dX8_fitBy_73 : decode cX8_fitBy 73 = .ok (.iconst 2, 1) := by decide +kernel
theorem dX8_fitBy_74 : decode cX8_fitBy 74 = .ok (.iload 8, 2) := by decide +kernel
theorem dX8_fitBy_76 : decode cX8_fitBy 76 = .ok (.imul, 1) := by decide +kernel
theorem dX8_fitBy_77 : decode cX8_fitBy 77 = .ok (.iadd, 1) := by decide +kernel
theorem dX8_fitBy_78 : decode cX8_fitBy 78 = .ok (.iconst 1, 1) := by decide +kernel
theorem dX8_fitBy_79 : decode cX8_fitBy 79 = .ok (.iadd, 1) := by decide +kernel
theorem dX8_fitBy_80 : decode cX8_fitBy 80 = .ok (.laload, 1) := by decide +kernel
theorem dX8_fitBy_81 : decode cX8_fitBy 81 = .ok (.lcmp, 1) := by decide +kernel
theorem dX8_fitBy_82 : decode cX8_fitBy 82 = .ok (.ifCond .ne 7, 3) := by decide +kernel
theorem dX8_fitBy_85 : decode cX8_fitBy 85 = .ok (.iconst 1, 1) := by decide +kernel
theorem dX8_fitBy_86 : decode cX8_fitBy 86 = .ok (.goto 4, 3) := by decide +kernel
theorem dX8_fitBy_89 : decode cX8_fitBy 89 = .ok (.iconst 0, 1) := by decide +kernel
theorem dX8_fitBy_90 : decode cX8_fitBy 90 = .ok (.istore 7, 2) := by decide +kernel
theorem dX8_fitBy_92 : decode cX8_fitBy 92 = .ok (.iinc 8 1, 3) := by decide +kernel
theorem dX8_fitBy_95 : decode cX8_fitBy 95 = .ok (.goto (-60), 3) := by decide +kernel
theorem dX8_fitBy_98 : decode cX8_fitBy 98 = .ok (.iload 5, 2) := by decide +kernel
theorem dX8_fitBy_100 : decode cX8_fitBy 100 = .ok (.iload 7, 2) := by decide +kernel
theorem dX8_fitBy_102 : decode cX8_fitBy 102 = .ok (.ifCond .eq 10, 3) := by decide +kernel
theorem dX8_fitBy_105 : decode cX8_fitBy 105 = .ok (.iconst 1, 1) := by decide +kernel
theorem dX8_fitBy_106 : decode cX8_fitBy 106 = .ok (.iload 6, 2) := by decide +kernel
theorem dX8_fitBy_108 : decode cX8_fitBy 108 = .ok (.ishl, 1) := by decide +kernel
theorem dX8_fitBy_109 : decode cX8_fitBy 109 = .ok (.goto 4, 3) := by decide +kernel
theorem dX8_fitBy_112 : decode cX8_fitBy 112 = .ok (.iconst 0, 1) := by decide +kernel
theorem dX8_fitBy_113 : decode cX8_fitBy 113 = .ok (.ior, 1) := by decide +kernel
theorem dX8_fitBy_114 : decode cX8_fitBy 114 = .ok (.istore 5, 2) := by decide +kernel
theorem dX8_fitBy_116 : decode cX8_fitBy 116 = .ok (.iinc 6 1, 3) := by decide +kernel
theorem dX8_fitBy_119 : decode cX8_fitBy 119 = .ok (.goto (-105), 3) := by decide +kernel
theorem dX8_fitBy_122 : decode cX8_fitBy 122 = .ok (.iload 5, 2) := by decide +kernel
theorem dX8_fitBy_124 : decode cX8_fitBy 124 = .ok (.ireturn, 1) := by decide +kernel
theorem dX8_bestMiles_0 : decode cX8_bestMiles 0 = .ok (.bipush (-4), 2) := by decide +kernel
theorem dX8_bestMiles_2 : decode cX8_bestMiles 2 = .ok (.istore 4, 2) := by decide +kernel
theorem dX8_bestMiles_4 : decode cX8_bestMiles 4 = .ok (.bipush 99, 2) := by decide +kernel
theorem dX8_bestMiles_6 : decode cX8_bestMiles 6 = .ok (.istore 5, 2) := by decide +kernel
theorem dX8_bestMiles_8 : decode cX8_bestMiles 8 = .ok (.iconst 0, 1) := by decide +kernel
theorem dX8_bestMiles_9 : decode cX8_bestMiles 9 = .ok (.istore 6, 2) := by decide +kernel
theorem dX8_bestMiles_11 : decode cX8_bestMiles 11 = .ok (.iload 6, 2) := by decide +kernel
theorem dX8_bestMiles_13 : decode cX8_bestMiles 13 = .ok (.bipush 9, 2) := by decide +kernel
theorem dX8_bestMiles_15 : decode cX8_bestMiles 15 = .ok (.if_icmp .gt 159, 3) := by decide +kernel
theorem dX8_bestMiles_18 : decode cX8_bestMiles 18 = .ok (.iload_n 3, 1) := by decide +kernel
theorem dX8_bestMiles_19 : decode cX8_bestMiles 19 = .ok (.ifCond .eq 155, 3) := by decide +kernel
theorem dX8_bestMiles_22 : decode cX8_bestMiles 22 = .ok (.iconst 0, 1) := by decide +kernel
theorem dX8_bestMiles_23 : decode cX8_bestMiles 23 = .ok (.istore 7, 2) := by decide +kernel
theorem dX8_bestMiles_25 : decode cX8_bestMiles 25 = .ok (.iconst 0, 1) := by decide +kernel
theorem dX8_bestMiles_26 : decode cX8_bestMiles 26 = .ok (.istore 8, 2) := by decide +kernel
theorem dX8_bestMiles_28 : decode cX8_bestMiles 28 = .ok (.iload 8, 2) := by decide +kernel
theorem dX8_bestMiles_30 : decode cX8_bestMiles 30 = .ok (.bipush 9, 2) := by decide +kernel
theorem dX8_bestMiles_32 : decode cX8_bestMiles 32 = .ok (.if_icmp .gt 104, 3) := by decide +kernel
theorem dX8_bestMiles_35 : decode cX8_bestMiles 35 = .ok (.aload_n 0, 1) := by decide +kernel
theorem dX8_bestMiles_36 : decode cX8_bestMiles 36 = .ok (.getfield 54, 3) := by decide +kernel
theorem dX8_bestMiles_39 : decode cX8_bestMiles 39 = .ok (.iload 8, 2) := by decide +kernel
theorem dX8_bestMiles_41 : decode cX8_bestMiles 41 = .ok (.iload_n 3, 1) := by decide +kernel
theorem dX8_bestMiles_42 : decode cX8_bestMiles 42 = .ok (.iload 8, 2) := by decide +kernel
theorem dX8_bestMiles_44 : decode cX8_bestMiles 44 = .ok (.invokestatic 156, 3) := by decide +kernel
theorem dX8_bestMiles_47 : decode cX8_bestMiles 47 = .ok (.ifCond .eq 16, 3) := by decide +kernel
theorem dX8_bestMiles_50 : decode cX8_bestMiles 50 = .ok (.aload_n 0, 1) := by decide +kernel
theorem dX8_bestMiles_51 : decode cX8_bestMiles 51 = .ok (.iload_n 1, 1) := by decide +kernel
theorem dX8_bestMiles_52 : decode cX8_bestMiles 52 = .ok (.iload_n 2, 1) := by decide +kernel
theorem dX8_bestMiles_53 : decode cX8_bestMiles 53 = .ok (.iload 8, 2) := by decide +kernel
theorem dX8_bestMiles_55 : decode cX8_bestMiles 55 = .ok (.iload 6, 2) := by decide +kernel
theorem dX8_bestMiles_57 : decode cX8_bestMiles 57 = .ok (.invokevirtual 228, 3) := by decide +kernel
theorem dX8_bestMiles_60 : decode cX8_bestMiles 60 = .ok (.goto 7, 3) := by decide +kernel
theorem dX8_bestMiles_63 : decode cX8_bestMiles 63 = .ok (.iconst (-1), 1) := by decide +kernel
theorem dX8_bestMiles_64 : decode cX8_bestMiles 64 = .ok (.iload 8, 2) := by decide +kernel
theorem dX8_bestMiles_66 : decode cX8_bestMiles 66 = .ok (.isub, 1) := by decide +kernel
theorem dX8_bestMiles_67 : decode cX8_bestMiles 67 = .ok (.iastore, 1) := by decide +kernel
theorem dX8_bestMiles_68 : decode cX8_bestMiles 68 = .ok (.iconst 0, 1) := by decide +kernel
theorem dX8_bestMiles_69 : decode cX8_bestMiles 69 = .ok (.istore 9, 2) := by decide +kernel
theorem dX8_bestMiles_71 : decode cX8_bestMiles 71 = .ok (.iconst 0, 1) := by decide +kernel
theorem dX8_bestMiles_72 : decode cX8_bestMiles 72 = .ok (.istore 10, 2) := by decide +kernel
theorem dX8_bestMiles_74 : decode cX8_bestMiles 74 = .ok (.iload 10, 2) := by decide +kernel
theorem dX8_bestMiles_76 : decode cX8_bestMiles 76 = .ok (.iload 8, 2) := by decide +kernel
theorem dX8_bestMiles_78 : decode cX8_bestMiles 78 = .ok (.if_icmp .gt 36, 3) := by decide +kernel
theorem dX8_bestMiles_81 : decode cX8_bestMiles 81 = .ok (.iload 9, 2) := by decide +kernel
theorem dX8_bestMiles_83 : decode cX8_bestMiles 83 = .ok (.aload_n 0, 1) := by decide +kernel
theorem dX8_bestMiles_84 : decode cX8_bestMiles 84 = .ok (.getfield 54, 3) := by decide +kernel
theorem dX8_bestMiles_87 : decode cX8_bestMiles 87 = .ok (.iload 10, 2) := by decide +kernel
theorem dX8_bestMiles_89 : decode cX8_bestMiles 89 = .ok (.iaload, 1) := by decide +kernel
theorem dX8_bestMiles_90 : decode cX8_bestMiles 90 = .ok (.aload_n 0, 1) := by decide +kernel
theorem dX8_bestMiles_91 : decode cX8_bestMiles 91 = .ok (.getfield 54, 3) := by decide +kernel
theorem dX8_bestMiles_94 : decode cX8_bestMiles 94 = .ok (.iload 8, 2) := by decide +kernel
theorem dX8_bestMiles_96 : decode cX8_bestMiles 96 = .ok (.iaload, 1) := by decide +kernel
theorem dX8_bestMiles_97 : decode cX8_bestMiles 97 = .ok (.if_icmp .ne 7, 3) := by decide +kernel
theorem dX8_bestMiles_100 : decode cX8_bestMiles 100 = .ok (.iconst 1, 1) := by decide +kernel
theorem dX8_bestMiles_101 : decode cX8_bestMiles 101 = .ok (.goto 4, 3) := by decide +kernel
theorem dX8_bestMiles_104 : decode cX8_bestMiles 104 = .ok (.iconst 0, 1) := by decide +kernel
theorem dX8_bestMiles_105 : decode cX8_bestMiles 105 = .ok (.iadd, 1) := by decide +kernel
theorem dX8_bestMiles_106 : decode cX8_bestMiles 106 = .ok (.istore 9, 2) := by decide +kernel
theorem dX8_bestMiles_108 : decode cX8_bestMiles 108 = .ok (.iinc 10 1, 3) := by decide +kernel
theorem dX8_bestMiles_111 : decode cX8_bestMiles 111 = .ok (.goto (-37), 3) := by decide +kernel
theorem dX8_bestMiles_114 : decode cX8_bestMiles 114 = .ok (.iload 9, 2) := by decide +kernel
theorem dX8_bestMiles_116 : decode cX8_bestMiles 116 = .ok (.iload 7, 2) := by decide +kernel
theorem dX8_bestMiles_118 : decode cX8_bestMiles 118 = .ok (.if_icmp .le 8, 3) := by decide +kernel
theorem dX8_bestMiles_121 : decode cX8_bestMiles 121 = .ok (.iload 9, 2) := by decide +kernel
theorem dX8_bestMiles_123 : decode cX8_bestMiles 123 = .ok (.goto 5, 3) := by decide +kernel
theorem dX8_bestMiles_126 : decode cX8_bestMiles 126 = .ok (.iload 7, 2) := by decide +kernel
theorem dX8_bestMiles_128 : decode cX8_bestMiles 128 = .ok (.istore 7, 2) := by decide +kernel
theorem dX8_bestMiles_130 : decode cX8_bestMiles 130 = .ok (.iinc 8 1, 3) := by decide +kernel
theorem dX8_bestMiles_133 : decode cX8_bestMiles 133 = .ok (.goto (-105), 3) := by decide +kernel
theorem dX8_bestMiles_136 : decode cX8_bestMiles 136 = .ok (.iload 7, 2) := by decide +kernel
theorem dX8_bestMiles_138 : decode cX8_bestMiles 138 = .ok (.iload 5, 2) := by decide +kernel
theorem dX8_bestMiles_140 : decode cX8_bestMiles 140 = .ok (.if_icmp .ge 8, 3) := by decide +kernel
theorem dX8_bestMiles_143 : decode cX8_bestMiles 143 = .ok (.iload 6, 2) := by decide +kernel
theorem dX8_bestMiles_145 : decode cX8_bestMiles 145 = .ok (.goto 5, 3) := by decide +kernel
theorem dX8_bestMiles_148 : decode cX8_bestMiles 148 = .ok (.iload 4, 2) := by decide +kernel
theorem dX8_bestMiles_150 : decode cX8_bestMiles 150 = .ok (.istore 4, 2) := by decide +kernel
theorem dX8_bestMiles_152 : decode cX8_bestMiles 152 = .ok (.iload 7, 2) := by decide +kernel
theorem dX8_bestMiles_154 : decode cX8_bestMiles 154 = .ok (.iload 5, 2) := by decide +kernel
theorem dX8_bestMiles_156 : decode cX8_bestMiles 156 = .ok (.if_icmp .ge 8, 3) := by decide +kernel
theorem dX8_bestMiles_159 : decode cX8_bestMiles 159 = .ok (.iload 7, 2) := by decide +kernel
theorem dX8_bestMiles_161 : decode cX8_bestMiles 161 = .ok (.goto 5, 3) := by decide +kernel
theorem dX8_bestMiles_164 : decode cX8_bestMiles 164 = .ok (.iload 5, 2) := by decide +kernel
theorem dX8_bestMiles_166 : decode cX8_bestMiles 166 = .ok (.istore 5, 2) := by decide +kernel
theorem dX8_bestMiles_168 : decode cX8_bestMiles 168 = .ok (.iinc 6 1, 3) := by decide +kernel
theorem dX8_bestMiles_171 : decode cX8_bestMiles 171 = .ok (.goto (-160), 3) := by decide +kernel
theorem dX8_bestMiles_174 : decode cX8_bestMiles 174 = .ok (.iload 4, 2) := by decide +kernel
theorem dX8_bestMiles_176 : decode cX8_bestMiles 176 = .ok (.ireturn, 1) := by decide +kernel
theorem dX8_foundBy_0 : decode cX8_foundBy 0 = .ok (.iconst 0, 1) := by decide +kernel
theorem dX8_foundBy_1 : decode cX8_foundBy 1 = .ok (.istore 6, 2) := by decide +kernel
theorem dX8_foundBy_3 : decode cX8_foundBy 3 = .ok (.iload 6, 2) := by decide +kernel
theorem dX8_foundBy_5 : decode cX8_foundBy 5 = .ok (.iload 4, 2) := by decide +kernel
theorem dX8_foundBy_7 : decode cX8_foundBy 7 = .ok (.if_icmp .ge 46, 3) := by decide +kernel
theorem dX8_foundBy_10 : decode cX8_foundBy 10 = .ok (.aload_n 0, 1) := by decide +kernel
theorem dX8_foundBy_11 : decode cX8_foundBy 11 = .ok (.getfield 16, 3) := by decide +kernel
theorem dX8_foundBy_14 : decode cX8_foundBy 14 = .ok (.iload_n 3, 1) := by decide +kernel
theorem dX8_foundBy_15 : decode cX8_foundBy 15 = .ok (.iconst 2, 1) := by decide +kernel
theorem dX8_foundBy_16 : decode cX8_foundBy 16 = .ok (.iload 6, 2) := by decide +kernel
theorem dX8_foundBy_18 : decode cX8_foundBy 18 = .ok (.imul, 1) := by decide +kernel
theorem dX8_foundBy_19 : decode cX8_foundBy 19 = .ok (.iadd, 1) := by decide +kernel
theorem dX8_foundBy_20 : decode cX8_foundBy 20 = .ok (.laload, 1) := by decide +kernel
theorem dX8_foundBy_21 : decode cX8_foundBy 21 = .ok (.lconst 0, 1) := by decide +kernel
theorem dX8_foundBy_22 : decode cX8_foundBy 22 = .ok (.lcmp, 1) := by decide +kernel
theorem dX8_foundBy_23 : decode cX8_foundBy 23 = .ok (.ifCond .lt 21, 3) := by decide +kernel
theorem dX8_foundBy_26 : decode cX8_foundBy 26 = .ok (.aload_n 0, 1) := by decide +kernel
theorem dX8_foundBy_27 : decode cX8_foundBy 27 = .ok (.getfield 16, 3) := by decide +kernel
theorem dX8_foundBy_30 : decode cX8_foundBy 30 = .ok (.iload_n 3, 1) := by decide +kernel
theorem dX8_foundBy_31 : decode cX8_foundBy 31 = .ok (.iconst 2, 1) := by decide +kernel
theorem dX8_foundBy_32 : decode cX8_foundBy 32 = .ok (.iload 6, 2) := by decide +kernel
theorem dX8_foundBy_34 : decode cX8_foundBy 34 = .ok (.imul, 1) := by decide +kernel
theorem dX8_foundBy_35 : decode cX8_foundBy 35 = .ok (.iadd, 1) := by decide +kernel
theorem dX8_foundBy_36 : decode cX8_foundBy 36 = .ok (.laload, 1) := by decide +kernel
theorem dX8_foundBy_37 : decode cX8_foundBy 37 = .ok (.ldc2_w 232, 3) := by decide +kernel
theorem dX8_foundBy_40 : decode cX8_foundBy 40 = .ok (.lcmp, 1) := by decide +kernel
theorem dX8_foundBy_41 : decode cX8_foundBy 41 = .ok (.ifCond .le 6, 3) := by decide +kernel
theorem dX8_foundBy_44 : decode cX8_foundBy 44 = .ok (.bipush (-2), 2) := by decide +kernel
theorem dX8_foundBy_46 : decode cX8_foundBy 46 = .ok (.ireturn, 1) := by decide +kernel
theorem dX8_foundBy_47 : decode cX8_foundBy 47 = .ok (.iinc 6 1, 3) := by decide +kernel
theorem dX8_foundBy_50 : decode cX8_foundBy 50 = .ok (.goto (-47), 3) := by decide +kernel
theorem dX8_foundBy_53 : decode cX8_foundBy 53 = .ok (.aload_n 0, 1) := by decide +kernel
theorem dX8_foundBy_54 : decode cX8_foundBy 54 = .ok (.iload_n 1, 1) := by decide +kernel
theorem dX8_foundBy_55 : decode cX8_foundBy 55 = .ok (.iload_n 2, 1) := by decide +kernel
theorem dX8_foundBy_56 : decode cX8_foundBy 56 = .ok (.iload_n 3, 1) := by decide +kernel
theorem dX8_foundBy_57 : decode cX8_foundBy 57 = .ok (.iload 4, 2) := by decide +kernel
theorem dX8_foundBy_59 : decode cX8_foundBy 59 = .ok (.invokevirtual 234, 3) := by decide +kernel
theorem dX8_foundBy_62 : decode cX8_foundBy 62 = .ok (.istore 6, 2) := by decide +kernel
theorem dX8_foundBy_64 : decode cX8_foundBy 64 = .ok (.iload 5, 2) := by decide +kernel
theorem dX8_foundBy_66 : decode cX8_foundBy 66 = .ok (.ifCond .ne 8, 3) := by decide +kernel
theorem dX8_foundBy_69 : decode cX8_foundBy 69 = .ok (.iload 6, 2) := by decide +kernel
theorem dX8_foundBy_71 : decode cX8_foundBy 71 = .ok (.goto 11, 3) := by decide +kernel
theorem dX8_foundBy_74 : decode cX8_foundBy 74 = .ok (.aload_n 0, 1) := by decide +kernel
theorem dX8_foundBy_75 : decode cX8_foundBy 75 = .ok (.iload_n 1, 1) := by decide +kernel
theorem dX8_foundBy_76 : decode cX8_foundBy 76 = .ok (.iload_n 2, 1) := by decide +kernel
theorem dX8_foundBy_77 : decode cX8_foundBy 77 = .ok (.iload 6, 2) := by decide +kernel
theorem dX8_foundBy_79 : decode cX8_foundBy 79 = .ok (.invokevirtual 237, 3) := by decide +kernel
theorem dX8_foundBy_82 : decode cX8_foundBy 82 = .ok (.ireturn, 1) := by decide +kernel
theorem dX8_partsBy_0 : decode cX8_partsBy 0 = .ok (.aload_n 0, 1) := by decide +kernel
theorem dX8_partsBy_1 : decode cX8_partsBy 1 = .ok (.iload_n 1, 1) := by decide +kernel
theorem dX8_partsBy_2 : decode cX8_partsBy 2 = .ok (.invokevirtual 105, 3) := by decide +kernel
theorem dX8_partsBy_5 : decode cX8_partsBy 5 = .ok (.ifCond .eq 41, 3) := by decide +kernel
theorem dX8_partsBy_8 : decode cX8_partsBy 8 = .ok (.iload_n 3, 1) := by decide +kernel
theorem dX8_partsBy_9 : decode cX8_partsBy 9 = .ok (.invokestatic 216, 3) := by decide +kernel
theorem dX8_partsBy_12 : decode cX8_partsBy 12 = .ok (.ifCond .eq 34, 3) := by decide +kernel
theorem dX8_partsBy_15 : decode cX8_partsBy 15 = .ok (.iload 4, 2) := by decide +kernel
theorem dX8_partsBy_17 : decode cX8_partsBy 17 = .ok (.iconst 0, 1) := by decide +kernel
theorem dX8_partsBy_18 : decode cX8_partsBy 18 = .ok (.iconst 3, 1) := by decide +kernel
theorem dX8_partsBy_19 : decode cX8_partsBy 19 = .ok (.invokestatic 57, 3) := by decide +kernel
theorem dX8_partsBy_22 : decode cX8_partsBy 22 = .ok (.ifCond .eq 24, 3) := by decide +kernel
theorem dX8_partsBy_25 : decode cX8_partsBy 25 = .ok (.iload 6, 2) := by decide +kernel
theorem dX8_partsBy_27 : decode cX8_partsBy 27 = .ok (.iconst 1, 1) := by decide +kernel
theorem dX8_partsBy_28 : decode cX8_partsBy 28 = .ok (.bipush 10, 2) := by decide +kernel
theorem dX8_partsBy_30 : decode cX8_partsBy 30 = .ok (.invokestatic 57, 3) := by decide +kernel
theorem dX8_partsBy_33 : decode cX8_partsBy 33 = .ok (.ifCond .eq 13, 3) := by decide +kernel
theorem dX8_partsBy_36 : decode cX8_partsBy 36 = .ok (.iload 7, 2) := by decide +kernel
theorem dX8_partsBy_38 : decode cX8_partsBy 38 = .ok (.iconst 0, 1) := by decide +kernel
theorem dX8_partsBy_39 : decode cX8_partsBy 39 = .ok (.iconst 1, 1) := by decide +kernel
theorem dX8_partsBy_40 : decode cX8_partsBy 40 = .ok (.invokestatic 57, 3) := by decide +kernel
theorem dX8_partsBy_43 : decode cX8_partsBy 43 = .ok (.ifCond .ne 5, 3) := by decide +kernel
theorem dX8_partsBy_46 : decode cX8_partsBy 46 = .ok (.iconst (-1), 1) := by decide +kernel
theorem dX8_partsBy_47 : decode cX8_partsBy 47 = .ok (.ireturn, 1) := by decide +kernel
theorem dX8_partsBy_48 : decode cX8_partsBy 48 = .ok (.aload_n 0, 1) := by decide +kernel
theorem dX8_partsBy_49 : decode cX8_partsBy 49 = .ok (.iload_n 3, 1) := by decide +kernel
theorem dX8_partsBy_50 : decode cX8_partsBy 50 = .ok (.iload 4, 2) := by decide +kernel
theorem dX8_partsBy_52 : decode cX8_partsBy 52 = .ok (.iload 5, 2) := by decide +kernel
theorem dX8_partsBy_54 : decode cX8_partsBy 54 = .ok (.iconst 2, 1) := by decide +kernel
theorem dX8_partsBy_55 : decode cX8_partsBy 55 = .ok (.iload 6, 2) := by decide +kernel
theorem dX8_partsBy_57 : decode cX8_partsBy 57 = .ok (.imul, 1) := by decide +kernel
theorem dX8_partsBy_58 : decode cX8_partsBy 58 = .ok (.invokevirtual 221, 3) := by decide +kernel
theorem dX8_partsBy_61 : decode cX8_partsBy 61 = .ok (.istore 8, 2) := by decide +kernel
theorem dX8_partsBy_63 : decode cX8_partsBy 63 = .ok (.iload 8, 2) := by decide +kernel
theorem dX8_partsBy_65 : decode cX8_partsBy 65 = .ok (.ifCond .eq 8, 3) := by decide +kernel
theorem dX8_partsBy_68 : decode cX8_partsBy 68 = .ok (.iload 8, 2) := by decide +kernel
theorem dX8_partsBy_70 : decode cX8_partsBy 70 = .ok (.goto 20, 3) := by decide +kernel
theorem dX8_partsBy_73 : decode cX8_partsBy 73 = .ok (.aload_n 0, 1) := by decide +kernel
theorem dX8_partsBy_74 : decode cX8_partsBy 74 = .ok (.iload_n 1, 1) := by decide +kernel
theorem dX8_partsBy_75 : decode cX8_partsBy 75 = .ok (.iload_n 2, 1) := by decide +kernel
theorem dX8_partsBy_76 : decode cX8_partsBy 76 = .ok (.bipush 24, 2) := by decide +kernel
theorem dX8_partsBy_78 : decode cX8_partsBy 78 = .ok (.iload_n 3, 1) := by decide +kernel
theorem dX8_partsBy_79 : decode cX8_partsBy 79 = .ok (.imul, 1) := by decide +kernel
theorem dX8_partsBy_80 : decode cX8_partsBy 80 = .ok (.iload 5, 2) := by decide +kernel
theorem dX8_partsBy_82 : decode cX8_partsBy 82 = .ok (.iadd, 1) := by decide +kernel
theorem dX8_partsBy_83 : decode cX8_partsBy 83 = .ok (.iload 6, 2) := by decide +kernel
theorem dX8_partsBy_85 : decode cX8_partsBy 85 = .ok (.iload 7, 2) := by decide +kernel
theorem dX8_partsBy_87 : decode cX8_partsBy 87 = .ok (.invokevirtual 241, 3) := by decide +kernel
theorem dX8_partsBy_90 : decode cX8_partsBy 90 = .ok (.ireturn, 1) := by decide +kernel
theorem dX8_skills_0 : decode cX8_skills 0 = .ok (.aload_n 0, 1) := by decide +kernel
theorem dX8_skills_1 : decode cX8_skills 1 = .ok (.iload_n 1, 1) := by decide +kernel
theorem dX8_skills_2 : decode cX8_skills 2 = .ok (.iconst 0, 1) := by decide +kernel
theorem dX8_skills_3 : decode cX8_skills 3 = .ok (.iload_n 2, 1) := by decide +kernel
theorem dX8_skills_4 : decode cX8_skills 4 = .ok (.iload_n 3, 1) := by decide +kernel
theorem dX8_skills_5 : decode cX8_skills 5 = .ok (.iload 4, 2) := by decide +kernel
theorem dX8_skills_7 : decode cX8_skills 7 = .ok (.iload 5, 2) := by decide +kernel
theorem dX8_skills_9 : decode cX8_skills 9 = .ok (.iload 6, 2) := by decide +kernel
theorem dX8_skills_11 : decode cX8_skills 11 = .ok (.invokevirtual 245, 3) := by decide +kernel
theorem dX8_skills_14 : decode cX8_skills 14 = .ok (.ireturn, 1) := by decide +kernel
theorem dX8_kinds_0 : decode cX8_kinds 0 = .ok (.aload_n 0, 1) := by decide +kernel
theorem dX8_kinds_1 : decode cX8_kinds 1 = .ok (.iload_n 1, 1) := by decide +kernel
theorem dX8_kinds_2 : decode cX8_kinds 2 = .ok (.iconst 1, 1) := by decide +kernel
theorem dX8_kinds_3 : decode cX8_kinds 3 = .ok (.iload_n 2, 1) := by decide +kernel
theorem dX8_kinds_4 : decode cX8_kinds 4 = .ok (.iload_n 3, 1) := by decide +kernel
theorem dX8_kinds_5 : decode cX8_kinds 5 = .ok (.iload 4, 2) := by decide +kernel
theorem dX8_kinds_7 : decode cX8_kinds 7 = .ok (.iload 5, 2) := by decide +kernel
theorem dX8_kinds_9 : decode cX8_kinds 9 = .ok (.iload 6, 2) := by decide +kernel
theorem dX8_kinds_11 : decode cX8_kinds 11 = .ok (.invokevirtual 245, 3) := by decide +kernel
theorem dX8_kinds_14 : decode cX8_kinds 14 = .ok (.ireturn, 1) := by decide +kernel
theorem dX8_count_0 : decode cX8_count 0 = .ok (.iconst 0, 1) := by decide +kernel
theorem dX8_count_1 : decode cX8_count 1 = .ok (.istore_n 2, 1) := by decide +kernel
theorem dX8_count_2 : decode cX8_count 2 = .ok (.iload_n 1, 1) := by decide +kernel
theorem dX8_count_3 : decode cX8_count 3 = .ok (.tableswitch 214 0 8 #[49, 56, 63, 107, 114, 146, 154, 204, 209], 49) := by decide +kernel
theorem dX8_count_52 : decode cX8_count 52 = .ok (.aload_n 0, 1) := by decide +kernel
theorem dX8_count_53 : decode cX8_count 53 = .ok (.getfield 23, 3) := by decide +kernel
theorem dX8_count_56 : decode cX8_count 56 = .ok (.iconst 1, 1) := by decide +kernel
theorem dX8_count_57 : decode cX8_count 57 = .ok (.iaload, 1) := by decide +kernel
theorem dX8_count_58 : decode cX8_count 58 = .ok (.ireturn, 1) := by decide +kernel
theorem dX8_count_59 : decode cX8_count 59 = .ok (.aload_n 0, 1) := by decide +kernel
theorem dX8_count_60 : decode cX8_count 60 = .ok (.getfield 23, 3) := by decide +kernel
theorem dX8_count_63 : decode cX8_count 63 = .ok (.iconst 2, 1) := by decide +kernel
theorem dX8_count_64 : decode cX8_count 64 = .ok (.iaload, 1) := by decide +kernel
theorem dX8_count_65 : decode cX8_count 65 = .ok (.ireturn, 1) := by decide +kernel
theorem dX8_count_66 : decode cX8_count 66 = .ok (.iconst 0, 1) := by decide +kernel
theorem dX8_count_67 : decode cX8_count 67 = .ok (.istore_n 3, 1) := by decide +kernel
theorem dX8_count_68 : decode cX8_count 68 = .ok (.iload_n 3, 1) := by decide +kernel
theorem dX8_count_69 : decode cX8_count 69 = .ok (.aload_n 0, 1) := by decide +kernel
theorem dX8_count_70 : decode cX8_count 70 = .ok (.getfield 23, 3) := by decide +kernel
theorem dX8_count_73 : decode cX8_count 73 = .ok (.iconst 2, 1) := by decide +kernel
theorem dX8_count_74 : decode cX8_count 74 = .ok (.iaload, 1) := by decide +kernel
theorem dX8_count_75 : decode cX8_count 75 = .ok (.if_icmp .ge 33, 3) := by decide +kernel
theorem dX8_count_78 : decode cX8_count 78 = .ok (.iload_n 2, 1) := by decide +kernel
theorem dX8_count_79 : decode cX8_count 79 = .ok (.aload_n 0, 1) := by decide +kernel
theorem dX8_count_80 : decode cX8_count 80 = .ok (.getfield 23, 3) := by decide +kernel
theorem dX8_count_83 : decode cX8_count 83 = .ok (.bipush 75, 2) := by decide +kernel
theorem dX8_count_85 : decode cX8_count 85 = .ok (.iload_n 3, 1) := by decide +kernel
theorem dX8_count_86 : decode cX8_count 86 = .ok (.iadd, 1) := by decide +kernel
theorem dX8_count_87 : decode cX8_count 87 = .ok (.iaload, 1) := by decide +kernel
theorem dX8_count_88 : decode cX8_count 88 = .ok (.bipush (-4), 2) := by decide +kernel
theorem dX8_count_90 : decode cX8_count 90 = .ok (.if_icmp .ne 9, 3) := by decide +kernel
theorem dX8_count_93 : decode cX8_count 93 = .ok (.iconst 1, 1) := by decide +kernel
theorem dX8_count_94 : decode cX8_count 94 = .ok (.iload_n 3, 1) := by decide +kernel
theorem dX8_count_95 : decode cX8_count 95 = .ok (.ishl, 1) := by decide +kernel
theorem dX8_count_96 : decode cX8_count 96 = .ok (.goto 4, 3) := by decide +kernel
theorem dX8_count_99 : decode cX8_count 99 = .ok (.iconst 0, 1) := by decide +kernel
theorem dX8_count_100 : decode cX8_count 100 = .ok (.ior, 1) := by decide +kernel
theorem dX8_count_101 : decode cX8_count 101 = .ok (.istore_n 2, 1) := by decide +kernel
theorem dX8_count_102 : decode cX8_count 102 = .ok (.iinc 3 1, 3) := by decide +kernel
theorem dX8_count_105 : decode cX8_count 105 = .ok (.goto (-37), 3) := by decide +kernel
theorem dX8_count_108 : decode cX8_count 108 = .ok (.iload_n 2, 1) := by decide +kernel
theorem dX8_count_109 : decode cX8_count 109 = .ok (.ireturn, 1) := by decide +kernel
theorem dX8_count_110 : decode cX8_count 110 = .ok (.aload_n 0, 1) := by decide +kernel
theorem dX8_count_111 : decode cX8_count 111 = .ok (.getfield 23, 3) := by decide +kernel
theorem dX8_count_114 : decode cX8_count 114 = .ok (.iconst 0, 1) := by decide +kernel
theorem dX8_count_115 : decode cX8_count 115 = .ok (.iaload, 1) := by decide +kernel
theorem dX8_count_116 : decode cX8_count 116 = .ok (.ireturn, 1) := by decide +kernel
theorem dX8_count_117 : decode cX8_count 117 = .ok (.iconst 0, 1) := by decide +kernel
theorem dX8_count_118 : decode cX8_count 118 = .ok (.istore_n 3, 1) := by decide +kernel
theorem dX8_count_119 : decode cX8_count 119 = .ok (.iload_n 3, 1) := by decide +kernel
theorem dX8_count_120 : decode cX8_count 120 = .ok (.aload_n 0, 1) := by decide +kernel
theorem dX8_count_121 : decode cX8_count 121 = .ok (.getfield 23, 3) := by decide +kernel
theorem dX8_count_124 : decode cX8_count 124 = .ok (.iconst 1, 1) := by decide +kernel
theorem dX8_count_125 : decode cX8_count 125 = .ok (.iaload, 1) := by decide +kernel
theorem dX8_count_126 : decode cX8_count 126 = .ok (.if_icmp .ge 21, 3) := by decide +kernel
theorem dX8_count_129 : decode cX8_count 129 = .ok (.iload_n 2, 1) := by decide +kernel
theorem dX8_count_130 : decode cX8_count 130 = .ok (.aload_n 0, 1) := by decide +kernel
theorem dX8_count_131 : decode cX8_count 131 = .ok (.getfield 23, 3) := by decide +kernel
theorem dX8_count_134 : decode cX8_count 134 = .ok (.bipush 39, 2) := by decide +kernel
theorem dX8_count_136 : decode cX8_count 136 = .ok (.iload_n 3, 1) := by decide +kernel
theorem dX8_count_137 : decode cX8_count 137 = .ok (.iadd, 1) := by decide +kernel
theorem dX8_count_138 : decode cX8_count 138 = .ok (.iaload, 1) := by decide +kernel
theorem dX8_count_139 : decode cX8_count 139 = .ok (.iadd, 1) := by decide +kernel
theorem dX8_count_140 : decode cX8_count 140 = .ok (.istore_n 2, 1) := by decide +kernel
theorem dX8_count_141 : decode cX8_count 141 = .ok (.iinc 3 1, 3) := by decide +kernel
theorem dX8_count_144 : decode cX8_count 144 = .ok (.goto (-25), 3) := by decide +kernel
theorem dX8_count_147 : decode cX8_count 147 = .ok (.iload_n 2, 1) := by decide +kernel
theorem dX8_count_148 : decode cX8_count 148 = .ok (.ireturn, 1) := by decide +kernel
theorem dX8_count_149 : decode cX8_count 149 = .ok (.aload_n 0, 1) := by decide +kernel
theorem dX8_count_150 : decode cX8_count 150 = .ok (.getfield 23, 3) := by decide +kernel
theorem dX8_count_153 : decode cX8_count 153 = .ok (.invokestatic 210, 3) := by decide +kernel
theorem dX8_count_156 : decode cX8_count 156 = .ok (.ireturn, 1) := by decide +kernel
theorem dX8_count_157 : decode cX8_count 157 = .ok (.iconst 0, 1) := by decide +kernel
theorem dX8_count_158 : decode cX8_count 158 = .ok (.istore_n 3, 1) := by decide +kernel
theorem dX8_count_159 : decode cX8_count 159 = .ok (.iload_n 3, 1) := by decide +kernel
theorem dX8_count_160 : decode cX8_count 160 = .ok (.aload_n 0, 1) := by decide +kernel
theorem dX8_count_161 : decode cX8_count 161 = .ok (.getfield 23, 3) := by decide +kernel
theorem dX8_count_164 : decode cX8_count 164 = .ok (.iconst 2, 1) := by decide +kernel
theorem dX8_count_165 : decode cX8_count 165 = .ok (.iaload, 1) := by decide +kernel
theorem dX8_count_166 : decode cX8_count 166 = .ok (.if_icmp .ge 39, 3) := by decide +kernel
theorem dX8_count_169 : decode cX8_count 169 = .ok (.iload_n 2, 1) := by decide +kernel
theorem dX8_count_170 : decode cX8_count 170 = .ok (.aload_n 0, 1) := by decide +kernel
theorem dX8_count_171 : decode cX8_count 171 = .ok (.getfield 23, 3) := by decide +kernel
theorem dX8_count_174 : decode cX8_count 174 = .ok (.bipush 75, 2) := by decide +kernel
theorem dX8_count_176 : decode cX8_count 176 = .ok (.iload_n 3, 1) := by decide +kernel
theorem dX8_count_177 : decode cX8_count 177 = .ok (.iadd, 1) := by decide +kernel
theorem dX8_count_178 : decode cX8_count 178 = .ok (.iaload, 1) := by decide +kernel
theorem dX8_count_179 : decode cX8_count 179 = .ok (.bipush (-4), 2) := by decide +kernel
theorem dX8_count_181 : decode cX8_count 181 = .ok (.if_icmp .ne 15, 3) := by decide +kernel
theorem dX8_count_184 : decode cX8_count 184 = .ok (.aload_n 0, 1) := by decide +kernel
theorem dX8_count_185 : decode cX8_count 185 = .ok (.getfield 23, 3) := by decide +kernel
theorem dX8_count_188 : decode cX8_count 188 = .ok (.bipush 67, 2) := by decide +kernel
theorem dX8_count_190 : decode cX8_count 190 = .ok (.iload_n 3, 1) := by decide +kernel
theorem dX8_count_191 : decode cX8_count 191 = .ok (.iadd, 1) := by decide +kernel
theorem dX8_count_192 : decode cX8_count 192 = .ok (.iaload, 1) := by decide +kernel
theorem dX8_count_193 : decode cX8_count 193 = .ok (.goto 4, 3) := by decide +kernel
theorem dX8_count_196 : decode cX8_count 196 = .ok (.iconst 0, 1) := by decide +kernel
theorem dX8_count_197 : decode cX8_count 197 = .ok (.iadd, 1) := by decide +kernel
theorem dX8_count_198 : decode cX8_count 198 = .ok (.istore_n 2, 1) := by decide +kernel
theorem dX8_count_199 : decode cX8_count 199 = .ok (.iinc 3 1, 3) := by decide +kernel
theorem dX8_count_202 : decode cX8_count 202 = .ok (.goto (-43), 3) := by decide +kernel
theorem dX8_count_205 : decode cX8_count 205 = .ok (.iload_n 2, 1) := by decide +kernel
theorem dX8_count_206 : decode cX8_count 206 = .ok (.ireturn, 1) := by decide +kernel
theorem dX8_count_207 : decode cX8_count 207 = .ok (.aload_n 0, 1) := by decide +kernel
theorem dX8_count_208 : decode cX8_count 208 = .ok (.getfield 102, 3) := by decide +kernel
theorem dX8_count_211 : decode cX8_count 211 = .ok (.ireturn, 1) := by decide +kernel
theorem dX8_count_212 : decode cX8_count 212 = .ok (.aload_n 0, 1) := by decide +kernel
theorem dX8_count_213 : decode cX8_count 213 = .ok (.getfield 61, 3) := by decide +kernel
theorem dX8_count_216 : decode cX8_count 216 = .ok (.ireturn, 1) := by decide +kernel
theorem dX8_count_217 : decode cX8_count 217 = .ok (.iconst (-1), 1) := by decide +kernel
theorem dX8_count_218 : decode cX8_count 218 = .ok (.ireturn, 1) := by decide +kernel
end
section
set_option maxRecDepth 20000 in
theorem dL_law_0 : decode cL_law 0 = .ok (.new 7, 3) := by decide +kernel
set_option maxRecDepth 20000 in
theorem dL_law_3 : decode cL_law 3 = .ok (.dup, 1) := by decide +kernel
set_option maxRecDepth 20000 in
theorem dL_law_4 : decode cL_law 4 = .ok (.invokespecial 9, 3) := by decide +kernel
set_option maxRecDepth 20000 in
theorem dL_law_7 : decode cL_law 7 = .ok (.astore_n 1, 1) := by decide +kernel
set_option maxRecDepth 20000 in
theorem dL_law_8 : decode cL_law 8 = .ok (.new 10, 3) := by decide +kernel
set_option maxRecDepth 20000 in
theorem dL_law_11 : decode cL_law 11 = .ok (.dup, 1) := by decide +kernel
set_option maxRecDepth 20000 in
theorem dL_law_12 : decode cL_law 12 = .ok (.invokespecial 12, 3) := by decide +kernel
set_option maxRecDepth 20000 in
theorem dL_law_15 : decode cL_law 15 = .ok (.astore_n 2, 1) := by decide +kernel
set_option maxRecDepth 20000 in
theorem dL_law_16 : decode cL_law 16 = .ok (.iconst 0, 1) := by decide +kernel
set_option maxRecDepth 20000 in
theorem dL_law_17 : decode cL_law 17 = .ok (.istore_n 3, 1) := by decide +kernel
set_option maxRecDepth 20000 in
theorem dL_law_18 : decode cL_law 18 = .ok (.iload_n 3, 1) := by decide +kernel
set_option maxRecDepth 20000 in
theorem dL_law_19 : decode cL_law 19 = .ok (.aload_n 0, 1) := by decide +kernel
set_option maxRecDepth 20000 in
theorem dL_law_20 : decode cL_law 20 = .ok (.arraylength, 1) := by decide +kernel
set_option maxRecDepth 20000 in
theorem dL_law_21 : decode cL_law 21 = .ok (.bipush 7, 2) := by decide +kernel
set_option maxRecDepth 20000 in
theorem dL_law_23 : decode cL_law 23 = .ok (.isub, 1) := by decide +kernel
set_option maxRecDepth 20000 in
theorem dL_law_24 : decode cL_law 24 = .ok (.if_icmp .gt 1255, 3) := by decide +kernel
set_option maxRecDepth 20000 in
theorem dL_law_27 : decode cL_law 27 = .ok (.aload_n 0, 1) := by decide +kernel
set_option maxRecDepth 20000 in
theorem dL_law_28 : decode cL_law 28 = .ok (.iload_n 3, 1) := by decide +kernel
set_option maxRecDepth 20000 in
theorem dL_law_29 : decode cL_law 29 = .ok (.iaload, 1) := by decide +kernel
set_option maxRecDepth 20000 in
theorem dL_law_30 : decode cL_law 30 = .ok (.bipush 31, 2) := by decide +kernel
set_option maxRecDepth 20000 in
theorem dL_law_32 : decode cL_law 32 = .ok (.iand, 1) := by decide +kernel
set_option maxRecDepth 20000 in
theorem dL_law_33 : decode cL_law 33 = .ok (.tableswitch 1240 0 29 #[135, 158, 171, 204, 237, 270, 303, 336, 379, 412, 425, 438, 461, 484, 517, 550, 583, 606, 639, 672, 705, 758, 801, 844, 867, 951, 1014, 1067, 1142, 1217], 135) := by decide +kernel
set_option maxRecDepth 20000 in
theorem dL_law_168 : decode cL_law 168 = .ok (.aload_n 1, 1) := by decide +kernel
set_option maxRecDepth 20000 in
theorem dL_law_169 : decode cL_law 169 = .ok (.aload_n 0, 1) := by decide +kernel
set_option maxRecDepth 20000 in
theorem dL_law_170 : decode cL_law 170 = .ok (.iload_n 3, 1) := by decide +kernel
set_option maxRecDepth 20000 in
theorem dL_law_171 : decode cL_law 171 = .ok (.iconst 1, 1) := by decide +kernel
set_option maxRecDepth 20000 in
theorem dL_law_172 : decode cL_law 172 = .ok (.iadd, 1) := by decide +kernel
set_option maxRecDepth 20000 in
theorem dL_law_173 : decode cL_law 173 = .ok (.iaload, 1) := by decide +kernel
set_option maxRecDepth 20000 in
theorem dL_law_174 : decode cL_law 174 = .ok (.invokevirtual 13, 3) := by decide +kernel
set_option maxRecDepth 20000 in
theorem dL_law_177 : decode cL_law 177 = .ok (.aload_n 2, 1) := by decide +kernel
set_option maxRecDepth 20000 in
theorem dL_law_178 : decode cL_law 178 = .ok (.aload_n 0, 1) := by decide +kernel
set_option maxRecDepth 20000 in
theorem dL_law_179 : decode cL_law 179 = .ok (.iload_n 3, 1) := by decide +kernel
set_option maxRecDepth 20000 in
theorem dL_law_180 : decode cL_law 180 = .ok (.iconst 1, 1) := by decide +kernel
set_option maxRecDepth 20000 in
theorem dL_law_181 : decode cL_law 181 = .ok (.iadd, 1) := by decide +kernel
set_option maxRecDepth 20000 in
theorem dL_law_182 : decode cL_law 182 = .ok (.iaload, 1) := by decide +kernel
set_option maxRecDepth 20000 in
theorem dL_law_183 : decode cL_law 183 = .ok (.invokevirtual 17, 3) := by decide +kernel
set_option maxRecDepth 20000 in
theorem dL_law_186 : decode cL_law 186 = .ok (.if_icmp .eq 1087, 3) := by decide +kernel
set_option maxRecDepth 20000 in
theorem dL_law_189 : decode cL_law 189 = .ok (.iconst 0, 1) := by decide +kernel
set_option maxRecDepth 20000 in
theorem dL_law_190 : decode cL_law 190 = .ok (.ireturn, 1) := by decide +kernel
set_option maxRecDepth 20000 in
theorem dL_law_191 : decode cL_law 191 = .ok (.aload_n 1, 1) := by decide +kernel
set_option maxRecDepth 20000 in
theorem dL_law_192 : decode cL_law 192 = .ok (.invokevirtual 18, 3) := by decide +kernel
set_option maxRecDepth 20000 in
theorem dL_law_195 : decode cL_law 195 = .ok (.aload_n 2, 1) := by decide +kernel
set_option maxRecDepth 20000 in
theorem dL_law_196 : decode cL_law 196 = .ok (.invokevirtual 22, 3) := by decide +kernel
set_option maxRecDepth 20000 in
theorem dL_law_199 : decode cL_law 199 = .ok (.if_icmp .eq 1074, 3) := by decide +kernel
set_option maxRecDepth 20000 in
theorem dL_law_202 : decode cL_law 202 = .ok (.iconst 0, 1) := by decide +kernel
set_option maxRecDepth 20000 in
theorem dL_law_203 : decode cL_law 203 = .ok (.ireturn, 1) := by decide +kernel
set_option maxRecDepth 20000 in
theorem dL_law_204 : decode cL_law 204 = .ok (.aload_n 1, 1) := by decide +kernel
set_option maxRecDepth 20000 in
theorem dL_law_205 : decode cL_law 205 = .ok (.aload_n 0, 1) := by decide +kernel
set_option maxRecDepth 20000 in
theorem dL_law_206 : decode cL_law 206 = .ok (.iload_n 3, 1) := by decide +kernel
set_option maxRecDepth 20000 in
theorem dL_law_207 : decode cL_law 207 = .ok (.iconst 1, 1) := by decide +kernel
set_option maxRecDepth 20000 in
theorem dL_law_208 : decode cL_law 208 = .ok (.iadd, 1) := by decide +kernel
set_option maxRecDepth 20000 in
theorem dL_law_209 : decode cL_law 209 = .ok (.iaload, 1) := by decide +kernel
set_option maxRecDepth 20000 in
theorem dL_law_210 : decode cL_law 210 = .ok (.aload_n 0, 1) := by decide +kernel
set_option maxRecDepth 20000 in
theorem dL_law_211 : decode cL_law 211 = .ok (.iload_n 3, 1) := by decide +kernel
set_option maxRecDepth 20000 in
theorem dL_law_212 : decode cL_law 212 = .ok (.iconst 2, 1) := by decide +kernel
set_option maxRecDepth 20000 in
theorem dL_law_213 : decode cL_law 213 = .ok (.iadd, 1) := by decide +kernel
set_option maxRecDepth 20000 in
theorem dL_law_214 : decode cL_law 214 = .ok (.iaload, 1) := by decide +kernel
set_option maxRecDepth 20000 in
theorem dL_law_215 : decode cL_law 215 = .ok (.invokevirtual 23, 3) := by decide +kernel
set_option maxRecDepth 20000 in
theorem dL_law_218 : decode cL_law 218 = .ok (.aload_n 2, 1) := by decide +kernel
set_option maxRecDepth 20000 in
theorem dL_law_219 : decode cL_law 219 = .ok (.aload_n 0, 1) := by decide +kernel
set_option maxRecDepth 20000 in
theorem dL_law_220 : decode cL_law 220 = .ok (.iload_n 3, 1) := by decide +kernel
set_option maxRecDepth 20000 in
theorem dL_law_221 : decode cL_law 221 = .ok (.iconst 1, 1) := by decide +kernel
set_option maxRecDepth 20000 in
theorem dL_law_222 : decode cL_law 222 = .ok (.iadd, 1) := by decide +kernel
set_option maxRecDepth 20000 in
theorem dL_law_223 : decode cL_law 223 = .ok (.iaload, 1) := by decide +kernel
set_option maxRecDepth 20000 in
theorem dL_law_224 : decode cL_law 224 = .ok (.aload_n 0, 1) := by decide +kernel
set_option maxRecDepth 20000 in
theorem dL_law_225 : decode cL_law 225 = .ok (.iload_n 3, 1) := by decide +kernel
set_option maxRecDepth 20000 in
theorem dL_law_226 : decode cL_law 226 = .ok (.iconst 2, 1) := by decide +kernel
set_option maxRecDepth 20000 in
theorem dL_law_227 : decode cL_law 227 = .ok (.iadd, 1) := by decide +kernel
set_option maxRecDepth 20000 in
theorem dL_law_228 : decode cL_law 228 = .ok (.iaload, 1) := by decide +kernel
set_option maxRecDepth 20000 in
theorem dL_law_229 : decode cL_law 229 = .ok (.invokevirtual 27, 3) := by decide +kernel
set_option maxRecDepth 20000 in
theorem dL_law_232 : decode cL_law 232 = .ok (.if_icmp .eq 1041, 3) := by decide +kernel
set_option maxRecDepth 20000 in
theorem dL_law_235 : decode cL_law 235 = .ok (.iconst 0, 1) := by decide +kernel
set_option maxRecDepth 20000 in
theorem dL_law_236 : decode cL_law 236 = .ok (.ireturn, 1) := by decide +kernel
set_option maxRecDepth 20000 in
theorem dL_law_237 : decode cL_law 237 = .ok (.aload_n 1, 1) := by decide +kernel
set_option maxRecDepth 20000 in
theorem dL_law_238 : decode cL_law 238 = .ok (.aload_n 0, 1) := by decide +kernel
set_option maxRecDepth 20000 in
theorem dL_law_239 : decode cL_law 239 = .ok (.iload_n 3, 1) := by decide +kernel
set_option maxRecDepth 20000 in
theorem dL_law_240 : decode cL_law 240 = .ok (.iconst 1, 1) := by decide +kernel
set_option maxRecDepth 20000 in
theorem dL_law_241 : decode cL_law 241 = .ok (.iadd, 1) := by decide +kernel
set_option maxRecDepth 20000 in
theorem dL_law_242 : decode cL_law 242 = .ok (.iaload, 1) := by decide +kernel
set_option maxRecDepth 20000 in
theorem dL_law_243 : decode cL_law 243 = .ok (.aload_n 0, 1) := by decide +kernel
set_option maxRecDepth 20000 in
theorem dL_law_244 : decode cL_law 244 = .ok (.iload_n 3, 1) := by decide +kernel
set_option maxRecDepth 20000 in
theorem dL_law_245 : decode cL_law 245 = .ok (.iconst 2, 1) := by decide +kernel
set_option maxRecDepth 20000 in
theorem dL_law_246 : decode cL_law 246 = .ok (.iadd, 1) := by decide +kernel
set_option maxRecDepth 20000 in
theorem dL_law_247 : decode cL_law 247 = .ok (.iaload, 1) := by decide +kernel
set_option maxRecDepth 20000 in
theorem dL_law_248 : decode cL_law 248 = .ok (.invokevirtual 28, 3) := by decide +kernel
set_option maxRecDepth 20000 in
theorem dL_law_251 : decode cL_law 251 = .ok (.aload_n 2, 1) := by decide +kernel
set_option maxRecDepth 20000 in
theorem dL_law_252 : decode cL_law 252 = .ok (.aload_n 0, 1) := by decide +kernel
set_option maxRecDepth 20000 in
theorem dL_law_253 : decode cL_law 253 = .ok (.iload_n 3, 1) := by decide +kernel
set_option maxRecDepth 20000 in
theorem dL_law_254 : decode cL_law 254 = .ok (.iconst 1, 1) := by decide +kernel
set_option maxRecDepth 20000 in
theorem dL_law_255 : decode cL_law 255 = .ok (.iadd, 1) := by decide +kernel
set_option maxRecDepth 20000 in
theorem dL_law_256 : decode cL_law 256 = .ok (.iaload, 1) := by decide +kernel
set_option maxRecDepth 20000 in
theorem dL_law_257 : decode cL_law 257 = .ok (.aload_n 0, 1) := by decide +kernel
set_option maxRecDepth 20000 in
theorem dL_law_258 : decode cL_law 258 = .ok (.iload_n 3, 1) := by decide +kernel
set_option maxRecDepth 20000 in
theorem dL_law_259 : decode cL_law 259 = .ok (.iconst 2, 1) := by decide +kernel
set_option maxRecDepth 20000 in
theorem dL_law_260 : decode cL_law 260 = .ok (.iadd, 1) := by decide +kernel
set_option maxRecDepth 20000 in
theorem dL_law_261 : decode cL_law 261 = .ok (.iaload, 1) := by decide +kernel
set_option maxRecDepth 20000 in
theorem dL_law_262 : decode cL_law 262 = .ok (.invokevirtual 31, 3) := by decide +kernel
set_option maxRecDepth 20000 in
theorem dL_law_265 : decode cL_law 265 = .ok (.if_icmp .eq 1008, 3) := by decide +kernel
set_option maxRecDepth 20000 in
theorem dL_law_268 : decode cL_law 268 = .ok (.iconst 0, 1) := by decide +kernel
set_option maxRecDepth 20000 in
theorem dL_law_269 : decode cL_law 269 = .ok (.ireturn, 1) := by decide +kernel
set_option maxRecDepth 20000 in
theorem dL_law_270 : decode cL_law 270 = .ok (.aload_n 1, 1) := by decide +kernel
set_option maxRecDepth 20000 in
theorem dL_law_271 : decode cL_law 271 = .ok (.aload_n 0, 1) := by decide +kernel
set_option maxRecDepth 20000 in
theorem dL_law_272 : decode cL_law 272 = .ok (.iload_n 3, 1) := by decide +kernel
set_option maxRecDepth 20000 in
theorem dL_law_273 : decode cL_law 273 = .ok (.iconst 1, 1) := by decide +kernel
set_option maxRecDepth 20000 in
theorem dL_law_274 : decode cL_law 274 = .ok (.iadd, 1) := by decide +kernel
set_option maxRecDepth 20000 in
theorem dL_law_275 : decode cL_law 275 = .ok (.iaload, 1) := by decide +kernel
set_option maxRecDepth 20000 in
theorem dL_law_276 : decode cL_law 276 = .ok (.aload_n 0, 1) := by decide +kernel
set_option maxRecDepth 20000 in
theorem dL_law_277 : decode cL_law 277 = .ok (.iload_n 3, 1) := by decide +kernel
set_option maxRecDepth 20000 in
theorem dL_law_278 : decode cL_law 278 = .ok (.iconst 2, 1) := by decide +kernel
set_option maxRecDepth 20000 in
theorem dL_law_279 : decode cL_law 279 = .ok (.iadd, 1) := by decide +kernel
set_option maxRecDepth 20000 in
theorem dL_law_280 : decode cL_law 280 = .ok (.iaload, 1) := by decide +kernel
set_option maxRecDepth 20000 in
theorem dL_law_281 : decode cL_law 281 = .ok (.invokevirtual 32, 3) := by decide +kernel
set_option maxRecDepth 20000 in
theorem dL_law_284 : decode cL_law 284 = .ok (.aload_n 2, 1) := by decide +kernel
set_option maxRecDepth 20000 in
theorem dL_law_285 : decode cL_law 285 = .ok (.aload_n 0, 1) := by decide +kernel
set_option maxRecDepth 20000 in
theorem dL_law_286 : decode cL_law 286 = .ok (.iload_n 3, 1) := by decide +kernel
set_option maxRecDepth 20000 in
theorem dL_law_287 : decode cL_law 287 = .ok (.iconst 1, 1) := by decide +kernel
set_option maxRecDepth 20000 in
theorem dL_law_288 : decode cL_law 288 = .ok (.iadd, 1) := by decide +kernel
set_option maxRecDepth 20000 in
theorem dL_law_289 : decode cL_law 289 = .ok (.iaload, 1) := by decide +kernel
set_option maxRecDepth 20000 in
theorem dL_law_290 : decode cL_law 290 = .ok (.aload_n 0, 1) := by decide +kernel
set_option maxRecDepth 20000 in
theorem dL_law_291 : decode cL_law 291 = .ok (.iload_n 3, 1) := by decide +kernel
set_option maxRecDepth 20000 in
theorem dL_law_292 : decode cL_law 292 = .ok (.iconst 2, 1) := by decide +kernel
set_option maxRecDepth 20000 in
theorem dL_law_293 : decode cL_law 293 = .ok (.iadd, 1) := by decide +kernel
set_option maxRecDepth 20000 in
theorem dL_law_294 : decode cL_law 294 = .ok (.iaload, 1) := by decide +kernel
set_option maxRecDepth 20000 in
theorem dL_law_295 : decode cL_law 295 = .ok (.invokevirtual 35, 3) := by decide +kernel
set_option maxRecDepth 20000 in
theorem dL_law_298 : decode cL_law 298 = .ok (.if_icmp .eq 975, 3) := by decide +kernel
set_option maxRecDepth 20000 in
theorem dL_law_301 : decode cL_law 301 = .ok (.iconst 0, 1) := by decide +kernel
set_option maxRecDepth 20000 in
theorem dL_law_302 : decode cL_law 302 = .ok (.ireturn, 1) := by decide +kernel
set_option maxRecDepth 20000 in
theorem dL_law_303 : decode cL_law 303 = .ok (.aload_n 1, 1) := by decide +kernel
set_option maxRecDepth 20000 in
theorem dL_law_304 : decode cL_law 304 = .ok (.aload_n 0, 1) := by decide +kernel
set_option maxRecDepth 20000 in
theorem dL_law_305 : decode cL_law 305 = .ok (.iload_n 3, 1) := by decide +kernel
set_option maxRecDepth 20000 in
theorem dL_law_306 : decode cL_law 306 = .ok (.iconst 1, 1) := by decide +kernel
set_option maxRecDepth 20000 in
theorem dL_law_307 : decode cL_law 307 = .ok (.iadd, 1) := by decide +kernel
set_option maxRecDepth 20000 in
theorem dL_law_308 : decode cL_law 308 = .ok (.iaload, 1) := by decide +kernel
set_option maxRecDepth 20000 in
theorem dL_law_309 : decode cL_law 309 = .ok (.aload_n 0, 1) := by decide +kernel
set_option maxRecDepth 20000 in
theorem dL_law_310 : decode cL_law 310 = .ok (.iload_n 3, 1) := by decide +kernel
set_option maxRecDepth 20000 in
theorem dL_law_311 : decode cL_law 311 = .ok (.iconst 2, 1) := by decide +kernel
set_option maxRecDepth 20000 in
theorem dL_law_312 : decode cL_law 312 = .ok (.iadd, 1) := by decide +kernel
set_option maxRecDepth 20000 in
theorem dL_law_313 : decode cL_law 313 = .ok (.iaload, 1) := by decide +kernel
set_option maxRecDepth 20000 in
theorem dL_law_314 : decode cL_law 314 = .ok (.invokevirtual 36, 3) := by decide +kernel
set_option maxRecDepth 20000 in
theorem dL_law_317 : decode cL_law 317 = .ok (.aload_n 2, 1) := by decide +kernel
set_option maxRecDepth 20000 in
theorem dL_law_318 : decode cL_law 318 = .ok (.aload_n 0, 1) := by decide +kernel
set_option maxRecDepth 20000 in
theorem dL_law_319 : decode cL_law 319 = .ok (.iload_n 3, 1) := by decide +kernel
set_option maxRecDepth 20000 in
theorem dL_law_320 : decode cL_law 320 = .ok (.iconst 1, 1) := by decide +kernel
set_option maxRecDepth 20000 in
theorem dL_law_321 : decode cL_law 321 = .ok (.iadd, 1) := by decide +kernel
set_option maxRecDepth 20000 in
theorem dL_law_322 : decode cL_law 322 = .ok (.iaload, 1) := by decide +kernel
set_option maxRecDepth 20000 in
theorem dL_law_323 : decode cL_law 323 = .ok (.aload_n 0, 1) := by decide +kernel
set_option maxRecDepth 20000 in
theorem dL_law_324 : decode cL_law 324 = .ok (.iload_n 3, 1) := by decide +kernel
set_option maxRecDepth 20000 in
theorem dL_law_325 : decode cL_law 325 = .ok (.iconst 2, 1) := by decide +kernel
set_option maxRecDepth 20000 in
theorem dL_law_326 : decode cL_law 326 = .ok (.iadd, 1) := by decide +kernel
set_option maxRecDepth 20000 in
theorem dL_law_327 : decode cL_law 327 = .ok (.iaload, 1) := by decide +kernel
set_option maxRecDepth 20000 in
theorem dL_law_328 : decode cL_law 328 = .ok (.invokevirtual 39, 3) := by decide +kernel
set_option maxRecDepth 20000 in
theorem dL_law_331 : decode cL_law 331 = .ok (.if_icmp .eq 942, 3) := by decide +kernel
set_option maxRecDepth 20000 in
theorem dL_law_334 : decode cL_law 334 = .ok (.iconst 0, 1) := by decide +kernel
set_option maxRecDepth 20000 in
theorem dL_law_335 : decode cL_law 335 = .ok (.ireturn, 1) := by decide +kernel
set_option maxRecDepth 20000 in
theorem dL_law_336 : decode cL_law 336 = .ok (.aload_n 1, 1) := by decide +kernel
set_option maxRecDepth 20000 in
theorem dL_law_337 : decode cL_law 337 = .ok (.aload_n 0, 1) := by decide +kernel
set_option maxRecDepth 20000 in
theorem dL_law_338 : decode cL_law 338 = .ok (.iload_n 3, 1) := by decide +kernel
set_option maxRecDepth 20000 in
theorem dL_law_339 : decode cL_law 339 = .ok (.iconst 1, 1) := by decide +kernel
set_option maxRecDepth 20000 in
theorem dL_law_340 : decode cL_law 340 = .ok (.iadd, 1) := by decide +kernel
set_option maxRecDepth 20000 in
theorem dL_law_341 : decode cL_law 341 = .ok (.iaload, 1) := by decide +kernel
set_option maxRecDepth 20000 in
theorem dL_law_342 : decode cL_law 342 = .ok (.aload_n 0, 1) := by decide +kernel
set_option maxRecDepth 20000 in
theorem dL_law_343 : decode cL_law 343 = .ok (.iload_n 3, 1) := by decide +kernel
set_option maxRecDepth 20000 in
theorem dL_law_344 : decode cL_law 344 = .ok (.iconst 2, 1) := by decide +kernel
set_option maxRecDepth 20000 in
theorem dL_law_345 : decode cL_law 345 = .ok (.iadd, 1) := by decide +kernel
set_option maxRecDepth 20000 in
theorem dL_law_346 : decode cL_law 346 = .ok (.iaload, 1) := by decide +kernel
set_option maxRecDepth 20000 in
theorem dL_law_347 : decode cL_law 347 = .ok (.invokevirtual 40, 3) := by decide +kernel
set_option maxRecDepth 20000 in
theorem dL_law_350 : decode cL_law 350 = .ok (.aload_n 2, 1) := by decide +kernel
set_option maxRecDepth 20000 in
theorem dL_law_351 : decode cL_law 351 = .ok (.aload_n 0, 1) := by decide +kernel
set_option maxRecDepth 20000 in
theorem dL_law_352 : decode cL_law 352 = .ok (.iload_n 3, 1) := by decide +kernel
set_option maxRecDepth 20000 in
theorem dL_law_353 : decode cL_law 353 = .ok (.iconst 1, 1) := by decide +kernel
set_option maxRecDepth 20000 in
theorem dL_law_354 : decode cL_law 354 = .ok (.iadd, 1) := by decide +kernel
set_option maxRecDepth 20000 in
theorem dL_law_355 : decode cL_law 355 = .ok (.iaload, 1) := by decide +kernel
set_option maxRecDepth 20000 in
theorem dL_law_356 : decode cL_law 356 = .ok (.aload_n 0, 1) := by decide +kernel
set_option maxRecDepth 20000 in
theorem dL_law_357 : decode cL_law 357 = .ok (.iload_n 3, 1) := by decide +kernel
set_option maxRecDepth 20000 in
theorem dL_law_358 : decode cL_law 358 = .ok (.iconst 2, 1) := by decide +kernel
set_option maxRecDepth 20000 in
theorem dL_law_359 : decode cL_law 359 = .ok (.iadd, 1) := by decide +kernel
set_option maxRecDepth 20000 in
theorem dL_law_360 : decode cL_law 360 = .ok (.iaload, 1) := by decide +kernel
set_option maxRecDepth 20000 in
theorem dL_law_361 : decode cL_law 361 = .ok (.invokevirtual 43, 3) := by decide +kernel
set_option maxRecDepth 20000 in
theorem dL_law_364 : decode cL_law 364 = .ok (.if_icmp .eq 909, 3) := by decide +kernel
set_option maxRecDepth 20000 in
theorem dL_law_367 : decode cL_law 367 = .ok (.iconst 0, 1) := by decide +kernel
set_option maxRecDepth 20000 in
theorem dL_law_368 : decode cL_law 368 = .ok (.ireturn, 1) := by decide +kernel
set_option maxRecDepth 20000 in
theorem dL_law_369 : decode cL_law 369 = .ok (.aload_n 1, 1) := by decide +kernel
set_option maxRecDepth 20000 in
theorem dL_law_370 : decode cL_law 370 = .ok (.aload_n 0, 1) := by decide +kernel
set_option maxRecDepth 20000 in
theorem dL_law_371 : decode cL_law 371 = .ok (.iload_n 3, 1) := by decide +kernel
set_option maxRecDepth 20000 in
theorem dL_law_372 : decode cL_law 372 = .ok (.iconst 1, 1) := by decide +kernel
set_option maxRecDepth 20000 in
theorem dL_law_373 : decode cL_law 373 = .ok (.iadd, 1) := by decide +kernel
set_option maxRecDepth 20000 in
theorem dL_law_374 : decode cL_law 374 = .ok (.iaload, 1) := by decide +kernel
set_option maxRecDepth 20000 in
theorem dL_law_375 : decode cL_law 375 = .ok (.aload_n 0, 1) := by decide +kernel
set_option maxRecDepth 20000 in
theorem dL_law_376 : decode cL_law 376 = .ok (.iload_n 3, 1) := by decide +kernel
set_option maxRecDepth 20000 in
theorem dL_law_377 : decode cL_law 377 = .ok (.iconst 2, 1) := by decide +kernel
set_option maxRecDepth 20000 in
theorem dL_law_378 : decode cL_law 378 = .ok (.iadd, 1) := by decide +kernel
set_option maxRecDepth 20000 in
theorem dL_law_379 : decode cL_law 379 = .ok (.iaload, 1) := by decide +kernel
set_option maxRecDepth 20000 in
theorem dL_law_380 : decode cL_law 380 = .ok (.aload_n 0, 1) := by decide +kernel
set_option maxRecDepth 20000 in
theorem dL_law_381 : decode cL_law 381 = .ok (.iload_n 3, 1) := by decide +kernel
set_option maxRecDepth 20000 in
theorem dL_law_382 : decode cL_law 382 = .ok (.iconst 3, 1) := by decide +kernel
set_option maxRecDepth 20000 in
theorem dL_law_383 : decode cL_law 383 = .ok (.iadd, 1) := by decide +kernel
set_option maxRecDepth 20000 in
theorem dL_law_384 : decode cL_law 384 = .ok (.iaload, 1) := by decide +kernel
set_option maxRecDepth 20000 in
theorem dL_law_385 : decode cL_law 385 = .ok (.invokevirtual 44, 3) := by decide +kernel
set_option maxRecDepth 20000 in
theorem dL_law_388 : decode cL_law 388 = .ok (.aload_n 2, 1) := by decide +kernel
set_option maxRecDepth 20000 in
theorem dL_law_389 : decode cL_law 389 = .ok (.aload_n 0, 1) := by decide +kernel
set_option maxRecDepth 20000 in
theorem dL_law_390 : decode cL_law 390 = .ok (.iload_n 3, 1) := by decide +kernel
set_option maxRecDepth 20000 in
theorem dL_law_391 : decode cL_law 391 = .ok (.iconst 1, 1) := by decide +kernel
set_option maxRecDepth 20000 in
theorem dL_law_392 : decode cL_law 392 = .ok (.iadd, 1) := by decide +kernel
set_option maxRecDepth 20000 in
theorem dL_law_393 : decode cL_law 393 = .ok (.iaload, 1) := by decide +kernel
set_option maxRecDepth 20000 in
theorem dL_law_394 : decode cL_law 394 = .ok (.aload_n 0, 1) := by decide +kernel
set_option maxRecDepth 20000 in
theorem dL_law_395 : decode cL_law 395 = .ok (.iload_n 3, 1) := by decide +kernel
set_option maxRecDepth 20000 in
theorem dL_law_396 : decode cL_law 396 = .ok (.iconst 2, 1) := by decide +kernel
set_option maxRecDepth 20000 in
theorem dL_law_397 : decode cL_law 397 = .ok (.iadd, 1) := by decide +kernel
set_option maxRecDepth 20000 in
theorem dL_law_398 : decode cL_law 398 = .ok (.iaload, 1) := by decide +kernel
set_option maxRecDepth 20000 in
theorem dL_law_399 : decode cL_law 399 = .ok (.aload_n 0, 1) := by decide +kernel
set_option maxRecDepth 20000 in
theorem dL_law_400 : decode cL_law 400 = .ok (.iload_n 3, 1) := by decide +kernel
set_option maxRecDepth 20000 in
theorem dL_law_401 : decode cL_law 401 = .ok (.iconst 3, 1) := by decide +kernel
set_option maxRecDepth 20000 in
theorem dL_law_402 : decode cL_law 402 = .ok (.iadd, 1) := by decide +kernel
set_option maxRecDepth 20000 in
theorem dL_law_403 : decode cL_law 403 = .ok (.iaload, 1) := by decide +kernel
set_option maxRecDepth 20000 in
theorem dL_law_404 : decode cL_law 404 = .ok (.invokevirtual 48, 3) := by decide +kernel
set_option maxRecDepth 20000 in
theorem dL_law_407 : decode cL_law 407 = .ok (.if_icmp .eq 866, 3) := by decide +kernel
set_option maxRecDepth 20000 in
theorem dL_law_410 : decode cL_law 410 = .ok (.iconst 0, 1) := by decide +kernel
set_option maxRecDepth 20000 in
theorem dL_law_411 : decode cL_law 411 = .ok (.ireturn, 1) := by decide +kernel
set_option maxRecDepth 20000 in
theorem dL_law_412 : decode cL_law 412 = .ok (.aload_n 1, 1) := by decide +kernel
set_option maxRecDepth 20000 in
theorem dL_law_413 : decode cL_law 413 = .ok (.aload_n 0, 1) := by decide +kernel
set_option maxRecDepth 20000 in
theorem dL_law_414 : decode cL_law 414 = .ok (.iload_n 3, 1) := by decide +kernel
set_option maxRecDepth 20000 in
theorem dL_law_415 : decode cL_law 415 = .ok (.iconst 1, 1) := by decide +kernel
set_option maxRecDepth 20000 in
theorem dL_law_416 : decode cL_law 416 = .ok (.iadd, 1) := by decide +kernel
set_option maxRecDepth 20000 in
theorem dL_law_417 : decode cL_law 417 = .ok (.iaload, 1) := by decide +kernel
set_option maxRecDepth 20000 in
theorem dL_law_418 : decode cL_law 418 = .ok (.aload_n 0, 1) := by decide +kernel
set_option maxRecDepth 20000 in
theorem dL_law_419 : decode cL_law 419 = .ok (.iload_n 3, 1) := by decide +kernel
set_option maxRecDepth 20000 in
theorem dL_law_420 : decode cL_law 420 = .ok (.iconst 2, 1) := by decide +kernel
set_option maxRecDepth 20000 in
theorem dL_law_421 : decode cL_law 421 = .ok (.iadd, 1) := by decide +kernel
set_option maxRecDepth 20000 in
theorem dL_law_422 : decode cL_law 422 = .ok (.iaload, 1) := by decide +kernel
set_option maxRecDepth 20000 in
theorem dL_law_423 : decode cL_law 423 = .ok (.invokevirtual 49, 3) := by decide +kernel
set_option maxRecDepth 20000 in
theorem dL_law_426 : decode cL_law 426 = .ok (.aload_n 2, 1) := by decide +kernel
set_option maxRecDepth 20000 in
theorem dL_law_427 : decode cL_law 427 = .ok (.aload_n 0, 1) := by decide +kernel
set_option maxRecDepth 20000 in
theorem dL_law_428 : decode cL_law 428 = .ok (.iload_n 3, 1) := by decide +kernel
set_option maxRecDepth 20000 in
theorem dL_law_429 : decode cL_law 429 = .ok (.iconst 1, 1) := by decide +kernel
set_option maxRecDepth 20000 in
theorem dL_law_430 : decode cL_law 430 = .ok (.iadd, 1) := by decide +kernel
set_option maxRecDepth 20000 in
theorem dL_law_431 : decode cL_law 431 = .ok (.iaload, 1) := by decide +kernel
set_option maxRecDepth 20000 in
theorem dL_law_432 : decode cL_law 432 = .ok (.aload_n 0, 1) := by decide +kernel
set_option maxRecDepth 20000 in
theorem dL_law_433 : decode cL_law 433 = .ok (.iload_n 3, 1) := by decide +kernel
set_option maxRecDepth 20000 in
theorem dL_law_434 : decode cL_law 434 = .ok (.iconst 2, 1) := by decide +kernel
set_option maxRecDepth 20000 in
theorem dL_law_435 : decode cL_law 435 = .ok (.iadd, 1) := by decide +kernel
set_option maxRecDepth 20000 in
theorem dL_law_436 : decode cL_law 436 = .ok (.iaload, 1) := by decide +kernel
set_option maxRecDepth 20000 in
theorem dL_law_437 : decode cL_law 437 = .ok (.invokevirtual 52, 3) := by decide +kernel
set_option maxRecDepth 20000 in
theorem dL_law_440 : decode cL_law 440 = .ok (.if_icmp .eq 833, 3) := by decide +kernel
set_option maxRecDepth 20000 in
theorem dL_law_443 : decode cL_law 443 = .ok (.iconst 0, 1) := by decide +kernel
set_option maxRecDepth 20000 in
theorem dL_law_444 : decode cL_law 444 = .ok (.ireturn, 1) := by decide +kernel
set_option maxRecDepth 20000 in
theorem dL_law_445 : decode cL_law 445 = .ok (.aload_n 1, 1) := by decide +kernel
set_option maxRecDepth 20000 in
theorem dL_law_446 : decode cL_law 446 = .ok (.invokevirtual 53, 3) := by decide +kernel
set_option maxRecDepth 20000 in
theorem dL_law_449 : decode cL_law 449 = .ok (.aload_n 2, 1) := by decide +kernel
set_option maxRecDepth 20000 in
theorem dL_law_450 : decode cL_law 450 = .ok (.invokevirtual 56, 3) := by decide +kernel
set_option maxRecDepth 20000 in
theorem dL_law_453 : decode cL_law 453 = .ok (.if_icmp .eq 820, 3) := by decide +kernel
set_option maxRecDepth 20000 in
theorem dL_law_456 : decode cL_law 456 = .ok (.iconst 0, 1) := by decide +kernel
set_option maxRecDepth 20000 in
theorem dL_law_457 : decode cL_law 457 = .ok (.ireturn, 1) := by decide +kernel
set_option maxRecDepth 20000 in
theorem dL_law_458 : decode cL_law 458 = .ok (.aload_n 1, 1) := by decide +kernel
set_option maxRecDepth 20000 in
theorem dL_law_459 : decode cL_law 459 = .ok (.invokevirtual 57, 3) := by decide +kernel
set_option maxRecDepth 20000 in
theorem dL_law_462 : decode cL_law 462 = .ok (.aload_n 2, 1) := by decide +kernel
set_option maxRecDepth 20000 in
theorem dL_law_463 : decode cL_law 463 = .ok (.invokevirtual 60, 3) := by decide +kernel
set_option maxRecDepth 20000 in
theorem dL_law_466 : decode cL_law 466 = .ok (.if_icmp .eq 807, 3) := by decide +kernel
set_option maxRecDepth 20000 in
theorem dL_law_469 : decode cL_law 469 = .ok (.iconst 0, 1) := by decide +kernel
set_option maxRecDepth 20000 in
theorem dL_law_470 : decode cL_law 470 = .ok (.ireturn, 1) := by decide +kernel
set_option maxRecDepth 20000 in
theorem dL_law_471 : decode cL_law 471 = .ok (.aload_n 1, 1) := by decide +kernel
set_option maxRecDepth 20000 in
theorem dL_law_472 : decode cL_law 472 = .ok (.aload_n 0, 1) := by decide +kernel
set_option maxRecDepth 20000 in
theorem dL_law_473 : decode cL_law 473 = .ok (.iload_n 3, 1) := by decide +kernel
set_option maxRecDepth 20000 in
theorem dL_law_474 : decode cL_law 474 = .ok (.iconst 1, 1) := by decide +kernel
set_option maxRecDepth 20000 in
theorem dL_law_475 : decode cL_law 475 = .ok (.iadd, 1) := by decide +kernel
set_option maxRecDepth 20000 in
theorem dL_law_476 : decode cL_law 476 = .ok (.iaload, 1) := by decide +kernel
set_option maxRecDepth 20000 in
theorem dL_law_477 : decode cL_law 477 = .ok (.invokevirtual 61, 3) := by decide +kernel
set_option maxRecDepth 20000 in
theorem dL_law_480 : decode cL_law 480 = .ok (.aload_n 2, 1) := by decide +kernel
set_option maxRecDepth 20000 in
theorem dL_law_481 : decode cL_law 481 = .ok (.aload_n 0, 1) := by decide +kernel
set_option maxRecDepth 20000 in
theorem dL_law_482 : decode cL_law 482 = .ok (.iload_n 3, 1) := by decide +kernel
set_option maxRecDepth 20000 in
theorem dL_law_483 : decode cL_law 483 = .ok (.iconst 1, 1) := by decide +kernel
set_option maxRecDepth 20000 in
theorem dL_law_484 : decode cL_law 484 = .ok (.iadd, 1) := by decide +kernel
set_option maxRecDepth 20000 in
theorem dL_law_485 : decode cL_law 485 = .ok (.iaload, 1) := by decide +kernel
set_option maxRecDepth 20000 in
theorem dL_law_486 : decode cL_law 486 = .ok (.invokevirtual 64, 3) := by decide +kernel
set_option maxRecDepth 20000 in
theorem dL_law_489 : decode cL_law 489 = .ok (.if_icmp .eq 784, 3) := by decide +kernel
set_option maxRecDepth 20000 in
theorem dL_law_492 : decode cL_law 492 = .ok (.iconst 0, 1) := by decide +kernel
set_option maxRecDepth 20000 in
theorem dL_law_493 : decode cL_law 493 = .ok (.ireturn, 1) := by decide +kernel
set_option maxRecDepth 20000 in
theorem dL_law_494 : decode cL_law 494 = .ok (.aload_n 1, 1) := by decide +kernel
set_option maxRecDepth 20000 in
theorem dL_law_495 : decode cL_law 495 = .ok (.aload_n 0, 1) := by decide +kernel
set_option maxRecDepth 20000 in
theorem dL_law_496 : decode cL_law 496 = .ok (.iload_n 3, 1) := by decide +kernel
set_option maxRecDepth 20000 in
theorem dL_law_497 : decode cL_law 497 = .ok (.iconst 1, 1) := by decide +kernel
set_option maxRecDepth 20000 in
theorem dL_law_498 : decode cL_law 498 = .ok (.iadd, 1) := by decide +kernel
set_option maxRecDepth 20000 in
theorem dL_law_499 : decode cL_law 499 = .ok (.iaload, 1) := by decide +kernel
set_option maxRecDepth 20000 in
theorem dL_law_500 : decode cL_law 500 = .ok (.invokevirtual 65, 3) := by decide +kernel
set_option maxRecDepth 20000 in
theorem dL_law_503 : decode cL_law 503 = .ok (.aload_n 2, 1) := by decide +kernel
set_option maxRecDepth 20000 in
theorem dL_law_504 : decode cL_law 504 = .ok (.aload_n 0, 1) := by decide +kernel
set_option maxRecDepth 20000 in
theorem dL_law_505 : decode cL_law 505 = .ok (.iload_n 3, 1) := by decide +kernel
set_option maxRecDepth 20000 in
theorem dL_law_506 : decode cL_law 506 = .ok (.iconst 1, 1) := by decide +kernel
set_option maxRecDepth 20000 in
theorem dL_law_507 : decode cL_law 507 = .ok (.iadd, 1) := by decide +kernel
set_option maxRecDepth 20000 in
theorem dL_law_508 : decode cL_law 508 = .ok (.iaload, 1) := by decide +kernel
set_option maxRecDepth 20000 in
theorem dL_law_509 : decode cL_law 509 = .ok (.invokevirtual 68, 3) := by decide +kernel
set_option maxRecDepth 20000 in
theorem dL_law_512 : decode cL_law 512 = .ok (.if_icmp .eq 761, 3) := by decide +kernel
set_option maxRecDepth 20000 in
theorem dL_law_515 : decode cL_law 515 = .ok (.iconst 0, 1) := by decide +kernel
set_option maxRecDepth 20000 in
theorem dL_law_516 : decode cL_law 516 = .ok (.ireturn, 1) := by decide +kernel
set_option maxRecDepth 20000 in
theorem dL_law_517 : decode cL_law 517 = .ok (.aload_n 1, 1) := by decide +kernel
set_option maxRecDepth 20000 in
theorem dL_law_518 : decode cL_law 518 = .ok (.aload_n 0, 1) := by decide +kernel
set_option maxRecDepth 20000 in
theorem dL_law_519 : decode cL_law 519 = .ok (.iload_n 3, 1) := by decide +kernel
set_option maxRecDepth 20000 in
theorem dL_law_520 : decode cL_law 520 = .ok (.iconst 1, 1) := by decide +kernel
set_option maxRecDepth 20000 in
theorem dL_law_521 : decode cL_law 521 = .ok (.iadd, 1) := by decide +kernel
set_option maxRecDepth 20000 in
theorem dL_law_522 : decode cL_law 522 = .ok (.iaload, 1) := by decide +kernel
set_option maxRecDepth 20000 in
theorem dL_law_523 : decode cL_law 523 = .ok (.aload_n 0, 1) := by decide +kernel
set_option maxRecDepth 20000 in
theorem dL_law_524 : decode cL_law 524 = .ok (.iload_n 3, 1) := by decide +kernel
set_option maxRecDepth 20000 in
theorem dL_law_525 : decode cL_law 525 = .ok (.iconst 2, 1) := by decide +kernel
set_option maxRecDepth 20000 in
theorem dL_law_526 : decode cL_law 526 = .ok (.iadd, 1) := by decide +kernel
set_option maxRecDepth 20000 in
theorem dL_law_527 : decode cL_law 527 = .ok (.iaload, 1) := by decide +kernel
set_option maxRecDepth 20000 in
theorem dL_law_528 : decode cL_law 528 = .ok (.invokevirtual 69, 3) := by decide +kernel
set_option maxRecDepth 20000 in
theorem dL_law_531 : decode cL_law 531 = .ok (.aload_n 2, 1) := by decide +kernel
set_option maxRecDepth 20000 in
theorem dL_law_532 : decode cL_law 532 = .ok (.aload_n 0, 1) := by decide +kernel
set_option maxRecDepth 20000 in
theorem dL_law_533 : decode cL_law 533 = .ok (.iload_n 3, 1) := by decide +kernel
set_option maxRecDepth 20000 in
theorem dL_law_534 : decode cL_law 534 = .ok (.iconst 1, 1) := by decide +kernel
set_option maxRecDepth 20000 in
theorem dL_law_535 : decode cL_law 535 = .ok (.iadd, 1) := by decide +kernel
set_option maxRecDepth 20000 in
theorem dL_law_536 : decode cL_law 536 = .ok (.iaload, 1) := by decide +kernel
set_option maxRecDepth 20000 in
theorem dL_law_537 : decode cL_law 537 = .ok (.aload_n 0, 1) := by decide +kernel
set_option maxRecDepth 20000 in
theorem dL_law_538 : decode cL_law 538 = .ok (.iload_n 3, 1) := by decide +kernel
set_option maxRecDepth 20000 in
theorem dL_law_539 : decode cL_law 539 = .ok (.iconst 2, 1) := by decide +kernel
set_option maxRecDepth 20000 in
theorem dL_law_540 : decode cL_law 540 = .ok (.iadd, 1) := by decide +kernel
set_option maxRecDepth 20000 in
theorem dL_law_541 : decode cL_law 541 = .ok (.iaload, 1) := by decide +kernel
set_option maxRecDepth 20000 in
theorem dL_law_542 : decode cL_law 542 = .ok (.invokevirtual 72, 3) := by decide +kernel
set_option maxRecDepth 20000 in
theorem dL_law_545 : decode cL_law 545 = .ok (.if_icmp .eq 728, 3) := by decide +kernel
set_option maxRecDepth 20000 in
theorem dL_law_548 : decode cL_law 548 = .ok (.iconst 0, 1) := by decide +kernel
set_option maxRecDepth 20000 in
theorem dL_law_549 : decode cL_law 549 = .ok (.ireturn, 1) := by decide +kernel
set_option maxRecDepth 20000 in
theorem dL_law_550 : decode cL_law 550 = .ok (.aload_n 1, 1) := by decide +kernel
set_option maxRecDepth 20000 in
theorem dL_law_551 : decode cL_law 551 = .ok (.aload_n 0, 1) := by decide +kernel
set_option maxRecDepth 20000 in
theorem dL_law_552 : decode cL_law 552 = .ok (.iload_n 3, 1) := by decide +kernel
set_option maxRecDepth 20000 in
theorem dL_law_553 : decode cL_law 553 = .ok (.iconst 1, 1) := by decide +kernel
set_option maxRecDepth 20000 in
theorem dL_law_554 : decode cL_law 554 = .ok (.iadd, 1) := by decide +kernel
set_option maxRecDepth 20000 in
theorem dL_law_555 : decode cL_law 555 = .ok (.iaload, 1) := by decide +kernel
set_option maxRecDepth 20000 in
theorem dL_law_556 : decode cL_law 556 = .ok (.aload_n 0, 1) := by decide +kernel
set_option maxRecDepth 20000 in
theorem dL_law_557 : decode cL_law 557 = .ok (.iload_n 3, 1) := by decide +kernel
set_option maxRecDepth 20000 in
theorem dL_law_558 : decode cL_law 558 = .ok (.iconst 2, 1) := by decide +kernel
set_option maxRecDepth 20000 in
theorem dL_law_559 : decode cL_law 559 = .ok (.iadd, 1) := by decide +kernel
set_option maxRecDepth 20000 in
theorem dL_law_560 : decode cL_law 560 = .ok (.iaload, 1) := by decide +kernel
set_option maxRecDepth 20000 in
theorem dL_law_561 : decode cL_law 561 = .ok (.invokevirtual 73, 3) := by decide +kernel
set_option maxRecDepth 20000 in
theorem dL_law_564 : decode cL_law 564 = .ok (.aload_n 2, 1) := by decide +kernel
set_option maxRecDepth 20000 in
theorem dL_law_565 : decode cL_law 565 = .ok (.aload_n 0, 1) := by decide +kernel
set_option maxRecDepth 20000 in
theorem dL_law_566 : decode cL_law 566 = .ok (.iload_n 3, 1) := by decide +kernel
set_option maxRecDepth 20000 in
theorem dL_law_567 : decode cL_law 567 = .ok (.iconst 1, 1) := by decide +kernel
set_option maxRecDepth 20000 in
theorem dL_law_568 : decode cL_law 568 = .ok (.iadd, 1) := by decide +kernel
set_option maxRecDepth 20000 in
theorem dL_law_569 : decode cL_law 569 = .ok (.iaload, 1) := by decide +kernel
set_option maxRecDepth 20000 in
theorem dL_law_570 : decode cL_law 570 = .ok (.aload_n 0, 1) := by decide +kernel
set_option maxRecDepth 20000 in
theorem dL_law_571 : decode cL_law 571 = .ok (.iload_n 3, 1) := by decide +kernel
set_option maxRecDepth 20000 in
theorem dL_law_572 : decode cL_law 572 = .ok (.iconst 2, 1) := by decide +kernel
set_option maxRecDepth 20000 in
theorem dL_law_573 : decode cL_law 573 = .ok (.iadd, 1) := by decide +kernel
set_option maxRecDepth 20000 in
theorem dL_law_574 : decode cL_law 574 = .ok (.iaload, 1) := by decide +kernel
set_option maxRecDepth 20000 in
theorem dL_law_575 : decode cL_law 575 = .ok (.invokevirtual 76, 3) := by decide +kernel
set_option maxRecDepth 20000 in
theorem dL_law_578 : decode cL_law 578 = .ok (.if_icmp .eq 695, 3) := by decide +kernel
set_option maxRecDepth 20000 in
theorem dL_law_581 : decode cL_law 581 = .ok (.iconst 0, 1) := by decide +kernel
set_option maxRecDepth 20000 in
theorem dL_law_582 : decode cL_law 582 = .ok (.ireturn, 1) := by decide +kernel
set_option maxRecDepth 20000 in
theorem dL_law_583 : decode cL_law 583 = .ok (.aload_n 1, 1) := by decide +kernel
set_option maxRecDepth 20000 in
theorem dL_law_584 : decode cL_law 584 = .ok (.aload_n 0, 1) := by decide +kernel
set_option maxRecDepth 20000 in
theorem dL_law_585 : decode cL_law 585 = .ok (.iload_n 3, 1) := by decide +kernel
set_option maxRecDepth 20000 in
theorem dL_law_586 : decode cL_law 586 = .ok (.iconst 1, 1) := by decide +kernel
set_option maxRecDepth 20000 in
theorem dL_law_587 : decode cL_law 587 = .ok (.iadd, 1) := by decide +kernel
set_option maxRecDepth 20000 in
theorem dL_law_588 : decode cL_law 588 = .ok (.iaload, 1) := by decide +kernel
set_option maxRecDepth 20000 in
theorem dL_law_589 : decode cL_law 589 = .ok (.aload_n 0, 1) := by decide +kernel
set_option maxRecDepth 20000 in
theorem dL_law_590 : decode cL_law 590 = .ok (.iload_n 3, 1) := by decide +kernel
set_option maxRecDepth 20000 in
theorem dL_law_591 : decode cL_law 591 = .ok (.iconst 2, 1) := by decide +kernel
set_option maxRecDepth 20000 in
theorem dL_law_592 : decode cL_law 592 = .ok (.iadd, 1) := by decide +kernel
set_option maxRecDepth 20000 in
theorem dL_law_593 : decode cL_law 593 = .ok (.iaload, 1) := by decide +kernel
set_option maxRecDepth 20000 in
theorem dL_law_594 : decode cL_law 594 = .ok (.invokevirtual 77, 3) := by decide +kernel
set_option maxRecDepth 20000 in
theorem dL_law_597 : decode cL_law 597 = .ok (.aload_n 2, 1) := by decide +kernel
set_option maxRecDepth 20000 in
theorem dL_law_598 : decode cL_law 598 = .ok (.aload_n 0, 1) := by decide +kernel
set_option maxRecDepth 20000 in
theorem dL_law_599 : decode cL_law 599 = .ok (.iload_n 3, 1) := by decide +kernel
set_option maxRecDepth 20000 in
theorem dL_law_600 : decode cL_law 600 = .ok (.iconst 1, 1) := by decide +kernel
set_option maxRecDepth 20000 in
theorem dL_law_601 : decode cL_law 601 = .ok (.iadd, 1) := by decide +kernel
set_option maxRecDepth 20000 in
theorem dL_law_602 : decode cL_law 602 = .ok (.iaload, 1) := by decide +kernel
set_option maxRecDepth 20000 in
theorem dL_law_603 : decode cL_law 603 = .ok (.aload_n 0, 1) := by decide +kernel
set_option maxRecDepth 20000 in
theorem dL_law_604 : decode cL_law 604 = .ok (.iload_n 3, 1) := by decide +kernel
set_option maxRecDepth 20000 in
theorem dL_law_605 : decode cL_law 605 = .ok (.iconst 2, 1) := by decide +kernel
set_option maxRecDepth 20000 in
theorem dL_law_606 : decode cL_law 606 = .ok (.iadd, 1) := by decide +kernel
set_option maxRecDepth 20000 in
theorem dL_law_607 : decode cL_law 607 = .ok (.iaload, 1) := by decide +kernel
set_option maxRecDepth 20000 in
theorem dL_law_608 : decode cL_law 608 = .ok (.invokevirtual 80, 3) := by decide +kernel
set_option maxRecDepth 20000 in
theorem dL_law_611 : decode cL_law 611 = .ok (.if_icmp .eq 662, 3) := by decide +kernel
set_option maxRecDepth 20000 in
theorem dL_law_614 : decode cL_law 614 = .ok (.iconst 0, 1) := by decide +kernel
set_option maxRecDepth 20000 in
theorem dL_law_615 : decode cL_law 615 = .ok (.ireturn, 1) := by decide +kernel
set_option maxRecDepth 20000 in
theorem dL_law_616 : decode cL_law 616 = .ok (.aload_n 1, 1) := by decide +kernel
set_option maxRecDepth 20000 in
theorem dL_law_617 : decode cL_law 617 = .ok (.aload_n 0, 1) := by decide +kernel
set_option maxRecDepth 20000 in
theorem dL_law_618 : decode cL_law 618 = .ok (.iload_n 3, 1) := by decide +kernel
set_option maxRecDepth 20000 in
theorem dL_law_619 : decode cL_law 619 = .ok (.iconst 1, 1) := by decide +kernel
set_option maxRecDepth 20000 in
theorem dL_law_620 : decode cL_law 620 = .ok (.iadd, 1) := by decide +kernel
set_option maxRecDepth 20000 in
theorem dL_law_621 : decode cL_law 621 = .ok (.iaload, 1) := by decide +kernel
set_option maxRecDepth 20000 in
theorem dL_law_622 : decode cL_law 622 = .ok (.invokevirtual 81, 3) := by decide +kernel
set_option maxRecDepth 20000 in
theorem dL_law_625 : decode cL_law 625 = .ok (.aload_n 2, 1) := by decide +kernel
set_option maxRecDepth 20000 in
theorem dL_law_626 : decode cL_law 626 = .ok (.aload_n 0, 1) := by decide +kernel
set_option maxRecDepth 20000 in
theorem dL_law_627 : decode cL_law 627 = .ok (.iload_n 3, 1) := by decide +kernel
set_option maxRecDepth 20000 in
theorem dL_law_628 : decode cL_law 628 = .ok (.iconst 1, 1) := by decide +kernel
set_option maxRecDepth 20000 in
theorem dL_law_629 : decode cL_law 629 = .ok (.iadd, 1) := by decide +kernel
set_option maxRecDepth 20000 in
theorem dL_law_630 : decode cL_law 630 = .ok (.iaload, 1) := by decide +kernel
set_option maxRecDepth 20000 in
theorem dL_law_631 : decode cL_law 631 = .ok (.invokevirtual 84, 3) := by decide +kernel
set_option maxRecDepth 20000 in
theorem dL_law_634 : decode cL_law 634 = .ok (.if_icmp .eq 639, 3) := by decide +kernel
set_option maxRecDepth 20000 in
theorem dL_law_637 : decode cL_law 637 = .ok (.iconst 0, 1) := by decide +kernel
set_option maxRecDepth 20000 in
theorem dL_law_638 : decode cL_law 638 = .ok (.ireturn, 1) := by decide +kernel
set_option maxRecDepth 20000 in
theorem dL_law_639 : decode cL_law 639 = .ok (.aload_n 1, 1) := by decide +kernel
set_option maxRecDepth 20000 in
theorem dL_law_640 : decode cL_law 640 = .ok (.aload_n 0, 1) := by decide +kernel
set_option maxRecDepth 20000 in
theorem dL_law_641 : decode cL_law 641 = .ok (.iload_n 3, 1) := by decide +kernel
set_option maxRecDepth 20000 in
theorem dL_law_642 : decode cL_law 642 = .ok (.iconst 1, 1) := by decide +kernel
set_option maxRecDepth 20000 in
theorem dL_law_643 : decode cL_law 643 = .ok (.iadd, 1) := by decide +kernel
set_option maxRecDepth 20000 in
theorem dL_law_644 : decode cL_law 644 = .ok (.iaload, 1) := by decide +kernel
set_option maxRecDepth 20000 in
theorem dL_law_645 : decode cL_law 645 = .ok (.aload_n 0, 1) := by decide +kernel
set_option maxRecDepth 20000 in
theorem dL_law_646 : decode cL_law 646 = .ok (.iload_n 3, 1) := by decide +kernel
set_option maxRecDepth 20000 in
theorem dL_law_647 : decode cL_law 647 = .ok (.iconst 2, 1) := by decide +kernel
set_option maxRecDepth 20000 in
theorem dL_law_648 : decode cL_law 648 = .ok (.iadd, 1) := by decide +kernel
set_option maxRecDepth 20000 in
theorem dL_law_649 : decode cL_law 649 = .ok (.iaload, 1) := by decide +kernel
set_option maxRecDepth 20000 in
theorem dL_law_650 : decode cL_law 650 = .ok (.invokevirtual 85, 3) := by decide +kernel
set_option maxRecDepth 20000 in
theorem dL_law_653 : decode cL_law 653 = .ok (.aload_n 2, 1) := by decide +kernel
set_option maxRecDepth 20000 in
theorem dL_law_654 : decode cL_law 654 = .ok (.aload_n 0, 1) := by decide +kernel
set_option maxRecDepth 20000 in
theorem dL_law_655 : decode cL_law 655 = .ok (.iload_n 3, 1) := by decide +kernel
set_option maxRecDepth 20000 in
theorem dL_law_656 : decode cL_law 656 = .ok (.iconst 1, 1) := by decide +kernel
set_option maxRecDepth 20000 in
theorem dL_law_657 : decode cL_law 657 = .ok (.iadd, 1) := by decide +kernel
set_option maxRecDepth 20000 in
theorem dL_law_658 : decode cL_law 658 = .ok (.iaload, 1) := by decide +kernel
set_option maxRecDepth 20000 in
theorem dL_law_659 : decode cL_law 659 = .ok (.aload_n 0, 1) := by decide +kernel
set_option maxRecDepth 20000 in
theorem dL_law_660 : decode cL_law 660 = .ok (.iload_n 3, 1) := by decide +kernel
set_option maxRecDepth 20000 in
theorem dL_law_661 : decode cL_law 661 = .ok (.iconst 2, 1) := by decide +kernel
set_option maxRecDepth 20000 in
theorem dL_law_662 : decode cL_law 662 = .ok (.iadd, 1) := by decide +kernel
set_option maxRecDepth 20000 in
theorem dL_law_663 : decode cL_law 663 = .ok (.iaload, 1) := by decide +kernel
set_option maxRecDepth 20000 in
theorem dL_law_664 : decode cL_law 664 = .ok (.invokevirtual 88, 3) := by decide +kernel
set_option maxRecDepth 20000 in
theorem dL_law_667 : decode cL_law 667 = .ok (.if_icmp .eq 606, 3) := by decide +kernel
set_option maxRecDepth 20000 in
theorem dL_law_670 : decode cL_law 670 = .ok (.iconst 0, 1) := by decide +kernel
set_option maxRecDepth 20000 in
theorem dL_law_671 : decode cL_law 671 = .ok (.ireturn, 1) := by decide +kernel
set_option maxRecDepth 20000 in
theorem dL_law_672 : decode cL_law 672 = .ok (.aload_n 1, 1) := by decide +kernel
set_option maxRecDepth 20000 in
theorem dL_law_673 : decode cL_law 673 = .ok (.aload_n 0, 1) := by decide +kernel
set_option maxRecDepth 20000 in
theorem dL_law_674 : decode cL_law 674 = .ok (.iload_n 3, 1) := by decide +kernel
set_option maxRecDepth 20000 in
theorem dL_law_675 : decode cL_law 675 = .ok (.iconst 1, 1) := by decide +kernel
set_option maxRecDepth 20000 in
theorem dL_law_676 : decode cL_law 676 = .ok (.iadd, 1) := by decide +kernel
set_option maxRecDepth 20000 in
theorem dL_law_677 : decode cL_law 677 = .ok (.iaload, 1) := by decide +kernel
set_option maxRecDepth 20000 in
theorem dL_law_678 : decode cL_law 678 = .ok (.aload_n 0, 1) := by decide +kernel
set_option maxRecDepth 20000 in
theorem dL_law_679 : decode cL_law 679 = .ok (.iload_n 3, 1) := by decide +kernel
set_option maxRecDepth 20000 in
theorem dL_law_680 : decode cL_law 680 = .ok (.iconst 2, 1) := by decide +kernel
set_option maxRecDepth 20000 in
theorem dL_law_681 : decode cL_law 681 = .ok (.iadd, 1) := by decide +kernel
set_option maxRecDepth 20000 in
theorem dL_law_682 : decode cL_law 682 = .ok (.iaload, 1) := by decide +kernel
set_option maxRecDepth 20000 in
theorem dL_law_683 : decode cL_law 683 = .ok (.invokevirtual 89, 3) := by decide +kernel
set_option maxRecDepth 20000 in
theorem dL_law_686 : decode cL_law 686 = .ok (.aload_n 2, 1) := by decide +kernel
set_option maxRecDepth 20000 in
theorem dL_law_687 : decode cL_law 687 = .ok (.aload_n 0, 1) := by decide +kernel
set_option maxRecDepth 20000 in
theorem dL_law_688 : decode cL_law 688 = .ok (.iload_n 3, 1) := by decide +kernel
set_option maxRecDepth 20000 in
theorem dL_law_689 : decode cL_law 689 = .ok (.iconst 1, 1) := by decide +kernel
set_option maxRecDepth 20000 in
theorem dL_law_690 : decode cL_law 690 = .ok (.iadd, 1) := by decide +kernel
set_option maxRecDepth 20000 in
theorem dL_law_691 : decode cL_law 691 = .ok (.iaload, 1) := by decide +kernel
set_option maxRecDepth 20000 in
theorem dL_law_692 : decode cL_law 692 = .ok (.aload_n 0, 1) := by decide +kernel
set_option maxRecDepth 20000 in
theorem dL_law_693 : decode cL_law 693 = .ok (.iload_n 3, 1) := by decide +kernel
set_option maxRecDepth 20000 in
theorem dL_law_694 : decode cL_law 694 = .ok (.iconst 2, 1) := by decide +kernel
set_option maxRecDepth 20000 in
theorem dL_law_695 : decode cL_law 695 = .ok (.iadd, 1) := by decide +kernel
set_option maxRecDepth 20000 in
theorem dL_law_696 : decode cL_law 696 = .ok (.iaload, 1) := by decide +kernel
set_option maxRecDepth 20000 in
theorem dL_law_697 : decode cL_law 697 = .ok (.invokevirtual 92, 3) := by decide +kernel
set_option maxRecDepth 20000 in
theorem dL_law_700 : decode cL_law 700 = .ok (.if_icmp .eq 573, 3) := by decide +kernel
set_option maxRecDepth 20000 in
theorem dL_law_703 : decode cL_law 703 = .ok (.iconst 0, 1) := by decide +kernel
set_option maxRecDepth 20000 in
theorem dL_law_704 : decode cL_law 704 = .ok (.ireturn, 1) := by decide +kernel
set_option maxRecDepth 20000 in
theorem dL_law_705 : decode cL_law 705 = .ok (.aload_n 1, 1) := by decide +kernel
set_option maxRecDepth 20000 in
theorem dL_law_706 : decode cL_law 706 = .ok (.aload_n 0, 1) := by decide +kernel
set_option maxRecDepth 20000 in
theorem dL_law_707 : decode cL_law 707 = .ok (.iload_n 3, 1) := by decide +kernel
set_option maxRecDepth 20000 in
theorem dL_law_708 : decode cL_law 708 = .ok (.iconst 1, 1) := by decide +kernel
set_option maxRecDepth 20000 in
theorem dL_law_709 : decode cL_law 709 = .ok (.iadd, 1) := by decide +kernel
set_option maxRecDepth 20000 in
theorem dL_law_710 : decode cL_law 710 = .ok (.iaload, 1) := by decide +kernel
set_option maxRecDepth 20000 in
theorem dL_law_711 : decode cL_law 711 = .ok (.aload_n 0, 1) := by decide +kernel
set_option maxRecDepth 20000 in
theorem dL_law_712 : decode cL_law 712 = .ok (.iload_n 3, 1) := by decide +kernel
set_option maxRecDepth 20000 in
theorem dL_law_713 : decode cL_law 713 = .ok (.iconst 2, 1) := by decide +kernel
set_option maxRecDepth 20000 in
theorem dL_law_714 : decode cL_law 714 = .ok (.iadd, 1) := by decide +kernel
set_option maxRecDepth 20000 in
theorem dL_law_715 : decode cL_law 715 = .ok (.iaload, 1) := by decide +kernel
set_option maxRecDepth 20000 in
theorem dL_law_716 : decode cL_law 716 = .ok (.invokevirtual 93, 3) := by decide +kernel
set_option maxRecDepth 20000 in
theorem dL_law_719 : decode cL_law 719 = .ok (.aload_n 2, 1) := by decide +kernel
set_option maxRecDepth 20000 in
theorem dL_law_720 : decode cL_law 720 = .ok (.aload_n 0, 1) := by decide +kernel
set_option maxRecDepth 20000 in
theorem dL_law_721 : decode cL_law 721 = .ok (.iload_n 3, 1) := by decide +kernel
set_option maxRecDepth 20000 in
theorem dL_law_722 : decode cL_law 722 = .ok (.iconst 1, 1) := by decide +kernel
set_option maxRecDepth 20000 in
theorem dL_law_723 : decode cL_law 723 = .ok (.iadd, 1) := by decide +kernel
set_option maxRecDepth 20000 in
theorem dL_law_724 : decode cL_law 724 = .ok (.iaload, 1) := by decide +kernel
set_option maxRecDepth 20000 in
theorem dL_law_725 : decode cL_law 725 = .ok (.aload_n 0, 1) := by decide +kernel
set_option maxRecDepth 20000 in
theorem dL_law_726 : decode cL_law 726 = .ok (.iload_n 3, 1) := by decide +kernel
set_option maxRecDepth 20000 in
theorem dL_law_727 : decode cL_law 727 = .ok (.iconst 2, 1) := by decide +kernel
set_option maxRecDepth 20000 in
theorem dL_law_728 : decode cL_law 728 = .ok (.iadd, 1) := by decide +kernel
set_option maxRecDepth 20000 in
theorem dL_law_729 : decode cL_law 729 = .ok (.iaload, 1) := by decide +kernel
set_option maxRecDepth 20000 in
theorem dL_law_730 : decode cL_law 730 = .ok (.invokevirtual 96, 3) := by decide +kernel
set_option maxRecDepth 20000 in
theorem dL_law_733 : decode cL_law 733 = .ok (.if_icmp .eq 540, 3) := by decide +kernel
set_option maxRecDepth 20000 in
theorem dL_law_736 : decode cL_law 736 = .ok (.iconst 0, 1) := by decide +kernel
set_option maxRecDepth 20000 in
theorem dL_law_737 : decode cL_law 737 = .ok (.ireturn, 1) := by decide +kernel
set_option maxRecDepth 20000 in
theorem dL_law_738 : decode cL_law 738 = .ok (.aload_n 1, 1) := by decide +kernel
set_option maxRecDepth 20000 in
theorem dL_law_739 : decode cL_law 739 = .ok (.aload_n 0, 1) := by decide +kernel
set_option maxRecDepth 20000 in
theorem dL_law_740 : decode cL_law 740 = .ok (.iload_n 3, 1) := by decide +kernel
set_option maxRecDepth 20000 in
theorem dL_law_741 : decode cL_law 741 = .ok (.iconst 1, 1) := by decide +kernel
set_option maxRecDepth 20000 in
theorem dL_law_742 : decode cL_law 742 = .ok (.iadd, 1) := by decide +kernel
set_option maxRecDepth 20000 in
theorem dL_law_743 : decode cL_law 743 = .ok (.iaload, 1) := by decide +kernel
set_option maxRecDepth 20000 in
theorem dL_law_744 : decode cL_law 744 = .ok (.aload_n 0, 1) := by decide +kernel
set_option maxRecDepth 20000 in
theorem dL_law_745 : decode cL_law 745 = .ok (.iload_n 3, 1) := by decide +kernel
set_option maxRecDepth 20000 in
theorem dL_law_746 : decode cL_law 746 = .ok (.iconst 2, 1) := by decide +kernel
set_option maxRecDepth 20000 in
theorem dL_law_747 : decode cL_law 747 = .ok (.iadd, 1) := by decide +kernel
set_option maxRecDepth 20000 in
theorem dL_law_748 : decode cL_law 748 = .ok (.iaload, 1) := by decide +kernel
set_option maxRecDepth 20000 in
theorem dL_law_749 : decode cL_law 749 = .ok (.aload_n 0, 1) := by decide +kernel
set_option maxRecDepth 20000 in
theorem dL_law_750 : decode cL_law 750 = .ok (.iload_n 3, 1) := by decide +kernel
set_option maxRecDepth 20000 in
theorem dL_law_751 : decode cL_law 751 = .ok (.iconst 3, 1) := by decide +kernel
set_option maxRecDepth 20000 in
theorem dL_law_752 : decode cL_law 752 = .ok (.iadd, 1) := by decide +kernel
set_option maxRecDepth 20000 in
theorem dL_law_753 : decode cL_law 753 = .ok (.iaload, 1) := by decide +kernel
set_option maxRecDepth 20000 in
theorem dL_law_754 : decode cL_law 754 = .ok (.aload_n 0, 1) := by decide +kernel
set_option maxRecDepth 20000 in
theorem dL_law_755 : decode cL_law 755 = .ok (.iload_n 3, 1) := by decide +kernel
set_option maxRecDepth 20000 in
theorem dL_law_756 : decode cL_law 756 = .ok (.iconst 4, 1) := by decide +kernel
set_option maxRecDepth 20000 in
theorem dL_law_757 : decode cL_law 757 = .ok (.iadd, 1) := by decide +kernel
set_option maxRecDepth 20000 in
theorem dL_law_758 : decode cL_law 758 = .ok (.iaload, 1) := by decide +kernel
set_option maxRecDepth 20000 in
theorem dL_law_759 : decode cL_law 759 = .ok (.invokevirtual 97, 3) := by decide +kernel
set_option maxRecDepth 20000 in
theorem dL_law_762 : decode cL_law 762 = .ok (.aload_n 2, 1) := by decide +kernel
set_option maxRecDepth 20000 in
theorem dL_law_763 : decode cL_law 763 = .ok (.aload_n 0, 1) := by decide +kernel
set_option maxRecDepth 20000 in
theorem dL_law_764 : decode cL_law 764 = .ok (.iload_n 3, 1) := by decide +kernel
set_option maxRecDepth 20000 in
theorem dL_law_765 : decode cL_law 765 = .ok (.iconst 1, 1) := by decide +kernel
set_option maxRecDepth 20000 in
theorem dL_law_766 : decode cL_law 766 = .ok (.iadd, 1) := by decide +kernel
set_option maxRecDepth 20000 in
theorem dL_law_767 : decode cL_law 767 = .ok (.iaload, 1) := by decide +kernel
set_option maxRecDepth 20000 in
theorem dL_law_768 : decode cL_law 768 = .ok (.aload_n 0, 1) := by decide +kernel
set_option maxRecDepth 20000 in
theorem dL_law_769 : decode cL_law 769 = .ok (.iload_n 3, 1) := by decide +kernel
set_option maxRecDepth 20000 in
theorem dL_law_770 : decode cL_law 770 = .ok (.iconst 2, 1) := by decide +kernel
set_option maxRecDepth 20000 in
theorem dL_law_771 : decode cL_law 771 = .ok (.iadd, 1) := by decide +kernel
set_option maxRecDepth 20000 in
theorem dL_law_772 : decode cL_law 772 = .ok (.iaload, 1) := by decide +kernel
set_option maxRecDepth 20000 in
theorem dL_law_773 : decode cL_law 773 = .ok (.aload_n 0, 1) := by decide +kernel
set_option maxRecDepth 20000 in
theorem dL_law_774 : decode cL_law 774 = .ok (.iload_n 3, 1) := by decide +kernel
set_option maxRecDepth 20000 in
theorem dL_law_775 : decode cL_law 775 = .ok (.iconst 3, 1) := by decide +kernel
set_option maxRecDepth 20000 in
theorem dL_law_776 : decode cL_law 776 = .ok (.iadd, 1) := by decide +kernel
set_option maxRecDepth 20000 in
theorem dL_law_777 : decode cL_law 777 = .ok (.iaload, 1) := by decide +kernel
set_option maxRecDepth 20000 in
theorem dL_law_778 : decode cL_law 778 = .ok (.aload_n 0, 1) := by decide +kernel
set_option maxRecDepth 20000 in
theorem dL_law_779 : decode cL_law 779 = .ok (.iload_n 3, 1) := by decide +kernel
set_option maxRecDepth 20000 in
theorem dL_law_780 : decode cL_law 780 = .ok (.iconst 4, 1) := by decide +kernel
set_option maxRecDepth 20000 in
theorem dL_law_781 : decode cL_law 781 = .ok (.iadd, 1) := by decide +kernel
set_option maxRecDepth 20000 in
theorem dL_law_782 : decode cL_law 782 = .ok (.iaload, 1) := by decide +kernel
set_option maxRecDepth 20000 in
theorem dL_law_783 : decode cL_law 783 = .ok (.invokevirtual 101, 3) := by decide +kernel
set_option maxRecDepth 20000 in
theorem dL_law_786 : decode cL_law 786 = .ok (.if_icmp .eq 487, 3) := by decide +kernel
set_option maxRecDepth 20000 in
theorem dL_law_789 : decode cL_law 789 = .ok (.iconst 0, 1) := by decide +kernel
set_option maxRecDepth 20000 in
theorem dL_law_790 : decode cL_law 790 = .ok (.ireturn, 1) := by decide +kernel
set_option maxRecDepth 20000 in
theorem dL_law_791 : decode cL_law 791 = .ok (.aload_n 1, 1) := by decide +kernel
set_option maxRecDepth 20000 in
theorem dL_law_792 : decode cL_law 792 = .ok (.aload_n 0, 1) := by decide +kernel
set_option maxRecDepth 20000 in
theorem dL_law_793 : decode cL_law 793 = .ok (.iload_n 3, 1) := by decide +kernel
set_option maxRecDepth 20000 in
theorem dL_law_794 : decode cL_law 794 = .ok (.iconst 1, 1) := by decide +kernel
set_option maxRecDepth 20000 in
theorem dL_law_795 : decode cL_law 795 = .ok (.iadd, 1) := by decide +kernel
set_option maxRecDepth 20000 in
theorem dL_law_796 : decode cL_law 796 = .ok (.iaload, 1) := by decide +kernel
set_option maxRecDepth 20000 in
theorem dL_law_797 : decode cL_law 797 = .ok (.aload_n 0, 1) := by decide +kernel
set_option maxRecDepth 20000 in
theorem dL_law_798 : decode cL_law 798 = .ok (.iload_n 3, 1) := by decide +kernel
set_option maxRecDepth 20000 in
theorem dL_law_799 : decode cL_law 799 = .ok (.iconst 2, 1) := by decide +kernel
set_option maxRecDepth 20000 in
theorem dL_law_800 : decode cL_law 800 = .ok (.iadd, 1) := by decide +kernel
set_option maxRecDepth 20000 in
theorem dL_law_801 : decode cL_law 801 = .ok (.iaload, 1) := by decide +kernel
set_option maxRecDepth 20000 in
theorem dL_law_802 : decode cL_law 802 = .ok (.aload_n 0, 1) := by decide +kernel
set_option maxRecDepth 20000 in
theorem dL_law_803 : decode cL_law 803 = .ok (.iload_n 3, 1) := by decide +kernel
set_option maxRecDepth 20000 in
theorem dL_law_804 : decode cL_law 804 = .ok (.iconst 3, 1) := by decide +kernel
set_option maxRecDepth 20000 in
theorem dL_law_805 : decode cL_law 805 = .ok (.iadd, 1) := by decide +kernel
set_option maxRecDepth 20000 in
theorem dL_law_806 : decode cL_law 806 = .ok (.iaload, 1) := by decide +kernel
set_option maxRecDepth 20000 in
theorem dL_law_807 : decode cL_law 807 = .ok (.invokevirtual 102, 3) := by decide +kernel
set_option maxRecDepth 20000 in
theorem dL_law_810 : decode cL_law 810 = .ok (.aload_n 2, 1) := by decide +kernel
set_option maxRecDepth 20000 in
theorem dL_law_811 : decode cL_law 811 = .ok (.aload_n 0, 1) := by decide +kernel
set_option maxRecDepth 20000 in
theorem dL_law_812 : decode cL_law 812 = .ok (.iload_n 3, 1) := by decide +kernel
set_option maxRecDepth 20000 in
theorem dL_law_813 : decode cL_law 813 = .ok (.iconst 1, 1) := by decide +kernel
set_option maxRecDepth 20000 in
theorem dL_law_814 : decode cL_law 814 = .ok (.iadd, 1) := by decide +kernel
set_option maxRecDepth 20000 in
theorem dL_law_815 : decode cL_law 815 = .ok (.iaload, 1) := by decide +kernel
set_option maxRecDepth 20000 in
theorem dL_law_816 : decode cL_law 816 = .ok (.aload_n 0, 1) := by decide +kernel
set_option maxRecDepth 20000 in
theorem dL_law_817 : decode cL_law 817 = .ok (.iload_n 3, 1) := by decide +kernel
set_option maxRecDepth 20000 in
theorem dL_law_818 : decode cL_law 818 = .ok (.iconst 2, 1) := by decide +kernel
set_option maxRecDepth 20000 in
theorem dL_law_819 : decode cL_law 819 = .ok (.iadd, 1) := by decide +kernel
set_option maxRecDepth 20000 in
theorem dL_law_820 : decode cL_law 820 = .ok (.iaload, 1) := by decide +kernel
set_option maxRecDepth 20000 in
theorem dL_law_821 : decode cL_law 821 = .ok (.aload_n 0, 1) := by decide +kernel
set_option maxRecDepth 20000 in
theorem dL_law_822 : decode cL_law 822 = .ok (.iload_n 3, 1) := by decide +kernel
set_option maxRecDepth 20000 in
theorem dL_law_823 : decode cL_law 823 = .ok (.iconst 3, 1) := by decide +kernel
set_option maxRecDepth 20000 in
theorem dL_law_824 : decode cL_law 824 = .ok (.iadd, 1) := by decide +kernel
set_option maxRecDepth 20000 in
theorem dL_law_825 : decode cL_law 825 = .ok (.iaload, 1) := by decide +kernel
set_option maxRecDepth 20000 in
theorem dL_law_826 : decode cL_law 826 = .ok (.invokevirtual 105, 3) := by decide +kernel
set_option maxRecDepth 20000 in
theorem dL_law_829 : decode cL_law 829 = .ok (.if_icmp .eq 444, 3) := by decide +kernel
set_option maxRecDepth 20000 in
theorem dL_law_832 : decode cL_law 832 = .ok (.iconst 0, 1) := by decide +kernel
set_option maxRecDepth 20000 in
theorem dL_law_833 : decode cL_law 833 = .ok (.ireturn, 1) := by decide +kernel
set_option maxRecDepth 20000 in
theorem dL_law_834 : decode cL_law 834 = .ok (.aload_n 1, 1) := by decide +kernel
set_option maxRecDepth 20000 in
theorem dL_law_835 : decode cL_law 835 = .ok (.aload_n 0, 1) := by decide +kernel
set_option maxRecDepth 20000 in
theorem dL_law_836 : decode cL_law 836 = .ok (.iload_n 3, 1) := by decide +kernel
set_option maxRecDepth 20000 in
theorem dL_law_837 : decode cL_law 837 = .ok (.iconst 1, 1) := by decide +kernel
set_option maxRecDepth 20000 in
theorem dL_law_838 : decode cL_law 838 = .ok (.iadd, 1) := by decide +kernel
set_option maxRecDepth 20000 in
theorem dL_law_839 : decode cL_law 839 = .ok (.iaload, 1) := by decide +kernel
set_option maxRecDepth 20000 in
theorem dL_law_840 : decode cL_law 840 = .ok (.aload_n 0, 1) := by decide +kernel
set_option maxRecDepth 20000 in
theorem dL_law_841 : decode cL_law 841 = .ok (.iload_n 3, 1) := by decide +kernel
set_option maxRecDepth 20000 in
theorem dL_law_842 : decode cL_law 842 = .ok (.iconst 2, 1) := by decide +kernel
set_option maxRecDepth 20000 in
theorem dL_law_843 : decode cL_law 843 = .ok (.iadd, 1) := by decide +kernel
set_option maxRecDepth 20000 in
theorem dL_law_844 : decode cL_law 844 = .ok (.iaload, 1) := by decide +kernel
set_option maxRecDepth 20000 in
theorem dL_law_845 : decode cL_law 845 = .ok (.aload_n 0, 1) := by decide +kernel
set_option maxRecDepth 20000 in
theorem dL_law_846 : decode cL_law 846 = .ok (.iload_n 3, 1) := by decide +kernel
set_option maxRecDepth 20000 in
theorem dL_law_847 : decode cL_law 847 = .ok (.iconst 3, 1) := by decide +kernel
set_option maxRecDepth 20000 in
theorem dL_law_848 : decode cL_law 848 = .ok (.iadd, 1) := by decide +kernel
set_option maxRecDepth 20000 in
theorem dL_law_849 : decode cL_law 849 = .ok (.iaload, 1) := by decide +kernel
set_option maxRecDepth 20000 in
theorem dL_law_850 : decode cL_law 850 = .ok (.invokevirtual 106, 3) := by decide +kernel
set_option maxRecDepth 20000 in
theorem dL_law_853 : decode cL_law 853 = .ok (.aload_n 2, 1) := by decide +kernel
set_option maxRecDepth 20000 in
theorem dL_law_854 : decode cL_law 854 = .ok (.aload_n 0, 1) := by decide +kernel
set_option maxRecDepth 20000 in
theorem dL_law_855 : decode cL_law 855 = .ok (.iload_n 3, 1) := by decide +kernel
set_option maxRecDepth 20000 in
theorem dL_law_856 : decode cL_law 856 = .ok (.iconst 1, 1) := by decide +kernel
set_option maxRecDepth 20000 in
theorem dL_law_857 : decode cL_law 857 = .ok (.iadd, 1) := by decide +kernel
set_option maxRecDepth 20000 in
theorem dL_law_858 : decode cL_law 858 = .ok (.iaload, 1) := by decide +kernel
set_option maxRecDepth 20000 in
theorem dL_law_859 : decode cL_law 859 = .ok (.aload_n 0, 1) := by decide +kernel
set_option maxRecDepth 20000 in
theorem dL_law_860 : decode cL_law 860 = .ok (.iload_n 3, 1) := by decide +kernel
set_option maxRecDepth 20000 in
theorem dL_law_861 : decode cL_law 861 = .ok (.iconst 2, 1) := by decide +kernel
set_option maxRecDepth 20000 in
theorem dL_law_862 : decode cL_law 862 = .ok (.iadd, 1) := by decide +kernel
set_option maxRecDepth 20000 in
theorem dL_law_863 : decode cL_law 863 = .ok (.iaload, 1) := by decide +kernel
set_option maxRecDepth 20000 in
theorem dL_law_864 : decode cL_law 864 = .ok (.aload_n 0, 1) := by decide +kernel
set_option maxRecDepth 20000 in
theorem dL_law_865 : decode cL_law 865 = .ok (.iload_n 3, 1) := by decide +kernel
set_option maxRecDepth 20000 in
theorem dL_law_866 : decode cL_law 866 = .ok (.iconst 3, 1) := by decide +kernel
set_option maxRecDepth 20000 in
theorem dL_law_867 : decode cL_law 867 = .ok (.iadd, 1) := by decide +kernel
set_option maxRecDepth 20000 in
theorem dL_law_868 : decode cL_law 868 = .ok (.iaload, 1) := by decide +kernel
set_option maxRecDepth 20000 in
theorem dL_law_869 : decode cL_law 869 = .ok (.invokevirtual 109, 3) := by decide +kernel
set_option maxRecDepth 20000 in
theorem dL_law_872 : decode cL_law 872 = .ok (.if_icmp .eq 401, 3) := by decide +kernel
set_option maxRecDepth 20000 in
theorem dL_law_875 : decode cL_law 875 = .ok (.iconst 0, 1) := by decide +kernel
set_option maxRecDepth 20000 in
theorem dL_law_876 : decode cL_law 876 = .ok (.ireturn, 1) := by decide +kernel
set_option maxRecDepth 20000 in
theorem dL_law_877 : decode cL_law 877 = .ok (.aload_n 1, 1) := by decide +kernel
set_option maxRecDepth 20000 in
theorem dL_law_878 : decode cL_law 878 = .ok (.aload_n 0, 1) := by decide +kernel
set_option maxRecDepth 20000 in
theorem dL_law_879 : decode cL_law 879 = .ok (.iload_n 3, 1) := by decide +kernel
set_option maxRecDepth 20000 in
theorem dL_law_880 : decode cL_law 880 = .ok (.iconst 1, 1) := by decide +kernel
set_option maxRecDepth 20000 in
theorem dL_law_881 : decode cL_law 881 = .ok (.iadd, 1) := by decide +kernel
set_option maxRecDepth 20000 in
theorem dL_law_882 : decode cL_law 882 = .ok (.iaload, 1) := by decide +kernel
set_option maxRecDepth 20000 in
theorem dL_law_883 : decode cL_law 883 = .ok (.invokevirtual 110, 3) := by decide +kernel
set_option maxRecDepth 20000 in
theorem dL_law_886 : decode cL_law 886 = .ok (.aload_n 2, 1) := by decide +kernel
set_option maxRecDepth 20000 in
theorem dL_law_887 : decode cL_law 887 = .ok (.aload_n 0, 1) := by decide +kernel
set_option maxRecDepth 20000 in
theorem dL_law_888 : decode cL_law 888 = .ok (.iload_n 3, 1) := by decide +kernel
set_option maxRecDepth 20000 in
theorem dL_law_889 : decode cL_law 889 = .ok (.iconst 1, 1) := by decide +kernel
set_option maxRecDepth 20000 in
theorem dL_law_890 : decode cL_law 890 = .ok (.iadd, 1) := by decide +kernel
set_option maxRecDepth 20000 in
theorem dL_law_891 : decode cL_law 891 = .ok (.iaload, 1) := by decide +kernel
set_option maxRecDepth 20000 in
theorem dL_law_892 : decode cL_law 892 = .ok (.invokevirtual 113, 3) := by decide +kernel
set_option maxRecDepth 20000 in
theorem dL_law_895 : decode cL_law 895 = .ok (.if_icmp .eq 378, 3) := by decide +kernel
set_option maxRecDepth 20000 in
theorem dL_law_898 : decode cL_law 898 = .ok (.iconst 0, 1) := by decide +kernel
set_option maxRecDepth 20000 in
theorem dL_law_899 : decode cL_law 899 = .ok (.ireturn, 1) := by decide +kernel
set_option maxRecDepth 20000 in
theorem dL_law_900 : decode cL_law 900 = .ok (.aload_n 1, 1) := by decide +kernel
set_option maxRecDepth 20000 in
theorem dL_law_901 : decode cL_law 901 = .ok (.aload_n 0, 1) := by decide +kernel
set_option maxRecDepth 20000 in
theorem dL_law_902 : decode cL_law 902 = .ok (.iload_n 3, 1) := by decide +kernel
set_option maxRecDepth 20000 in
theorem dL_law_903 : decode cL_law 903 = .ok (.iconst 1, 1) := by decide +kernel
set_option maxRecDepth 20000 in
theorem dL_law_904 : decode cL_law 904 = .ok (.iadd, 1) := by decide +kernel
set_option maxRecDepth 20000 in
theorem dL_law_905 : decode cL_law 905 = .ok (.iaload, 1) := by decide +kernel
set_option maxRecDepth 20000 in
theorem dL_law_906 : decode cL_law 906 = .ok (.aload_n 0, 1) := by decide +kernel
set_option maxRecDepth 20000 in
theorem dL_law_907 : decode cL_law 907 = .ok (.iload_n 3, 1) := by decide +kernel
set_option maxRecDepth 20000 in
theorem dL_law_908 : decode cL_law 908 = .ok (.iconst 2, 1) := by decide +kernel
set_option maxRecDepth 20000 in
theorem dL_law_909 : decode cL_law 909 = .ok (.iadd, 1) := by decide +kernel
set_option maxRecDepth 20000 in
theorem dL_law_910 : decode cL_law 910 = .ok (.iaload, 1) := by decide +kernel
set_option maxRecDepth 20000 in
theorem dL_law_911 : decode cL_law 911 = .ok (.aload_n 0, 1) := by decide +kernel
set_option maxRecDepth 20000 in
theorem dL_law_912 : decode cL_law 912 = .ok (.iload_n 3, 1) := by decide +kernel
set_option maxRecDepth 20000 in
theorem dL_law_913 : decode cL_law 913 = .ok (.iconst 3, 1) := by decide +kernel
set_option maxRecDepth 20000 in
theorem dL_law_914 : decode cL_law 914 = .ok (.iadd, 1) := by decide +kernel
set_option maxRecDepth 20000 in
theorem dL_law_915 : decode cL_law 915 = .ok (.iaload, 1) := by decide +kernel
set_option maxRecDepth 20000 in
theorem dL_law_916 : decode cL_law 916 = .ok (.aload_n 0, 1) := by decide +kernel
set_option maxRecDepth 20000 in
theorem dL_law_917 : decode cL_law 917 = .ok (.iload_n 3, 1) := by decide +kernel
set_option maxRecDepth 20000 in
theorem dL_law_918 : decode cL_law 918 = .ok (.iconst 4, 1) := by decide +kernel
set_option maxRecDepth 20000 in
theorem dL_law_919 : decode cL_law 919 = .ok (.iadd, 1) := by decide +kernel
set_option maxRecDepth 20000 in
theorem dL_law_920 : decode cL_law 920 = .ok (.iaload, 1) := by decide +kernel
set_option maxRecDepth 20000 in
theorem dL_law_921 : decode cL_law 921 = .ok (.i2l, 1) := by decide +kernel
set_option maxRecDepth 20000 in
theorem dL_law_922 : decode cL_law 922 = .ok (.bipush 32, 2) := by decide +kernel
set_option maxRecDepth 20000 in
theorem dL_law_924 : decode cL_law 924 = .ok (.lshl, 1) := by decide +kernel
set_option maxRecDepth 20000 in
theorem dL_law_925 : decode cL_law 925 = .ok (.aload_n 0, 1) := by decide +kernel
set_option maxRecDepth 20000 in
theorem dL_law_926 : decode cL_law 926 = .ok (.iload_n 3, 1) := by decide +kernel
set_option maxRecDepth 20000 in
theorem dL_law_927 : decode cL_law 927 = .ok (.iconst 5, 1) := by decide +kernel
set_option maxRecDepth 20000 in
theorem dL_law_928 : decode cL_law 928 = .ok (.iadd, 1) := by decide +kernel
set_option maxRecDepth 20000 in
theorem dL_law_929 : decode cL_law 929 = .ok (.iaload, 1) := by decide +kernel
set_option maxRecDepth 20000 in
theorem dL_law_930 : decode cL_law 930 = .ok (.i2l, 1) := by decide +kernel
set_option maxRecDepth 20000 in
theorem dL_law_931 : decode cL_law 931 = .ok (.ldc2_w 114, 3) := by decide +kernel
set_option maxRecDepth 20000 in
theorem dL_law_934 : decode cL_law 934 = .ok (.land, 1) := by decide +kernel
set_option maxRecDepth 20000 in
theorem dL_law_935 : decode cL_law 935 = .ok (.lor, 1) := by decide +kernel
set_option maxRecDepth 20000 in
theorem dL_law_936 : decode cL_law 936 = .ok (.invokevirtual 116, 3) := by decide +kernel
set_option maxRecDepth 20000 in
theorem dL_law_939 : decode cL_law 939 = .ok (.aload_n 2, 1) := by decide +kernel
set_option maxRecDepth 20000 in
theorem dL_law_940 : decode cL_law 940 = .ok (.aload_n 0, 1) := by decide +kernel
set_option maxRecDepth 20000 in
theorem dL_law_941 : decode cL_law 941 = .ok (.iload_n 3, 1) := by decide +kernel
set_option maxRecDepth 20000 in
theorem dL_law_942 : decode cL_law 942 = .ok (.iconst 1, 1) := by decide +kernel
set_option maxRecDepth 20000 in
theorem dL_law_943 : decode cL_law 943 = .ok (.iadd, 1) := by decide +kernel
set_option maxRecDepth 20000 in
theorem dL_law_944 : decode cL_law 944 = .ok (.iaload, 1) := by decide +kernel
set_option maxRecDepth 20000 in
theorem dL_law_945 : decode cL_law 945 = .ok (.aload_n 0, 1) := by decide +kernel
set_option maxRecDepth 20000 in
theorem dL_law_946 : decode cL_law 946 = .ok (.iload_n 3, 1) := by decide +kernel
set_option maxRecDepth 20000 in
theorem dL_law_947 : decode cL_law 947 = .ok (.iconst 2, 1) := by decide +kernel
set_option maxRecDepth 20000 in
theorem dL_law_948 : decode cL_law 948 = .ok (.iadd, 1) := by decide +kernel
set_option maxRecDepth 20000 in
theorem dL_law_949 : decode cL_law 949 = .ok (.iaload, 1) := by decide +kernel
set_option maxRecDepth 20000 in
theorem dL_law_950 : decode cL_law 950 = .ok (.aload_n 0, 1) := by decide +kernel
set_option maxRecDepth 20000 in
theorem dL_law_951 : decode cL_law 951 = .ok (.iload_n 3, 1) := by decide +kernel
set_option maxRecDepth 20000 in
theorem dL_law_952 : decode cL_law 952 = .ok (.iconst 3, 1) := by decide +kernel
set_option maxRecDepth 20000 in
theorem dL_law_953 : decode cL_law 953 = .ok (.iadd, 1) := by decide +kernel
set_option maxRecDepth 20000 in
theorem dL_law_954 : decode cL_law 954 = .ok (.iaload, 1) := by decide +kernel
set_option maxRecDepth 20000 in
theorem dL_law_955 : decode cL_law 955 = .ok (.aload_n 0, 1) := by decide +kernel
set_option maxRecDepth 20000 in
theorem dL_law_956 : decode cL_law 956 = .ok (.iload_n 3, 1) := by decide +kernel
set_option maxRecDepth 20000 in
theorem dL_law_957 : decode cL_law 957 = .ok (.iconst 4, 1) := by decide +kernel
set_option maxRecDepth 20000 in
theorem dL_law_958 : decode cL_law 958 = .ok (.iadd, 1) := by decide +kernel
set_option maxRecDepth 20000 in
theorem dL_law_959 : decode cL_law 959 = .ok (.iaload, 1) := by decide +kernel
set_option maxRecDepth 20000 in
theorem dL_law_960 : decode cL_law 960 = .ok (.i2l, 1) := by decide +kernel
set_option maxRecDepth 20000 in
theorem dL_law_961 : decode cL_law 961 = .ok (.bipush 32, 2) := by decide +kernel
set_option maxRecDepth 20000 in
theorem dL_law_963 : decode cL_law 963 = .ok (.lshl, 1) := by decide +kernel
set_option maxRecDepth 20000 in
theorem dL_law_964 : decode cL_law 964 = .ok (.aload_n 0, 1) := by decide +kernel
set_option maxRecDepth 20000 in
theorem dL_law_965 : decode cL_law 965 = .ok (.iload_n 3, 1) := by decide +kernel
set_option maxRecDepth 20000 in
theorem dL_law_966 : decode cL_law 966 = .ok (.iconst 5, 1) := by decide +kernel
set_option maxRecDepth 20000 in
theorem dL_law_967 : decode cL_law 967 = .ok (.iadd, 1) := by decide +kernel
set_option maxRecDepth 20000 in
theorem dL_law_968 : decode cL_law 968 = .ok (.iaload, 1) := by decide +kernel
set_option maxRecDepth 20000 in
theorem dL_law_969 : decode cL_law 969 = .ok (.i2l, 1) := by decide +kernel
set_option maxRecDepth 20000 in
theorem dL_law_970 : decode cL_law 970 = .ok (.ldc2_w 114, 3) := by decide +kernel
set_option maxRecDepth 20000 in
theorem dL_law_973 : decode cL_law 973 = .ok (.land, 1) := by decide +kernel
set_option maxRecDepth 20000 in
theorem dL_law_974 : decode cL_law 974 = .ok (.lor, 1) := by decide +kernel
set_option maxRecDepth 20000 in
theorem dL_law_975 : decode cL_law 975 = .ok (.invokevirtual 120, 3) := by decide +kernel
set_option maxRecDepth 20000 in
theorem dL_law_978 : decode cL_law 978 = .ok (.lcmp, 1) := by decide +kernel
set_option maxRecDepth 20000 in
theorem dL_law_979 : decode cL_law 979 = .ok (.ifCond .eq 294, 3) := by decide +kernel
set_option maxRecDepth 20000 in
theorem dL_law_982 : decode cL_law 982 = .ok (.iconst 0, 1) := by decide +kernel
set_option maxRecDepth 20000 in
theorem dL_law_983 : decode cL_law 983 = .ok (.ireturn, 1) := by decide +kernel
set_option maxRecDepth 20000 in
theorem dL_law_984 : decode cL_law 984 = .ok (.aload_n 1, 1) := by decide +kernel
set_option maxRecDepth 20000 in
theorem dL_law_985 : decode cL_law 985 = .ok (.aload_n 0, 1) := by decide +kernel
set_option maxRecDepth 20000 in
theorem dL_law_986 : decode cL_law 986 = .ok (.iload_n 3, 1) := by decide +kernel
set_option maxRecDepth 20000 in
theorem dL_law_987 : decode cL_law 987 = .ok (.iconst 1, 1) := by decide +kernel
set_option maxRecDepth 20000 in
theorem dL_law_988 : decode cL_law 988 = .ok (.iadd, 1) := by decide +kernel
set_option maxRecDepth 20000 in
theorem dL_law_989 : decode cL_law 989 = .ok (.iaload, 1) := by decide +kernel
set_option maxRecDepth 20000 in
theorem dL_law_990 : decode cL_law 990 = .ok (.aload_n 0, 1) := by decide +kernel
set_option maxRecDepth 20000 in
theorem dL_law_991 : decode cL_law 991 = .ok (.iload_n 3, 1) := by decide +kernel
set_option maxRecDepth 20000 in
theorem dL_law_992 : decode cL_law 992 = .ok (.iconst 2, 1) := by decide +kernel
set_option maxRecDepth 20000 in
theorem dL_law_993 : decode cL_law 993 = .ok (.iadd, 1) := by decide +kernel
set_option maxRecDepth 20000 in
theorem dL_law_994 : decode cL_law 994 = .ok (.iaload, 1) := by decide +kernel
set_option maxRecDepth 20000 in
theorem dL_law_995 : decode cL_law 995 = .ok (.aload_n 0, 1) := by decide +kernel
set_option maxRecDepth 20000 in
theorem dL_law_996 : decode cL_law 996 = .ok (.iload_n 3, 1) := by decide +kernel
set_option maxRecDepth 20000 in
theorem dL_law_997 : decode cL_law 997 = .ok (.iconst 3, 1) := by decide +kernel
set_option maxRecDepth 20000 in
theorem dL_law_998 : decode cL_law 998 = .ok (.iadd, 1) := by decide +kernel
set_option maxRecDepth 20000 in
theorem dL_law_999 : decode cL_law 999 = .ok (.iaload, 1) := by decide +kernel
set_option maxRecDepth 20000 in
theorem dL_law_1000 : decode cL_law 1000 = .ok (.aload_n 0, 1) := by decide +kernel
set_option maxRecDepth 20000 in
theorem dL_law_1001 : decode cL_law 1001 = .ok (.iload_n 3, 1) := by decide +kernel
set_option maxRecDepth 20000 in
theorem dL_law_1002 : decode cL_law 1002 = .ok (.iconst 4, 1) := by decide +kernel
set_option maxRecDepth 20000 in
theorem dL_law_1003 : decode cL_law 1003 = .ok (.iadd, 1) := by decide +kernel
set_option maxRecDepth 20000 in
theorem dL_law_1004 : decode cL_law 1004 = .ok (.iaload, 1) := by decide +kernel
set_option maxRecDepth 20000 in
theorem dL_law_1005 : decode cL_law 1005 = .ok (.aload_n 0, 1) := by decide +kernel
set_option maxRecDepth 20000 in
theorem dL_law_1006 : decode cL_law 1006 = .ok (.iload_n 3, 1) := by decide +kernel
set_option maxRecDepth 20000 in
theorem dL_law_1007 : decode cL_law 1007 = .ok (.iconst 5, 1) := by decide +kernel
set_option maxRecDepth 20000 in
theorem dL_law_1008 : decode cL_law 1008 = .ok (.iadd, 1) := by decide +kernel
set_option maxRecDepth 20000 in
theorem dL_law_1009 : decode cL_law 1009 = .ok (.iaload, 1) := by decide +kernel
set_option maxRecDepth 20000 in
theorem dL_law_1010 : decode cL_law 1010 = .ok (.invokevirtual 121, 3) := by decide +kernel
set_option maxRecDepth 20000 in
theorem dL_law_1013 : decode cL_law 1013 = .ok (.aload_n 2, 1) := by decide +kernel
set_option maxRecDepth 20000 in
theorem dL_law_1014 : decode cL_law 1014 = .ok (.aload_n 0, 1) := by decide +kernel
set_option maxRecDepth 20000 in
theorem dL_law_1015 : decode cL_law 1015 = .ok (.iload_n 3, 1) := by decide +kernel
set_option maxRecDepth 20000 in
theorem dL_law_1016 : decode cL_law 1016 = .ok (.iconst 1, 1) := by decide +kernel
set_option maxRecDepth 20000 in
theorem dL_law_1017 : decode cL_law 1017 = .ok (.iadd, 1) := by decide +kernel
set_option maxRecDepth 20000 in
theorem dL_law_1018 : decode cL_law 1018 = .ok (.iaload, 1) := by decide +kernel
set_option maxRecDepth 20000 in
theorem dL_law_1019 : decode cL_law 1019 = .ok (.aload_n 0, 1) := by decide +kernel
set_option maxRecDepth 20000 in
theorem dL_law_1020 : decode cL_law 1020 = .ok (.iload_n 3, 1) := by decide +kernel
set_option maxRecDepth 20000 in
theorem dL_law_1021 : decode cL_law 1021 = .ok (.iconst 2, 1) := by decide +kernel
set_option maxRecDepth 20000 in
theorem dL_law_1022 : decode cL_law 1022 = .ok (.iadd, 1) := by decide +kernel
set_option maxRecDepth 20000 in
theorem dL_law_1023 : decode cL_law 1023 = .ok (.iaload, 1) := by decide +kernel
set_option maxRecDepth 20000 in
theorem dL_law_1024 : decode cL_law 1024 = .ok (.aload_n 0, 1) := by decide +kernel
set_option maxRecDepth 20000 in
theorem dL_law_1025 : decode cL_law 1025 = .ok (.iload_n 3, 1) := by decide +kernel
set_option maxRecDepth 20000 in
theorem dL_law_1026 : decode cL_law 1026 = .ok (.iconst 3, 1) := by decide +kernel
set_option maxRecDepth 20000 in
theorem dL_law_1027 : decode cL_law 1027 = .ok (.iadd, 1) := by decide +kernel
set_option maxRecDepth 20000 in
theorem dL_law_1028 : decode cL_law 1028 = .ok (.iaload, 1) := by decide +kernel
set_option maxRecDepth 20000 in
theorem dL_law_1029 : decode cL_law 1029 = .ok (.aload_n 0, 1) := by decide +kernel
set_option maxRecDepth 20000 in
theorem dL_law_1030 : decode cL_law 1030 = .ok (.iload_n 3, 1) := by decide +kernel
set_option maxRecDepth 20000 in
theorem dL_law_1031 : decode cL_law 1031 = .ok (.iconst 4, 1) := by decide +kernel
set_option maxRecDepth 20000 in
theorem dL_law_1032 : decode cL_law 1032 = .ok (.iadd, 1) := by decide +kernel
set_option maxRecDepth 20000 in
theorem dL_law_1033 : decode cL_law 1033 = .ok (.iaload, 1) := by decide +kernel
set_option maxRecDepth 20000 in
theorem dL_law_1034 : decode cL_law 1034 = .ok (.aload_n 0, 1) := by decide +kernel
set_option maxRecDepth 20000 in
theorem dL_law_1035 : decode cL_law 1035 = .ok (.iload_n 3, 1) := by decide +kernel
set_option maxRecDepth 20000 in
theorem dL_law_1036 : decode cL_law 1036 = .ok (.iconst 5, 1) := by decide +kernel
set_option maxRecDepth 20000 in
theorem dL_law_1037 : decode cL_law 1037 = .ok (.iadd, 1) := by decide +kernel
set_option maxRecDepth 20000 in
theorem dL_law_1038 : decode cL_law 1038 = .ok (.iaload, 1) := by decide +kernel
set_option maxRecDepth 20000 in
theorem dL_law_1039 : decode cL_law 1039 = .ok (.invokevirtual 125, 3) := by decide +kernel
set_option maxRecDepth 20000 in
theorem dL_law_1042 : decode cL_law 1042 = .ok (.if_icmp .eq 231, 3) := by decide +kernel
set_option maxRecDepth 20000 in
theorem dL_law_1045 : decode cL_law 1045 = .ok (.iconst 0, 1) := by decide +kernel
set_option maxRecDepth 20000 in
theorem dL_law_1046 : decode cL_law 1046 = .ok (.ireturn, 1) := by decide +kernel
set_option maxRecDepth 20000 in
theorem dL_law_1047 : decode cL_law 1047 = .ok (.aload_n 1, 1) := by decide +kernel
set_option maxRecDepth 20000 in
theorem dL_law_1048 : decode cL_law 1048 = .ok (.aload_n 0, 1) := by decide +kernel
set_option maxRecDepth 20000 in
theorem dL_law_1049 : decode cL_law 1049 = .ok (.iload_n 3, 1) := by decide +kernel
set_option maxRecDepth 20000 in
theorem dL_law_1050 : decode cL_law 1050 = .ok (.iconst 1, 1) := by decide +kernel
set_option maxRecDepth 20000 in
theorem dL_law_1051 : decode cL_law 1051 = .ok (.iadd, 1) := by decide +kernel
set_option maxRecDepth 20000 in
theorem dL_law_1052 : decode cL_law 1052 = .ok (.iaload, 1) := by decide +kernel
set_option maxRecDepth 20000 in
theorem dL_law_1053 : decode cL_law 1053 = .ok (.aload_n 0, 1) := by decide +kernel
set_option maxRecDepth 20000 in
theorem dL_law_1054 : decode cL_law 1054 = .ok (.iload_n 3, 1) := by decide +kernel
set_option maxRecDepth 20000 in
theorem dL_law_1055 : decode cL_law 1055 = .ok (.iconst 2, 1) := by decide +kernel
set_option maxRecDepth 20000 in
theorem dL_law_1056 : decode cL_law 1056 = .ok (.iadd, 1) := by decide +kernel
set_option maxRecDepth 20000 in
theorem dL_law_1057 : decode cL_law 1057 = .ok (.iaload, 1) := by decide +kernel
set_option maxRecDepth 20000 in
theorem dL_law_1058 : decode cL_law 1058 = .ok (.aload_n 0, 1) := by decide +kernel
set_option maxRecDepth 20000 in
theorem dL_law_1059 : decode cL_law 1059 = .ok (.iload_n 3, 1) := by decide +kernel
set_option maxRecDepth 20000 in
theorem dL_law_1060 : decode cL_law 1060 = .ok (.iconst 3, 1) := by decide +kernel
set_option maxRecDepth 20000 in
theorem dL_law_1061 : decode cL_law 1061 = .ok (.iadd, 1) := by decide +kernel
set_option maxRecDepth 20000 in
theorem dL_law_1062 : decode cL_law 1062 = .ok (.iaload, 1) := by decide +kernel
set_option maxRecDepth 20000 in
theorem dL_law_1063 : decode cL_law 1063 = .ok (.aload_n 0, 1) := by decide +kernel
set_option maxRecDepth 20000 in
theorem dL_law_1064 : decode cL_law 1064 = .ok (.iload_n 3, 1) := by decide +kernel
set_option maxRecDepth 20000 in
theorem dL_law_1065 : decode cL_law 1065 = .ok (.iconst 4, 1) := by decide +kernel
set_option maxRecDepth 20000 in
theorem dL_law_1066 : decode cL_law 1066 = .ok (.iadd, 1) := by decide +kernel
set_option maxRecDepth 20000 in
theorem dL_law_1067 : decode cL_law 1067 = .ok (.iaload, 1) := by decide +kernel
set_option maxRecDepth 20000 in
theorem dL_law_1068 : decode cL_law 1068 = .ok (.invokevirtual 126, 3) := by decide +kernel
set_option maxRecDepth 20000 in
theorem dL_law_1071 : decode cL_law 1071 = .ok (.aload_n 2, 1) := by decide +kernel
set_option maxRecDepth 20000 in
theorem dL_law_1072 : decode cL_law 1072 = .ok (.aload_n 0, 1) := by decide +kernel
set_option maxRecDepth 20000 in
theorem dL_law_1073 : decode cL_law 1073 = .ok (.iload_n 3, 1) := by decide +kernel
set_option maxRecDepth 20000 in
theorem dL_law_1074 : decode cL_law 1074 = .ok (.iconst 1, 1) := by decide +kernel
set_option maxRecDepth 20000 in
theorem dL_law_1075 : decode cL_law 1075 = .ok (.iadd, 1) := by decide +kernel
set_option maxRecDepth 20000 in
theorem dL_law_1076 : decode cL_law 1076 = .ok (.iaload, 1) := by decide +kernel
set_option maxRecDepth 20000 in
theorem dL_law_1077 : decode cL_law 1077 = .ok (.aload_n 0, 1) := by decide +kernel
set_option maxRecDepth 20000 in
theorem dL_law_1078 : decode cL_law 1078 = .ok (.iload_n 3, 1) := by decide +kernel
set_option maxRecDepth 20000 in
theorem dL_law_1079 : decode cL_law 1079 = .ok (.iconst 2, 1) := by decide +kernel
set_option maxRecDepth 20000 in
theorem dL_law_1080 : decode cL_law 1080 = .ok (.iadd, 1) := by decide +kernel
set_option maxRecDepth 20000 in
theorem dL_law_1081 : decode cL_law 1081 = .ok (.iaload, 1) := by decide +kernel
set_option maxRecDepth 20000 in
theorem dL_law_1082 : decode cL_law 1082 = .ok (.aload_n 0, 1) := by decide +kernel
set_option maxRecDepth 20000 in
theorem dL_law_1083 : decode cL_law 1083 = .ok (.iload_n 3, 1) := by decide +kernel
set_option maxRecDepth 20000 in
theorem dL_law_1084 : decode cL_law 1084 = .ok (.iconst 3, 1) := by decide +kernel
set_option maxRecDepth 20000 in
theorem dL_law_1085 : decode cL_law 1085 = .ok (.iadd, 1) := by decide +kernel
set_option maxRecDepth 20000 in
theorem dL_law_1086 : decode cL_law 1086 = .ok (.iaload, 1) := by decide +kernel
set_option maxRecDepth 20000 in
theorem dL_law_1087 : decode cL_law 1087 = .ok (.aload_n 0, 1) := by decide +kernel
set_option maxRecDepth 20000 in
theorem dL_law_1088 : decode cL_law 1088 = .ok (.iload_n 3, 1) := by decide +kernel
set_option maxRecDepth 20000 in
theorem dL_law_1089 : decode cL_law 1089 = .ok (.iconst 4, 1) := by decide +kernel
set_option maxRecDepth 20000 in
theorem dL_law_1090 : decode cL_law 1090 = .ok (.iadd, 1) := by decide +kernel
set_option maxRecDepth 20000 in
theorem dL_law_1091 : decode cL_law 1091 = .ok (.iaload, 1) := by decide +kernel
set_option maxRecDepth 20000 in
theorem dL_law_1092 : decode cL_law 1092 = .ok (.invokevirtual 129, 3) := by decide +kernel
set_option maxRecDepth 20000 in
theorem dL_law_1095 : decode cL_law 1095 = .ok (.if_icmp .eq 178, 3) := by decide +kernel
set_option maxRecDepth 20000 in
theorem dL_law_1098 : decode cL_law 1098 = .ok (.iconst 0, 1) := by decide +kernel
set_option maxRecDepth 20000 in
theorem dL_law_1099 : decode cL_law 1099 = .ok (.ireturn, 1) := by decide +kernel
set_option maxRecDepth 20000 in
theorem dL_law_1100 : decode cL_law 1100 = .ok (.aload_n 1, 1) := by decide +kernel
set_option maxRecDepth 20000 in
theorem dL_law_1101 : decode cL_law 1101 = .ok (.aload_n 0, 1) := by decide +kernel
set_option maxRecDepth 20000 in
theorem dL_law_1102 : decode cL_law 1102 = .ok (.iload_n 3, 1) := by decide +kernel
set_option maxRecDepth 20000 in
theorem dL_law_1103 : decode cL_law 1103 = .ok (.iconst 1, 1) := by decide +kernel
set_option maxRecDepth 20000 in
theorem dL_law_1104 : decode cL_law 1104 = .ok (.iadd, 1) := by decide +kernel
set_option maxRecDepth 20000 in
theorem dL_law_1105 : decode cL_law 1105 = .ok (.iaload, 1) := by decide +kernel
set_option maxRecDepth 20000 in
theorem dL_law_1106 : decode cL_law 1106 = .ok (.aload_n 0, 1) := by decide +kernel
set_option maxRecDepth 20000 in
theorem dL_law_1107 : decode cL_law 1107 = .ok (.iload_n 3, 1) := by decide +kernel
set_option maxRecDepth 20000 in
theorem dL_law_1108 : decode cL_law 1108 = .ok (.iconst 2, 1) := by decide +kernel
set_option maxRecDepth 20000 in
theorem dL_law_1109 : decode cL_law 1109 = .ok (.iadd, 1) := by decide +kernel
set_option maxRecDepth 20000 in
theorem dL_law_1110 : decode cL_law 1110 = .ok (.iaload, 1) := by decide +kernel
set_option maxRecDepth 20000 in
theorem dL_law_1111 : decode cL_law 1111 = .ok (.aload_n 0, 1) := by decide +kernel
set_option maxRecDepth 20000 in
theorem dL_law_1112 : decode cL_law 1112 = .ok (.iload_n 3, 1) := by decide +kernel
set_option maxRecDepth 20000 in
theorem dL_law_1113 : decode cL_law 1113 = .ok (.iconst 3, 1) := by decide +kernel
set_option maxRecDepth 20000 in
theorem dL_law_1114 : decode cL_law 1114 = .ok (.iadd, 1) := by decide +kernel
set_option maxRecDepth 20000 in
theorem dL_law_1115 : decode cL_law 1115 = .ok (.iaload, 1) := by decide +kernel
set_option maxRecDepth 20000 in
theorem dL_law_1116 : decode cL_law 1116 = .ok (.aload_n 0, 1) := by decide +kernel
set_option maxRecDepth 20000 in
theorem dL_law_1117 : decode cL_law 1117 = .ok (.iload_n 3, 1) := by decide +kernel
set_option maxRecDepth 20000 in
theorem dL_law_1118 : decode cL_law 1118 = .ok (.iconst 4, 1) := by decide +kernel
set_option maxRecDepth 20000 in
theorem dL_law_1119 : decode cL_law 1119 = .ok (.iadd, 1) := by decide +kernel
set_option maxRecDepth 20000 in
theorem dL_law_1120 : decode cL_law 1120 = .ok (.iaload, 1) := by decide +kernel
set_option maxRecDepth 20000 in
theorem dL_law_1121 : decode cL_law 1121 = .ok (.aload_n 0, 1) := by decide +kernel
set_option maxRecDepth 20000 in
theorem dL_law_1122 : decode cL_law 1122 = .ok (.iload_n 3, 1) := by decide +kernel
set_option maxRecDepth 20000 in
theorem dL_law_1123 : decode cL_law 1123 = .ok (.iconst 5, 1) := by decide +kernel
set_option maxRecDepth 20000 in
theorem dL_law_1124 : decode cL_law 1124 = .ok (.iadd, 1) := by decide +kernel
set_option maxRecDepth 20000 in
theorem dL_law_1125 : decode cL_law 1125 = .ok (.iaload, 1) := by decide +kernel
set_option maxRecDepth 20000 in
theorem dL_law_1126 : decode cL_law 1126 = .ok (.aload_n 0, 1) := by decide +kernel
set_option maxRecDepth 20000 in
theorem dL_law_1127 : decode cL_law 1127 = .ok (.iload_n 3, 1) := by decide +kernel
set_option maxRecDepth 20000 in
theorem dL_law_1128 : decode cL_law 1128 = .ok (.bipush 6, 2) := by decide +kernel
set_option maxRecDepth 20000 in
theorem dL_law_1130 : decode cL_law 1130 = .ok (.iadd, 1) := by decide +kernel
set_option maxRecDepth 20000 in
theorem dL_law_1131 : decode cL_law 1131 = .ok (.iaload, 1) := by decide +kernel
set_option maxRecDepth 20000 in
theorem dL_law_1132 : decode cL_law 1132 = .ok (.invokevirtual 130, 3) := by decide +kernel
set_option maxRecDepth 20000 in
theorem dL_law_1135 : decode cL_law 1135 = .ok (.aload_n 2, 1) := by decide +kernel
set_option maxRecDepth 20000 in
theorem dL_law_1136 : decode cL_law 1136 = .ok (.aload_n 0, 1) := by decide +kernel
set_option maxRecDepth 20000 in
theorem dL_law_1137 : decode cL_law 1137 = .ok (.iload_n 3, 1) := by decide +kernel
set_option maxRecDepth 20000 in
theorem dL_law_1138 : decode cL_law 1138 = .ok (.iconst 1, 1) := by decide +kernel
set_option maxRecDepth 20000 in
theorem dL_law_1139 : decode cL_law 1139 = .ok (.iadd, 1) := by decide +kernel
set_option maxRecDepth 20000 in
theorem dL_law_1140 : decode cL_law 1140 = .ok (.iaload, 1) := by decide +kernel
set_option maxRecDepth 20000 in
theorem dL_law_1141 : decode cL_law 1141 = .ok (.aload_n 0, 1) := by decide +kernel
set_option maxRecDepth 20000 in
theorem dL_law_1142 : decode cL_law 1142 = .ok (.iload_n 3, 1) := by decide +kernel
set_option maxRecDepth 20000 in
theorem dL_law_1143 : decode cL_law 1143 = .ok (.iconst 2, 1) := by decide +kernel
set_option maxRecDepth 20000 in
theorem dL_law_1144 : decode cL_law 1144 = .ok (.iadd, 1) := by decide +kernel
set_option maxRecDepth 20000 in
theorem dL_law_1145 : decode cL_law 1145 = .ok (.iaload, 1) := by decide +kernel
set_option maxRecDepth 20000 in
theorem dL_law_1146 : decode cL_law 1146 = .ok (.aload_n 0, 1) := by decide +kernel
set_option maxRecDepth 20000 in
theorem dL_law_1147 : decode cL_law 1147 = .ok (.iload_n 3, 1) := by decide +kernel
set_option maxRecDepth 20000 in
theorem dL_law_1148 : decode cL_law 1148 = .ok (.iconst 3, 1) := by decide +kernel
set_option maxRecDepth 20000 in
theorem dL_law_1149 : decode cL_law 1149 = .ok (.iadd, 1) := by decide +kernel
set_option maxRecDepth 20000 in
theorem dL_law_1150 : decode cL_law 1150 = .ok (.iaload, 1) := by decide +kernel
set_option maxRecDepth 20000 in
theorem dL_law_1151 : decode cL_law 1151 = .ok (.aload_n 0, 1) := by decide +kernel
set_option maxRecDepth 20000 in
theorem dL_law_1152 : decode cL_law 1152 = .ok (.iload_n 3, 1) := by decide +kernel
set_option maxRecDepth 20000 in
theorem dL_law_1153 : decode cL_law 1153 = .ok (.iconst 4, 1) := by decide +kernel
set_option maxRecDepth 20000 in
theorem dL_law_1154 : decode cL_law 1154 = .ok (.iadd, 1) := by decide +kernel
set_option maxRecDepth 20000 in
theorem dL_law_1155 : decode cL_law 1155 = .ok (.iaload, 1) := by decide +kernel
set_option maxRecDepth 20000 in
theorem dL_law_1156 : decode cL_law 1156 = .ok (.aload_n 0, 1) := by decide +kernel
set_option maxRecDepth 20000 in
theorem dL_law_1157 : decode cL_law 1157 = .ok (.iload_n 3, 1) := by decide +kernel
set_option maxRecDepth 20000 in
theorem dL_law_1158 : decode cL_law 1158 = .ok (.iconst 5, 1) := by decide +kernel
set_option maxRecDepth 20000 in
theorem dL_law_1159 : decode cL_law 1159 = .ok (.iadd, 1) := by decide +kernel
set_option maxRecDepth 20000 in
theorem dL_law_1160 : decode cL_law 1160 = .ok (.iaload, 1) := by decide +kernel
set_option maxRecDepth 20000 in
theorem dL_law_1161 : decode cL_law 1161 = .ok (.aload_n 0, 1) := by decide +kernel
set_option maxRecDepth 20000 in
theorem dL_law_1162 : decode cL_law 1162 = .ok (.iload_n 3, 1) := by decide +kernel
set_option maxRecDepth 20000 in
theorem dL_law_1163 : decode cL_law 1163 = .ok (.bipush 6, 2) := by decide +kernel
set_option maxRecDepth 20000 in
theorem dL_law_1165 : decode cL_law 1165 = .ok (.iadd, 1) := by decide +kernel
set_option maxRecDepth 20000 in
theorem dL_law_1166 : decode cL_law 1166 = .ok (.iaload, 1) := by decide +kernel
set_option maxRecDepth 20000 in
theorem dL_law_1167 : decode cL_law 1167 = .ok (.invokevirtual 134, 3) := by decide +kernel
set_option maxRecDepth 20000 in
theorem dL_law_1170 : decode cL_law 1170 = .ok (.if_icmp .eq 103, 3) := by decide +kernel
set_option maxRecDepth 20000 in
theorem dL_law_1173 : decode cL_law 1173 = .ok (.iconst 0, 1) := by decide +kernel
set_option maxRecDepth 20000 in
theorem dL_law_1174 : decode cL_law 1174 = .ok (.ireturn, 1) := by decide +kernel
set_option maxRecDepth 20000 in
theorem dL_law_1175 : decode cL_law 1175 = .ok (.aload_n 1, 1) := by decide +kernel
set_option maxRecDepth 20000 in
theorem dL_law_1176 : decode cL_law 1176 = .ok (.aload_n 0, 1) := by decide +kernel
set_option maxRecDepth 20000 in
theorem dL_law_1177 : decode cL_law 1177 = .ok (.iload_n 3, 1) := by decide +kernel
set_option maxRecDepth 20000 in
theorem dL_law_1178 : decode cL_law 1178 = .ok (.iconst 1, 1) := by decide +kernel
set_option maxRecDepth 20000 in
theorem dL_law_1179 : decode cL_law 1179 = .ok (.iadd, 1) := by decide +kernel
set_option maxRecDepth 20000 in
theorem dL_law_1180 : decode cL_law 1180 = .ok (.iaload, 1) := by decide +kernel
set_option maxRecDepth 20000 in
theorem dL_law_1181 : decode cL_law 1181 = .ok (.aload_n 0, 1) := by decide +kernel
set_option maxRecDepth 20000 in
theorem dL_law_1182 : decode cL_law 1182 = .ok (.iload_n 3, 1) := by decide +kernel
set_option maxRecDepth 20000 in
theorem dL_law_1183 : decode cL_law 1183 = .ok (.iconst 2, 1) := by decide +kernel
set_option maxRecDepth 20000 in
theorem dL_law_1184 : decode cL_law 1184 = .ok (.iadd, 1) := by decide +kernel
set_option maxRecDepth 20000 in
theorem dL_law_1185 : decode cL_law 1185 = .ok (.iaload, 1) := by decide +kernel
set_option maxRecDepth 20000 in
theorem dL_law_1186 : decode cL_law 1186 = .ok (.aload_n 0, 1) := by decide +kernel
set_option maxRecDepth 20000 in
theorem dL_law_1187 : decode cL_law 1187 = .ok (.iload_n 3, 1) := by decide +kernel
set_option maxRecDepth 20000 in
theorem dL_law_1188 : decode cL_law 1188 = .ok (.iconst 3, 1) := by decide +kernel
set_option maxRecDepth 20000 in
theorem dL_law_1189 : decode cL_law 1189 = .ok (.iadd, 1) := by decide +kernel
set_option maxRecDepth 20000 in
theorem dL_law_1190 : decode cL_law 1190 = .ok (.iaload, 1) := by decide +kernel
set_option maxRecDepth 20000 in
theorem dL_law_1191 : decode cL_law 1191 = .ok (.aload_n 0, 1) := by decide +kernel
set_option maxRecDepth 20000 in
theorem dL_law_1192 : decode cL_law 1192 = .ok (.iload_n 3, 1) := by decide +kernel
set_option maxRecDepth 20000 in
theorem dL_law_1193 : decode cL_law 1193 = .ok (.iconst 4, 1) := by decide +kernel
set_option maxRecDepth 20000 in
theorem dL_law_1194 : decode cL_law 1194 = .ok (.iadd, 1) := by decide +kernel
set_option maxRecDepth 20000 in
theorem dL_law_1195 : decode cL_law 1195 = .ok (.iaload, 1) := by decide +kernel
set_option maxRecDepth 20000 in
theorem dL_law_1196 : decode cL_law 1196 = .ok (.aload_n 0, 1) := by decide +kernel
set_option maxRecDepth 20000 in
theorem dL_law_1197 : decode cL_law 1197 = .ok (.iload_n 3, 1) := by decide +kernel
set_option maxRecDepth 20000 in
theorem dL_law_1198 : decode cL_law 1198 = .ok (.iconst 5, 1) := by decide +kernel
set_option maxRecDepth 20000 in
theorem dL_law_1199 : decode cL_law 1199 = .ok (.iadd, 1) := by decide +kernel
set_option maxRecDepth 20000 in
theorem dL_law_1200 : decode cL_law 1200 = .ok (.iaload, 1) := by decide +kernel
set_option maxRecDepth 20000 in
theorem dL_law_1201 : decode cL_law 1201 = .ok (.aload_n 0, 1) := by decide +kernel
set_option maxRecDepth 20000 in
theorem dL_law_1202 : decode cL_law 1202 = .ok (.iload_n 3, 1) := by decide +kernel
set_option maxRecDepth 20000 in
theorem dL_law_1203 : decode cL_law 1203 = .ok (.bipush 6, 2) := by decide +kernel
set_option maxRecDepth 20000 in
theorem dL_law_1205 : decode cL_law 1205 = .ok (.iadd, 1) := by decide +kernel
set_option maxRecDepth 20000 in
theorem dL_law_1206 : decode cL_law 1206 = .ok (.iaload, 1) := by decide +kernel
set_option maxRecDepth 20000 in
theorem dL_law_1207 : decode cL_law 1207 = .ok (.invokevirtual 135, 3) := by decide +kernel
set_option maxRecDepth 20000 in
theorem dL_law_1210 : decode cL_law 1210 = .ok (.aload_n 2, 1) := by decide +kernel
set_option maxRecDepth 20000 in
theorem dL_law_1211 : decode cL_law 1211 = .ok (.aload_n 0, 1) := by decide +kernel
set_option maxRecDepth 20000 in
theorem dL_law_1212 : decode cL_law 1212 = .ok (.iload_n 3, 1) := by decide +kernel
set_option maxRecDepth 20000 in
theorem dL_law_1213 : decode cL_law 1213 = .ok (.iconst 1, 1) := by decide +kernel
set_option maxRecDepth 20000 in
theorem dL_law_1214 : decode cL_law 1214 = .ok (.iadd, 1) := by decide +kernel
set_option maxRecDepth 20000 in
theorem dL_law_1215 : decode cL_law 1215 = .ok (.iaload, 1) := by decide +kernel
set_option maxRecDepth 20000 in
theorem dL_law_1216 : decode cL_law 1216 = .ok (.aload_n 0, 1) := by decide +kernel
set_option maxRecDepth 20000 in
theorem dL_law_1217 : decode cL_law 1217 = .ok (.iload_n 3, 1) := by decide +kernel
set_option maxRecDepth 20000 in
theorem dL_law_1218 : decode cL_law 1218 = .ok (.iconst 2, 1) := by decide +kernel
set_option maxRecDepth 20000 in
theorem dL_law_1219 : decode cL_law 1219 = .ok (.iadd, 1) := by decide +kernel
set_option maxRecDepth 20000 in
theorem dL_law_1220 : decode cL_law 1220 = .ok (.iaload, 1) := by decide +kernel
set_option maxRecDepth 20000 in
theorem dL_law_1221 : decode cL_law 1221 = .ok (.aload_n 0, 1) := by decide +kernel
set_option maxRecDepth 20000 in
theorem dL_law_1222 : decode cL_law 1222 = .ok (.iload_n 3, 1) := by decide +kernel
set_option maxRecDepth 20000 in
theorem dL_law_1223 : decode cL_law 1223 = .ok (.iconst 3, 1) := by decide +kernel
set_option maxRecDepth 20000 in
theorem dL_law_1224 : decode cL_law 1224 = .ok (.iadd, 1) := by decide +kernel
set_option maxRecDepth 20000 in
theorem dL_law_1225 : decode cL_law 1225 = .ok (.iaload, 1) := by decide +kernel
set_option maxRecDepth 20000 in
theorem dL_law_1226 : decode cL_law 1226 = .ok (.aload_n 0, 1) := by decide +kernel
set_option maxRecDepth 20000 in
theorem dL_law_1227 : decode cL_law 1227 = .ok (.iload_n 3, 1) := by decide +kernel
set_option maxRecDepth 20000 in
theorem dL_law_1228 : decode cL_law 1228 = .ok (.iconst 4, 1) := by decide +kernel
set_option maxRecDepth 20000 in
theorem dL_law_1229 : decode cL_law 1229 = .ok (.iadd, 1) := by decide +kernel
set_option maxRecDepth 20000 in
theorem dL_law_1230 : decode cL_law 1230 = .ok (.iaload, 1) := by decide +kernel
set_option maxRecDepth 20000 in
theorem dL_law_1231 : decode cL_law 1231 = .ok (.aload_n 0, 1) := by decide +kernel
set_option maxRecDepth 20000 in
theorem dL_law_1232 : decode cL_law 1232 = .ok (.iload_n 3, 1) := by decide +kernel
set_option maxRecDepth 20000 in
theorem dL_law_1233 : decode cL_law 1233 = .ok (.iconst 5, 1) := by decide +kernel
set_option maxRecDepth 20000 in
theorem dL_law_1234 : decode cL_law 1234 = .ok (.iadd, 1) := by decide +kernel
set_option maxRecDepth 20000 in
theorem dL_law_1235 : decode cL_law 1235 = .ok (.iaload, 1) := by decide +kernel
set_option maxRecDepth 20000 in
theorem dL_law_1236 : decode cL_law 1236 = .ok (.aload_n 0, 1) := by decide +kernel
set_option maxRecDepth 20000 in
theorem dL_law_1237 : decode cL_law 1237 = .ok (.iload_n 3, 1) := by decide +kernel
set_option maxRecDepth 20000 in
theorem dL_law_1238 : decode cL_law 1238 = .ok (.bipush 6, 2) := by decide +kernel
set_option maxRecDepth 20000 in
theorem dL_law_1240 : decode cL_law 1240 = .ok (.iadd, 1) := by decide +kernel
set_option maxRecDepth 20000 in
theorem dL_law_1241 : decode cL_law 1241 = .ok (.iaload, 1) := by decide +kernel
set_option maxRecDepth 20000 in
theorem dL_law_1242 : decode cL_law 1242 = .ok (.invokevirtual 138, 3) := by decide +kernel
set_option maxRecDepth 20000 in
theorem dL_law_1245 : decode cL_law 1245 = .ok (.if_icmp .eq 28, 3) := by decide +kernel
set_option maxRecDepth 20000 in
theorem dL_law_1248 : decode cL_law 1248 = .ok (.iconst 0, 1) := by decide +kernel
set_option maxRecDepth 20000 in
theorem dL_law_1249 : decode cL_law 1249 = .ok (.ireturn, 1) := by decide +kernel
set_option maxRecDepth 20000 in
theorem dL_law_1250 : decode cL_law 1250 = .ok (.aload_n 1, 1) := by decide +kernel
set_option maxRecDepth 20000 in
theorem dL_law_1251 : decode cL_law 1251 = .ok (.aload_n 0, 1) := by decide +kernel
set_option maxRecDepth 20000 in
theorem dL_law_1252 : decode cL_law 1252 = .ok (.iload_n 3, 1) := by decide +kernel
set_option maxRecDepth 20000 in
theorem dL_law_1253 : decode cL_law 1253 = .ok (.iconst 1, 1) := by decide +kernel
set_option maxRecDepth 20000 in
theorem dL_law_1254 : decode cL_law 1254 = .ok (.iadd, 1) := by decide +kernel
set_option maxRecDepth 20000 in
theorem dL_law_1255 : decode cL_law 1255 = .ok (.iaload, 1) := by decide +kernel
set_option maxRecDepth 20000 in
theorem dL_law_1256 : decode cL_law 1256 = .ok (.invokevirtual 139, 3) := by decide +kernel
set_option maxRecDepth 20000 in
theorem dL_law_1259 : decode cL_law 1259 = .ok (.aload_n 2, 1) := by decide +kernel
set_option maxRecDepth 20000 in
theorem dL_law_1260 : decode cL_law 1260 = .ok (.aload_n 0, 1) := by decide +kernel
set_option maxRecDepth 20000 in
theorem dL_law_1261 : decode cL_law 1261 = .ok (.iload_n 3, 1) := by decide +kernel
set_option maxRecDepth 20000 in
theorem dL_law_1262 : decode cL_law 1262 = .ok (.iconst 1, 1) := by decide +kernel
set_option maxRecDepth 20000 in
theorem dL_law_1263 : decode cL_law 1263 = .ok (.iadd, 1) := by decide +kernel
set_option maxRecDepth 20000 in
theorem dL_law_1264 : decode cL_law 1264 = .ok (.iaload, 1) := by decide +kernel
set_option maxRecDepth 20000 in
theorem dL_law_1265 : decode cL_law 1265 = .ok (.invokevirtual 142, 3) := by decide +kernel
set_option maxRecDepth 20000 in
theorem dL_law_1268 : decode cL_law 1268 = .ok (.if_icmp .eq 5, 3) := by decide +kernel
set_option maxRecDepth 20000 in
theorem dL_law_1271 : decode cL_law 1271 = .ok (.iconst 0, 1) := by decide +kernel
set_option maxRecDepth 20000 in
theorem dL_law_1272 : decode cL_law 1272 = .ok (.ireturn, 1) := by decide +kernel
set_option maxRecDepth 20000 in
theorem dL_law_1273 : decode cL_law 1273 = .ok (.iinc 3 7, 3) := by decide +kernel
set_option maxRecDepth 20000 in
theorem dL_law_1276 : decode cL_law 1276 = .ok (.goto (-1258), 3) := by decide +kernel
set_option maxRecDepth 20000 in
theorem dL_law_1279 : decode cL_law 1279 = .ok (.iconst 1, 1) := by decide +kernel
set_option maxRecDepth 20000 in
theorem dL_law_1280 : decode cL_law 1280 = .ok (.ireturn, 1) := by decide +kernel
end
section
/-! ===== the law's world as numbers: cells in the order in which they are made; ints and longs by cell and place, references by cell and place ===== -/
abbrev Um : Type := (Nat → Nat → Int32) × (Nat → Nat → Int64)
abbrev Pm : Type := Nat → Nat → Option Nat
/-- the first cell's address, the cell of KIND_OVER, the script's cell, its length, its ints, the tables of classes, the classes of arrays -/
abbrev Wc : Type := Nat × Nat × Nat × Nat × (Nat → Int32) × va_G × (Nat → ClassId)
abbrev MX : Type := Program × Launch × Env × Room × State × MethodId × Array Value × List Frame × Method × Code × (State → Prop)
abbrev MI : Type := MethodName × ByteArray × Nat × Option FieldType
abbrev ZZ : Type := Nat × Nat × Pm × Nat × Bool
def SHL : List (Nat × Nat) := [(7, 0), (6, 0), (9, 130), (0, 0), (9, 48), (9, 32), (0, 0), (9, 48), (9, 32), (3, 0), (12, 24), (0, 0), (9, 48), (9, 32), (0, 0), (9, 48), (9, 32), (0, 0), (9, 48), (9, 32), (0, 0), (9, 48), (9, 32), (0, 0), (9, 48), (9, 32), (0, 0), (9, 48), (9, 32), (0, 0), (9, 48), (9, 32), (0, 0), (9, 48), (9, 32), (0, 0), (9, 48), (9, 32), (0, 0), (9, 48), (9, 32), (0, 0), (9, 48), (9, 32), (0, 0), (9, 48), (9, 32), (0, 0), (9, 48), (9, 32), (0, 0), (9, 48), (9, 32), (0, 0), (9, 48), (9, 32), (0, 0), (9, 48), (9, 32), (0, 0), (9, 48), (9, 32), (0, 0), (9, 48), (9, 32), (0, 0), (9, 48), (9, 32), (0, 0), (9, 48), (9, 32), (0, 0), (9, 48), (9, 32), (0, 0), (9, 48), (9, 32), (0, 0), (9, 48), (9, 32), (0, 0), (9, 48), (9, 32), (12, 2), (0, 0), (9, 48), (9, 32), (0, 0), (9, 48), (9, 32), (13, 4), (5, 0), (10, 24), (5, 0), (10, 24), (5, 0), (10, 24), (5, 0), (10, 24), (2, 0), (9, 48), (9, 576), (9, 8), (4, 0), (12, 3), (0, 0), (9, 48), (9, 32), (0, 0), (9, 48), (9, 32), (0, 0), (9, 48), (9, 32), (9, 12), (1, 0), (9, 100), (8, 0), (9, 4), (9, 4), (10, 96), (9, 130), (9, 83), (9, 83), (9, 83), (9, 166), (11, 2), (9, 1992), (9, 576), (9, 10), (9, 10), (9, 3), (9, 10)]
def kd (k : Nat) : Nat := (SHL.getD k (99, 0)).1
def ln (k : Nat) : Nat := (SHL.getD k (99, 0)).2
def fty (c : Nat) : List Bool := match c with
  | 0 => [true, true, false, false, false]
  | 1 => [true, false, false]
  | 2 => [true, true, true, false]
  | 3 => [true, false, false]
  | 4 => [true, true]
  | 5 => [true, false, false]
  | 6 => [true, false, false]
  | 7 => [true, true, true, true, true, true, true, true, true]
  | 8 => [true, true, true, false, true, false, true, true, true, true, true, true, false, true, true, true, true, false, true]
  | _ => []
def wAd (w : Wc) (k : Nat) : Nat := if k = 1000000 then w.2.1 else if k = 1000001 then w.2.2.1 else w.1 + k
def tv (w : Wc) : Value → Value
  | .ref k => .ref (wAd w k)
  | v => v
abbrev wD (w : Wc) : va_G := w.2.2.2.2.2.1
abbrev wcy (w : Wc) : Nat → ClassId := w.2.2.2.2.2.2
def wT (w : Wc) : List (ClassId × FieldType) := [(wcy w 0, .int), (wcy w 1, .long), (wcy w 2, .boolean), (wcy w 3, .object RX0), (wcy w 4, .object RX5)]
def wA (w : Wc) : Nat → Prop := fun q => w.1 ≤ q
def encF (w : Wc) (u : Um) (P : Pm) (k : Nat) : List Value := (fty (kd k)).mapIdx (fun i r => if r = true then va_rf ((P k i).map (wAd w)) else .int (u.1 k i))
def enc (w : Wc) (u : Um) (P : Pm) (k : Nat) : va_E :=
  if kd k < 9 then .inr (kd k, encF w u P k)
  else if kd k = 9 then .inl (wcy w 0, ln k, .inl (u.1 k))
  else if kd k = 10 then .inl (wcy w 1, ln k, .inr (.inl (u.2 k)))
  else if kd k = 11 then .inl (wcy w 2, ln k, .inl (u.1 k))
  else if kd k = 12 then .inl (wcy w 3, ln k, .inr (.inr (.inr (.inr (fun i => (P k i).map (wAd w))))))
  else .inl (wcy w 4, ln k, .inr (.inr (.inr (.inr (fun i => (P k i).map (wAd w))))))
def wld (w : Wc) (u : Um) (P : Pm) (nx : Nat) : va_W := (List.range nx).map (fun k => (w.1 + k, enc w u P k))
def sIr (u : Um) (k : Nat) (f : Nat → Int32) : Um := (fun j => if j = k then f else u.1 j, u.2)
def sJr (u : Um) (k : Nat) (f : Nat → Int64) : Um := (u.1, fun j => if j = k then f else u.2 j)
def sI (u : Um) (k i : Nat) (v : Int32) : Um := sIr u k (upd (u.1 k) i v)
def sJ (u : Um) (k i : Nat) (v : Int64) : Um := sJr u k (vp_updL (u.2 k) i v)
def sP (P : Pm) (k i : Nat) (v : Option Nat) : Pm := fun j => if j = k then va_up (P k) i v else P j
theorem wld_get {w : Wc} {u : Um} {P : Pm} {nx k : Nat} (h : k < nx) : (wld w u P nx)[k]? = some (w.1 + k, enc w u P k) := by
  simp [wld, h]
theorem wld_set {w : Wc} {u u' : Um} {P P' : Pm} {nx k : Nat} {e : va_E} (he : enc w u' P' k = e) (ho : ∀ j, j ≠ k → enc w u' P' j = enc w u P j) : (wld w u P nx).set k (w.1 + k, e) = wld w u' P' nx := by
  apply List.ext_getElem?
  intro j
  by_cases hj : j = k
  · subst hj
    by_cases hl : j < nx
    · rw [List.getElem?_set_self (by simp [wld, hl]), wld_get hl, he]
    · rw [List.getElem?_eq_none (by simp [wld]; omega), List.getElem?_eq_none (by simp [wld]; omega)]
  · rw [List.getElem?_set_ne (Ne.symm hj)]
    by_cases hl : j < nx
    · rw [wld_get hl, wld_get hl, ho j hj]
    · rw [List.getElem?_eq_none (by simp [wld]; omega), List.getElem?_eq_none (by simp [wld]; omega)]
theorem wld_D {w : Wc} {u : Um} {P : Pm} {nx : Nat} : va_D (wA w) (wld w u P nx) := by
  have key : ∀ (k : Nat) (q : Nat × va_E), (wld w u P nx)[k]? = some q → q.1 = w.1 + k := by
    intro k q hq
    by_cases hl : k < nx
    · rw [wld_get hl] at hq; cases hq; rfl
    · rw [List.getElem?_eq_none (by simp [wld]; omega)] at hq; cases hq
  refine ⟨fun i j p q hi hj h => ?_, fun k q hk => ?_⟩
  · have h1 := key i p hi
    have h2 := key j q hj
    omega
  · show w.1 ≤ q.1
    rw [key k q hk]; omega
theorem tv_rf (w : Wc) (o : Option Nat) : tv w (va_rf o) = va_rf (o.map (wAd w)) := by cases o <;> rfl
theorem tv_cat (w : Wc) (v : Value) : (tv w v).category = v.category := by cases v <;> rfl
theorem wAd_lt (w : Wc) {k : Nat} (h : k < 1000000) : wAd w k = w.1 + k := by
  unfold wAd
  rw [if_neg (by omega), if_neg (by omega)]
/-! locals: a list of what is known, place by place -/
def LVs (w : Wc) (ls : Array Slot) (n : Nat) (lv : List (Option Value)) : Prop := ls.size = n ∧ lv.length = n ∧ lv_wf ls ∧ ∀ (i : Nat) (v : Value), lv[i]? = some (some v) → ls[i]? = some (.val (tv w v))
def lvl (w : Wc) (lv : List (Option Value)) : List (Nat × Value) := (List.range lv.length).filterMap (fun i => (lv[i]?).join.map (fun v => (i, tv w v)))
theorem lvl_mem {w : Wc} {lv : List (Option Value)} {q : Nat × Value} : q ∈ lvl w lv ↔ ∃ v, lv[q.1]? = some (some v) ∧ q.2 = tv w v := by
  unfold lvl
  rw [List.mem_filterMap]
  constructor
  · rintro ⟨i, hi, h⟩
    cases hv : lv[i]? with
    | none => rw [hv] at h; cases h
    | some x =>
      cases x with
      | none => rw [hv] at h; cases h
      | some v => rw [hv] at h; cases h; exact ⟨v, hv, rfl⟩
  · rintro ⟨v, hv, e⟩
    refine ⟨q.1, List.mem_range.mpr (List.getElem?_eq_some_iff.mp hv).1, ?_⟩
    rw [hv]
    show some (q.1, tv w v) = some q
    rw [← e]
theorem LVs.has {w : Wc} {ls : Array Slot} {n : Nat} {lv : List (Option Value)} (h : LVs w ls n lv) : lv_has ls n (lvl w lv) := by
  refine ⟨h.1, h.2.2.1, fun q hq => ?_⟩
  obtain ⟨v, h1, h2⟩ := lvl_mem.mp hq
  rw [h2]
  exact h.2.2.2 q.1 v h1
def okst (lv : List (Option Value)) (i : Nat) : Bool := match i with
  | 0 => true
  | j + 1 => match lv[j]? with
    | some (some v) => v.category != 2
    | _ => true
theorem LVs.st1 {w : Wc} {ls ls' : Array Slot} {n i : Nat} {lv : List (Option Value)} {v : Value} (h : LVs w ls n lv) (hk : okst lv i = true) (h' : lv_has ls' n ((i, tv w v) :: (lvl w lv).filter (fun q => !(q.1 == i) && !(q.1 + 1 == i && q.2.category == 2)))) : LVs w ls' n (lv.set i (some v)) := by
  refine ⟨h'.1, by rw [List.length_set]; exact h.2.1, h'.2.1, fun j x hj => ?_⟩
  by_cases hji : j = i
  · subst hji
    have hl : j < lv.length := by have := (List.getElem?_eq_some_iff.mp hj).1; simpa using this
    rw [List.getElem?_set_self hl] at hj
    cases hj
    exact h'.2.2 (j, tv w v) List.mem_cons_self
  · rw [List.getElem?_set_ne (Ne.symm hji)] at hj
    refine h'.2.2 (j, tv w x) (List.mem_cons_of_mem _ (List.mem_filter.mpr ⟨lvl_mem.mpr ⟨x, hj, rfl⟩, ?_⟩))
    by_cases h2 : j + 1 = i
    · subst h2
      have hc : (x.category != 2) = true := by simpa [okst, hj] using hk
      have hc2 : x.category ≠ 2 := by simpa using hc
      simp [hji, tv_cat, hc2]
    · simp [hji, h2]
theorem LVs.st2 {w : Wc} {ls ls' : Array Slot} {n i : Nat} {lv : List (Option Value)} {v : Value} (h : LVs w ls n lv) (hk : okst lv i = true) (h' : lv_has ls' n ((i, tv w v) :: (lvl w lv).filter (fun q => !(q.1 == i) && (!(q.1 == i + 1) && !(q.1 + 1 == i && q.2.category == 2))))) : LVs w ls' n ((lv.set i (some v)).set (i + 1) none) := by
  refine ⟨h'.1, by rw [List.length_set, List.length_set]; exact h.2.1, h'.2.1, fun j x hj => ?_⟩
  by_cases hj1 : j = i + 1
  · subst hj1
    have hl : i + 1 < (lv.set i (some v)).length := by have := (List.getElem?_eq_some_iff.mp hj).1; simpa using this
    rw [List.getElem?_set_self hl] at hj
    cases hj
  rw [List.getElem?_set_ne (Ne.symm hj1)] at hj
  by_cases hji : j = i
  · subst hji
    have hl : j < lv.length := by have := (List.getElem?_eq_some_iff.mp hj).1; simpa using this
    rw [List.getElem?_set_self hl] at hj
    cases hj
    exact h'.2.2 (j, tv w v) List.mem_cons_self
  · rw [List.getElem?_set_ne (Ne.symm hji)] at hj
    refine h'.2.2 (j, tv w x) (List.mem_cons_of_mem _ (List.mem_filter.mpr ⟨lvl_mem.mpr ⟨x, hj, rfl⟩, ?_⟩))
    by_cases h2 : j + 1 = i
    · subst h2
      have hc : (x.category != 2) = true := by simpa [okst, hj] using hk
      have hc2 : x.category ≠ 2 := by simpa using hc
      simp [hji, hj1, tv_cat, hc2]
    · simp [hji, hj1, h2]
def entL : List Value → List (Option Value)
  | [] => []
  | v :: r => if v.category = 2 then some v :: none :: entL r else some v :: entL r
theorem entL_mem (w : Wc) : ∀ (vs : List Value) (o i : Nat) (v : Value), (entL vs)[i]? = some (some v) → (o + i, tv w v) ∈ lv_args o (vs.map (tv w))
  | [], _, _, _, h => by simp [entL] at h
  | x :: r, o, i, v, h => by
    by_cases hc : x.category = 2
    · simp only [entL, hc, if_true] at h
      simp only [List.map_cons, lv_args, tv_cat, hc, if_true]
      match i, h with
      | 0, h => simp at h; subst h; exact List.mem_cons_self
      | 1, h => simp at h
      | i + 2, h =>
        have h1 := entL_mem w r (o + 2) i v (by simpa using h)
        exact List.mem_cons_of_mem _ (by rw [show o + (i + 2) = o + 2 + i by omega]; exact h1)
    · simp only [entL, hc, if_false] at h
      simp only [List.map_cons, lv_args, tv_cat, hc, if_false]
      match i, h with
      | 0, h => simp at h; subst h; exact List.mem_cons_self
      | i + 1, h =>
        have h1 := entL_mem w r (o + 1) i v (by simpa using h)
        exact List.mem_cons_of_mem _ (by rw [show o + (i + 1) = o + 1 + i by omega]; exact h1)
theorem entL_len (w : Wc) : ∀ vs : List Value, (lg_sl (vs.map (tv w))).length = (entL vs).length
  | [] => rfl
  | x :: r => by
    have ih := entL_len w r
    by_cases hc : x.category = 2 <;> simp [lg_sl, entL, tv_cat, hc] at ih ⊢ <;> omega
theorem LVs.entry (w : Wc) (vs : List Value) {n : Nat} (h : (entL vs).length ≤ n) : LVs w ((lg_sl (vs.map (tv w)) ++ List.replicate (n - (lg_sl (vs.map (tv w))).length) Slot.unset).toArray) n (entL vs ++ List.replicate (n - (entL vs).length) none) := by
  have he := lv_entry (vs.map (tv w)) (n := n) (by rw [entL_len]; exact h)
  refine ⟨he.1, by simp; omega, he.2.1, fun i v hi => ?_⟩
  have hm : (entL vs)[i]? = some (some v) := by
    by_cases hl : i < (entL vs).length
    · rwa [List.getElem?_append_left hl] at hi
    · rw [List.getElem?_append_right (by omega)] at hi
      have := List.mem_of_getElem? hi
      simp at this
  have h1 := entL_mem w vs 0 i v hm
  rw [Nat.zero_add] at h1
  exact he.2.2 _ h1
/-! ===== the words that a method may use, and what is known of the statics ===== -/
def tw : List Cond := lw_tbl.filter goodWord
theorem tw_in {w : Cond} (h : w ∈ lw_tbl) (hg : goodWord w = true) : w ∈ tw := List.mem_filter.mpr ⟨h, hg⟩
theorem tw_good {y : MethodName} {bs : ByteArray} {n : Nat} {r : Option FieldType} {y2 : MethodName} {bs2 : ByteArray} {n2 : Nat} {r2 : Option FieldType} (h : Cond.code y2 bs2 n2 r2 ∈ tw) : GoodIn (Cond.code y bs n r :: tw) (Cond.code y2 bs2 n2 r2 :: tw) := by
  intro w hw
  rcases List.mem_cons.mp hw with rfl | hw
  · exact ⟨List.mem_cons_of_mem _ h, good_of_word (List.mem_filter.mp h).2⟩
  · exact ⟨List.mem_cons_of_mem _ hw, good_of_word (List.mem_filter.mp hw).2⟩
theorem tw_good0 {y2 : MethodName} {bs2 : ByteArray} {n2 : Nat} {r2 : Option FieldType} (h : Cond.code y2 bs2 n2 r2 ∈ tw) : GoodIn tw (Cond.code y2 bs2 n2 r2 :: tw) := by
  intro w hw
  rcases List.mem_cons.mp hw with rfl | hw
  · exact ⟨h, good_of_word (List.mem_filter.mp h).2⟩
  · exact ⟨hw, good_of_word (List.mem_filter.mp hw).2⟩
def KOV : List Int32 := [-1, 0, 1, 1, 0, 2]
def kovV (j : Nat) : Int32 := KOV.getD j 0
def NSL : List (String × Nat × MethodName) := [(RX7, 9, yX6_init), (RX7, 18, yX0_init), (RX3, 17, yX0_init), (RX7, 39, yX5_init), (RX7, 46, yX2_init), (RX7, 53, yX4_init), (RX4, 11, yX0_init), (RX7, 60, yX1_init), (RX0, 71, yX7_isBarred), (RX0, 57, yX7_sayingOf), (RX0, 84, yX7_stingOf), (RX1, 28, yX7_sayingOf)]
def STW (w : Wc) (U : State) : Prop := va_Z RX7 "KIND_OVER" "[I" (.ref w.2.1) (wA w) U U.heap ∧ va_T .int w.2.1 6 (fun j => .int (kovV j)) (wA w) U U.heap ∧ (∀ q ∈ NSL, va_Nw (.methodLinkNest q.1 q.2.1 q.2.2 RX7) U) ∧ va_AO RX0 U ∧ va_AO RX5 U
theorem STW.move {w : Wc} {s U : State} (h : STW w s) (hW : s.WarmedH U.vm) (hh : ∀ a : Nat, a < s.heap.size → ¬ wA w a → U.heap[a]? = s.heap[a]?) : STW w U :=
  ⟨va_Z.moved hW.alike (h.1.kept hh), va_T.moved hW.alike (h.2.1.kept hh), fun q hq => va_Nw.warmM hW (h.2.2.1 q hq), va_AO.moved hW.alike h.2.2.2.1, va_AO.moved hW.alike h.2.2.2.2⟩
theorem STW.blind {w : Wc} {U : State} {g : JFrame} {mk : MethodId} {a : Array Value} (h : STW w U) : STW w (U.calling g mk a) :=
  ⟨va_Z.moved (u := U) (U := U.calling g mk a) (Vm.Alike.refl U.vm) h.1, va_T.moved (u := U) (U := U.calling g mk a) (Vm.Alike.refl U.vm) h.2.1, fun q hq => va_Nw.same (u := U) (U := U.calling g mk a) rfl rfl (h.2.2.1 q hq), va_AO.moved (u := U) (U := U.calling g mk a) (Vm.Alike.refl U.vm) h.2.2.2.1, va_AO.moved (u := U) (U := U.calling g mk a) (Vm.Alike.refl U.vm) h.2.2.2.2⟩
def Pre (w : Wc) (u : Um) (P : Pm) (nx : Nat) (b : Bool) (U : State) : Prop := w.1 ≤ U.heap.size ∧ (b = true → U.heap.size = w.1 + nx) ∧ va_P (wD w) vwCl (wld w u P nx) U.heap ∧ va_K (wD w) vwCl (wT w) U ∧ STW w U
def rmD (d mc ms : Nat) : Room := { frames := d, cells := mc, slots := ms, locals := 40 * d }
def Qm (w : Wc) (P : Pm) (nx : Nat) (b : Bool) (rv : Option Value) (u : Um) : Array Value → State → Outcome → State → Prop := fun _ st oc t => (oc = .returned (rv.map (tv w)) ∧ (b = true → t.heap.size = w.1 + nx) ∧ va_P (wD w) vwCl (wld w u P nx) t.heap) ∧ va_F (wA w) st t
/-- a method's contract over the whole world: from memory u, with these arguments, it answers rv and leaves u' -/
def MCg (w : Wc) (d : Nat) (q : MI) (mc ms : Nat) (P : Pm) (nx : Nat) (P' : Pm) (nx' : Nat) (b : Bool) (as : List Value) (u : Um) (rv : Option Value) (u' : Um) : Prop :=
  ∀ l : Launch, Met l q.1 (Cond.code q.1 q.2.1 q.2.2.1 q.2.2.2 :: tw) (rmD d mc ms) (va_Pc (as.map (tv w)) (Pre w u P nx b)) (Qm w P' nx' b rv u') mc ms (wA w)
theorem pre_blind {w : Wc} {u : Um} {P : Pm} {nx : Nat} {b : Bool} {av : List Value} : FrameBlind (va_Pc av (Pre w u P nx b)) := by
  intro a U g mk h
  obtain ⟨h0, h00, h1, h2, h3, h4⟩ := h
  exact ⟨h0, h00, h1, h2, va_K.moved (u := U) (U := U.calling g mk a) (Vm.Alike.refl U.vm) h3, h4.blind⟩
/-! ===== the machine at a place of a method: what comes ===== -/
def OKc (w : Wc) (X : MX) (o : String) (cc : ByteArray) (d : Nat) : Prop :=
  X.1.tables.exec = Jvm.exec ∧ X.2.2.2.2.2.2.2.2.2.1.code = cc ∧ X.2.2.2.2.1.vm.findClass o = some X.2.2.2.2.2.1.cls ∧ (∀ q ∈ tw, q.before X.2.2.2.2.2.2.1 X.2.2.2.2.1 = true) ∧ va_K (wD w) vwCl (wT w) X.2.2.2.2.1 ∧ STW w X.2.2.2.2.1 ∧ w.1 ≤ X.2.2.2.2.1.heap.size ∧ d ≤ X.2.2.2.1.frames ∧ 40 * d ≤ X.2.2.2.1.locals
def G (w : Wc) (X : MX) (Z : ZZ) (pc : Nat) (lv : List (Option Value)) (st : List Value) (u : Um) : Prop :=
  ∀ (H : Heap) (locs : List Loc) (ls : Array Slot), (Z.2.2.2.2 = true → H.size = w.1 + Z.2.2.2.1) → va_P (wD w) vwCl (wld w u Z.2.2.1 Z.2.2.2.1) H → va_S (wA w) X.2.2.2.2.1.heap H locs → LVs w ls X.2.2.2.2.2.2.2.2.2.1.maxLocals lv →
    W X.1 X.2.1 X.2.2.1 X.2.2.2.1 X.2.2.2.2.1 X.2.2.2.2.2.1 X.2.2.2.2.2.2.1 X.2.2.2.2.2.2.2.1 X.2.2.2.2.2.2.2.2.1 X.2.2.2.2.2.2.2.2.2.1 H locs Z.1 Z.2.1 X.2.2.2.2.2.2.2.2.2.2 (F0 X.2.2.2.2.2.1 pc ls (st.map (tv w)))
def nm {α β : Type} (x : α) (k : α → β) : β := k x
def inb (i : Int32) (n : Nat) : Bool := decide (0 ≤ i.toInt) && decide (i.toInt < n)
theorem inb_in {i : Int32} {n : Nat} (h : inb i n = true) : vp_in i n := by
  rw [vp_in_iff]
  simpa [inb] using h
theorem inb_lt {i : Int32} {n : Nat} (h : inb i n = true) : i.toNatClampNeg < n := Nat.not_le.mp fun q => inb_in h (Or.inr q)
def irm (x y : Int32) : Int32 := x - x / y * y
def lrm (x y : Int64) : Int64 := x - x / y * y
section GR
variable {w : Wc} {X : MX} {Z : ZZ} {o : String} {cc : ByteArray} {d pc : Nat} {lv lv' : List (Option Value)} {st : List Value} {u : Um}
theorem G_eqs {st2 : List Value} (h : st = st2) (k : G w X Z pc lv st2 u) : G w X Z pc lv st u := h ▸ k
theorem G_iconst (hX : OKc w X o cc d) {n : Int} {v : Int32} (hd : decode cc pc = .ok (.iconst n, 1)) (hv : Int32.ofInt n = v) (k : G w X Z (pc + 1) lv (.int v :: st) u) : G w X Z pc lv st u := fun H locs ls h1 h2 h3 h4 => lv_iconst hX.1 hX.2.1 hd hv (k H locs ls h1 h2 h3 h4)
theorem G_bipush (hX : OKc w X o cc d) {n : Int} {v : Int32} (hd : decode cc pc = .ok (.bipush n, 2)) (hv : (Int8.ofInt n).toInt32 = v) (k : G w X Z (pc + 2) lv (.int v :: st) u) : G w X Z pc lv st u := fun H locs ls h1 h2 h3 h4 => lv_bipush hX.1 hX.2.1 hd hv (k H locs ls h1 h2 h3 h4)
theorem G_sipush (hX : OKc w X o cc d) {n : Int} {v : Int32} (hd : decode cc pc = .ok (.sipush n, 3)) (hv : (Int16.ofInt n).toInt32 = v) (k : G w X Z (pc + 3) lv (.int v :: st) u) : G w X Z pc lv st u := fun H locs ls h1 h2 h3 h4 => lv_sipush hX.1 hX.2.1 hd hv (k H locs ls h1 h2 h3 h4)
theorem G_lconst (hX : OKc w X o cc d) {n : Fin 2} {v : Int64} (hd : decode cc pc = .ok (.lconst n, 1)) (hv : Int64.ofNat (n : Nat) = v) (k : G w X Z (pc + 1) lv (.long v :: st) u) : G w X Z pc lv st u := fun H locs ls h1 h2 h3 h4 => lv_lconst hX.1 hX.2.1 hd hv (k H locs ls h1 h2 h3 h4)
theorem G_ldc (hX : OKc w X o cc d) {i : Nat} {v : Int32} (hd : decode cc pc = .ok (.ldc i, 2)) (hw : Cond.constant o i v ∈ tw) (k : G w X Z (pc + 2) lv (.int v :: st) u) : G w X Z pc lv st u := fun H locs ls h1 h2 h3 h4 => lv_ldc hX.1 hX.2.1 hX.2.2.1 (hX.2.2.2.1 _ hw) hd (k H locs ls h1 h2 h3 h4)
theorem G_ldcw (hX : OKc w X o cc d) {i : Nat} {v : Int32} (hd : decode cc pc = .ok (.ldc_w i, 3)) (hw : Cond.constant o i v ∈ tw) (k : G w X Z (pc + 3) lv (.int v :: st) u) : G w X Z pc lv st u := fun H locs ls h1 h2 h3 h4 => lv_ldcw hX.1 hX.2.1 hX.2.2.1 (hX.2.2.2.1 _ hw) hd (k H locs ls h1 h2 h3 h4)
theorem G_ldc2 (hX : OKc w X o cc d) {i : Nat} {v : Int64} (hd : decode cc pc = .ok (.ldc2_w i, 3)) (hw : Cond.constantLong o i v ∈ tw) (k : G w X Z (pc + 3) lv (.long v :: st) u) : G w X Z pc lv st u := fun H locs ls h1 h2 h3 h4 => lv_ldc2 hX.1 hX.2.1 hX.2.2.1 (hX.2.2.2.1 _ hw) hd (k H locs ls h1 h2 h3 h4)
theorem G_null (hX : OKc w X o cc d) (hd : decode cc pc = .ok (.aconst_null, 1)) (k : G w X Z (pc + 1) lv (.null :: st) u) : G w X Z pc lv st u := fun H locs ls h1 h2 h3 h4 => lv_null hX.1 hX.2.1 hd (k H locs ls h1 h2 h3 h4)
theorem G_iload_n (hX : OKc w X o cc d) {i : Fin 4} {x : Int32} (hd : decode cc pc = .ok (.iload_n i, 1)) (hl : lv[i.val]? = some (some (.int x))) (k : G w X Z (pc + 1) lv (.int x :: st) u) : G w X Z pc lv st u := fun H locs ls h1 h2 h3 h4 => lv_iload_n hX.1 hX.2.1 hd rfl (h4.2.2.2 _ _ hl) (k H locs ls h1 h2 h3 h4)
theorem G_iload (hX : OKc w X o cc d) {i : Nat} {x : Int32} (hd : decode cc pc = .ok (.iload i, 2)) (hl : lv[i]? = some (some (.int x))) (k : G w X Z (pc + 2) lv (.int x :: st) u) : G w X Z pc lv st u := fun H locs ls h1 h2 h3 h4 => lv_iload hX.1 hX.2.1 hd (h4.2.2.2 _ _ hl) (k H locs ls h1 h2 h3 h4)
theorem G_lload_n (hX : OKc w X o cc d) {i : Fin 4} {x : Int64} (hd : decode cc pc = .ok (.lload_n i, 1)) (hl : lv[i.val]? = some (some (.long x))) (k : G w X Z (pc + 1) lv (.long x :: st) u) : G w X Z pc lv st u := fun H locs ls h1 h2 h3 h4 => lv_lload_n hX.1 hX.2.1 hd rfl (h4.2.2.2 _ _ hl) (k H locs ls h1 h2 h3 h4)
theorem G_lload (hX : OKc w X o cc d) {i : Nat} {x : Int64} (hd : decode cc pc = .ok (.lload i, 2)) (hl : lv[i]? = some (some (.long x))) (k : G w X Z (pc + 2) lv (.long x :: st) u) : G w X Z pc lv st u := fun H locs ls h1 h2 h3 h4 => lv_lload hX.1 hX.2.1 hd (h4.2.2.2 _ _ hl) (k H locs ls h1 h2 h3 h4)
theorem G_aload_n (hX : OKc w X o cc d) {i : Fin 4} {x : Nat} (hd : decode cc pc = .ok (.aload_n i, 1)) (hl : lv[i.val]? = some (some (.ref x))) (k : G w X Z (pc + 1) lv (.ref x :: st) u) : G w X Z pc lv st u := fun H locs ls h1 h2 h3 h4 => lv_aload_n hX.1 hX.2.1 hd rfl (h4.2.2.2 _ _ hl) (k H locs ls h1 h2 h3 h4)
theorem G_aload (hX : OKc w X o cc d) {i : Nat} {x : Nat} (hd : decode cc pc = .ok (.aload i, 2)) (hl : lv[i]? = some (some (.ref x))) (k : G w X Z (pc + 2) lv (.ref x :: st) u) : G w X Z pc lv st u := fun H locs ls h1 h2 h3 h4 => lv_aload hX.1 hX.2.1 hd (h4.2.2.2 _ _ hl) (k H locs ls h1 h2 h3 h4)
theorem G_aload_nN (hX : OKc w X o cc d) {i : Fin 4} (hd : decode cc pc = .ok (.aload_n i, 1)) (hl : lv[i.val]? = some (some .null)) (k : G w X Z (pc + 1) lv (.null :: st) u) : G w X Z pc lv st u := fun H locs ls h1 h2 h3 h4 => lv_aload_nN hX.1 hX.2.1 hd rfl (h4.2.2.2 _ _ hl) (k H locs ls h1 h2 h3 h4)
theorem G_aloadN (hX : OKc w X o cc d) {i : Nat} (hd : decode cc pc = .ok (.aload i, 2)) (hl : lv[i]? = some (some .null)) (k : G w X Z (pc + 2) lv (.null :: st) u) : G w X Z pc lv st u := fun H locs ls h1 h2 h3 h4 => lv_aloadN hX.1 hX.2.1 hd (h4.2.2.2 _ _ hl) (k H locs ls h1 h2 h3 h4)
theorem G_istore_n (hX : OKc w X o cc d) {i : Fin 4} {x : Int32} (hd : decode cc pc = .ok (.istore_n i, 1)) (hk : okst lv i.val = true) (hi : i.val < lv.length) (hl : lv.set i.val (some (.int x)) = lv') (k : G w X Z (pc + 1) lv' st u) : G w X Z pc lv (.int x :: st) u := fun H locs ls h1 h2 h3 h4 => lv_istore_n hX.1 hX.2.1 hd rfl h4.has (by rw [← h4.2.1]; exact hi) rfl (fun ls' h => k H locs ls' h1 h2 h3 (hl ▸ h4.st1 (v := .int x) hk h))
theorem G_istore (hX : OKc w X o cc d) {i : Nat} {x : Int32} (hd : decode cc pc = .ok (.istore i, 2)) (hk : okst lv i = true) (hi : i < lv.length) (hl : lv.set i (some (.int x)) = lv') (k : G w X Z (pc + 2) lv' st u) : G w X Z pc lv (.int x :: st) u := fun H locs ls h1 h2 h3 h4 => lv_istore hX.1 hX.2.1 hd h4.has (by rw [← h4.2.1]; exact hi) rfl (fun ls' h => k H locs ls' h1 h2 h3 (hl ▸ h4.st1 (v := .int x) hk h))
theorem G_lstore_n (hX : OKc w X o cc d) {i : Fin 4} {x : Int64} (hd : decode cc pc = .ok (.lstore_n i, 1)) (hk : okst lv i.val = true) (hi : i.val + 1 < lv.length) (hl : (lv.set i.val (some (.long x))).set (i.val + 1) none = lv') (k : G w X Z (pc + 1) lv' st u) : G w X Z pc lv (.long x :: st) u := fun H locs ls h1 h2 h3 h4 => lv_lstore_n hX.1 hX.2.1 hd rfl h4.has (by rw [← h4.2.1]; exact hi) rfl (fun ls' h => k H locs ls' h1 h2 h3 (hl ▸ h4.st2 (v := .long x) hk h))
theorem G_lstore (hX : OKc w X o cc d) {i : Nat} {x : Int64} (hd : decode cc pc = .ok (.lstore i, 2)) (hk : okst lv i = true) (hi : i + 1 < lv.length) (hl : (lv.set i (some (.long x))).set (i + 1) none = lv') (k : G w X Z (pc + 2) lv' st u) : G w X Z pc lv (.long x :: st) u := fun H locs ls h1 h2 h3 h4 => lv_lstore hX.1 hX.2.1 hd h4.has (by rw [← h4.2.1]; exact hi) rfl (fun ls' h => k H locs ls' h1 h2 h3 (hl ▸ h4.st2 (v := .long x) hk h))
theorem G_astore_n (hX : OKc w X o cc d) {i : Fin 4} {x : Nat} (hd : decode cc pc = .ok (.astore_n i, 1)) (hk : okst lv i.val = true) (hi : i.val < lv.length) (hl : lv.set i.val (some (.ref x)) = lv') (k : G w X Z (pc + 1) lv' st u) : G w X Z pc lv (.ref x :: st) u := fun H locs ls h1 h2 h3 h4 => lv_astore_n hX.1 hX.2.1 hd rfl h4.has (by rw [← h4.2.1]; exact hi) rfl (fun ls' h => k H locs ls' h1 h2 h3 (hl ▸ h4.st1 (v := .ref x) hk h))
theorem G_astore (hX : OKc w X o cc d) {i : Nat} {x : Nat} (hd : decode cc pc = .ok (.astore i, 2)) (hk : okst lv i = true) (hi : i < lv.length) (hl : lv.set i (some (.ref x)) = lv') (k : G w X Z (pc + 2) lv' st u) : G w X Z pc lv (.ref x :: st) u := fun H locs ls h1 h2 h3 h4 => lv_astore hX.1 hX.2.1 hd h4.has (by rw [← h4.2.1]; exact hi) rfl (fun ls' h => k H locs ls' h1 h2 h3 (hl ▸ h4.st1 (v := .ref x) hk h))
theorem G_astore_nN (hX : OKc w X o cc d) {i : Fin 4} (hd : decode cc pc = .ok (.astore_n i, 1)) (hk : okst lv i.val = true) (hi : i.val < lv.length) (hl : lv.set i.val (some .null) = lv') (k : G w X Z (pc + 1) lv' st u) : G w X Z pc lv (.null :: st) u := fun H locs ls h1 h2 h3 h4 => lv_astore_nN hX.1 hX.2.1 hd rfl h4.has (by rw [← h4.2.1]; exact hi) rfl (fun ls' h => k H locs ls' h1 h2 h3 (hl ▸ h4.st1 (v := .null) hk h))
theorem G_astoreN (hX : OKc w X o cc d) {i : Nat} (hd : decode cc pc = .ok (.astore i, 2)) (hk : okst lv i = true) (hi : i < lv.length) (hl : lv.set i (some .null) = lv') (k : G w X Z (pc + 2) lv' st u) : G w X Z pc lv (.null :: st) u := fun H locs ls h1 h2 h3 h4 => lv_astoreN hX.1 hX.2.1 hd h4.has (by rw [← h4.2.1]; exact hi) rfl (fun ls' h => k H locs ls' h1 h2 h3 (hl ▸ h4.st1 (v := .null) hk h))
theorem G_iinc (hX : OKc w X o cc d) {i : Nat} {n : Int} {x v : Int32} (hd : decode cc pc = .ok (.iinc i n, 3)) (hg : lv[i]? = some (some (.int x))) (hv : x + Int32.ofInt n = v) (hk : okst lv i = true) (hi : i < lv.length) (hl : lv.set i (some (.int v)) = lv') (k : G w X Z (pc + 3) lv' st u) : G w X Z pc lv st u := by
  intro H locs ls h1 h2 h3 h4
  obtain ⟨j, hj⟩ := List.getElem?_of_mem (lvl_mem (w := w) (lv := lv) (q := (i, .int x)) |>.mpr ⟨.int x, hg, rfl⟩)
  exact lv_iinc hX.1 hX.2.1 hd h4.has hj hv (by rw [← h4.2.1]; exact hi) rfl (fun ls' h => k H locs ls' h1 h2 h3 (hl ▸ h4.st1 (v := .int v) hk h))
theorem G_iadd (hX : OKc w X o cc d) {x y : Int32} (hd : decode cc pc = .ok (.iadd, 1)) (k : G w X Z (pc + 1) lv (.int (x + y) :: st) u) : G w X Z pc lv (.int y :: .int x :: st) u := fun H locs ls h1 h2 h3 h4 => lv_iadd hX.1 hX.2.1 hd (k H locs ls h1 h2 h3 h4)
theorem G_isub (hX : OKc w X o cc d) {x y : Int32} (hd : decode cc pc = .ok (.isub, 1)) (k : G w X Z (pc + 1) lv (.int (x - y) :: st) u) : G w X Z pc lv (.int y :: .int x :: st) u := fun H locs ls h1 h2 h3 h4 => lv_isub hX.1 hX.2.1 hd (k H locs ls h1 h2 h3 h4)
theorem G_imul (hX : OKc w X o cc d) {x y : Int32} (hd : decode cc pc = .ok (.imul, 1)) (k : G w X Z (pc + 1) lv (.int (x * y) :: st) u) : G w X Z pc lv (.int y :: .int x :: st) u := fun H locs ls h1 h2 h3 h4 => lv_imul hX.1 hX.2.1 hd (k H locs ls h1 h2 h3 h4)
theorem G_iand (hX : OKc w X o cc d) {x y : Int32} (hd : decode cc pc = .ok (.iand, 1)) (k : G w X Z (pc + 1) lv (.int (x &&& y) :: st) u) : G w X Z pc lv (.int y :: .int x :: st) u := fun H locs ls h1 h2 h3 h4 => lv_iand hX.1 hX.2.1 hd (k H locs ls h1 h2 h3 h4)
theorem G_ior (hX : OKc w X o cc d) {x y : Int32} (hd : decode cc pc = .ok (.ior, 1)) (k : G w X Z (pc + 1) lv (.int (x ||| y) :: st) u) : G w X Z pc lv (.int y :: .int x :: st) u := fun H locs ls h1 h2 h3 h4 => lv_ior hX.1 hX.2.1 hd (k H locs ls h1 h2 h3 h4)
theorem G_ixor (hX : OKc w X o cc d) {x y : Int32} (hd : decode cc pc = .ok (.ixor, 1)) (k : G w X Z (pc + 1) lv (.int (x ^^^ y) :: st) u) : G w X Z pc lv (.int y :: .int x :: st) u := fun H locs ls h1 h2 h3 h4 => lv_ixor hX.1 hX.2.1 hd (k H locs ls h1 h2 h3 h4)
theorem G_ishl (hX : OKc w X o cc d) {x y : Int32} (hd : decode cc pc = .ok (.ishl, 1)) (k : G w X Z (pc + 1) lv (.int (x <<< (y &&& 31)) :: st) u) : G w X Z pc lv (.int y :: .int x :: st) u := fun H locs ls h1 h2 h3 h4 => lv_ishl hX.1 hX.2.1 hd (k H locs ls h1 h2 h3 h4)
theorem G_ishr (hX : OKc w X o cc d) {x y : Int32} (hd : decode cc pc = .ok (.ishr, 1)) (k : G w X Z (pc + 1) lv (.int (x >>> (y &&& 31)) :: st) u) : G w X Z pc lv (.int y :: .int x :: st) u := fun H locs ls h1 h2 h3 h4 => lv_ishr hX.1 hX.2.1 hd (k H locs ls h1 h2 h3 h4)
theorem G_iushr (hX : OKc w X o cc d) {x y : Int32} (hd : decode cc pc = .ok (.iushr, 1)) (k : G w X Z (pc + 1) lv (.int ((x.toUInt32 >>> (y.toUInt32 &&& Int32.toUInt32 31)).toInt32) :: st) u) : G w X Z pc lv (.int y :: .int x :: st) u := fun H locs ls h1 h2 h3 h4 => lv_iushr hX.1 hX.2.1 hd rfl (k H locs ls h1 h2 h3 h4)
theorem G_ladd (hX : OKc w X o cc d) {x y : Int64} (hd : decode cc pc = .ok (.ladd, 1)) (k : G w X Z (pc + 1) lv (.long (x + y) :: st) u) : G w X Z pc lv (.long y :: .long x :: st) u := fun H locs ls h1 h2 h3 h4 => lv_ladd hX.1 hX.2.1 hd (k H locs ls h1 h2 h3 h4)
theorem G_lsub (hX : OKc w X o cc d) {x y : Int64} (hd : decode cc pc = .ok (.lsub, 1)) (k : G w X Z (pc + 1) lv (.long (x - y) :: st) u) : G w X Z pc lv (.long y :: .long x :: st) u := fun H locs ls h1 h2 h3 h4 => lv_lsub hX.1 hX.2.1 hd (k H locs ls h1 h2 h3 h4)
theorem G_lmul (hX : OKc w X o cc d) {x y : Int64} (hd : decode cc pc = .ok (.lmul, 1)) (k : G w X Z (pc + 1) lv (.long (x * y) :: st) u) : G w X Z pc lv (.long y :: .long x :: st) u := fun H locs ls h1 h2 h3 h4 => lv_lmul hX.1 hX.2.1 hd (k H locs ls h1 h2 h3 h4)
theorem G_land (hX : OKc w X o cc d) {x y : Int64} (hd : decode cc pc = .ok (.land, 1)) (k : G w X Z (pc + 1) lv (.long (x &&& y) :: st) u) : G w X Z pc lv (.long y :: .long x :: st) u := fun H locs ls h1 h2 h3 h4 => lv_land hX.1 hX.2.1 hd (k H locs ls h1 h2 h3 h4)
theorem G_lor (hX : OKc w X o cc d) {x y : Int64} (hd : decode cc pc = .ok (.lor, 1)) (k : G w X Z (pc + 1) lv (.long (x ||| y) :: st) u) : G w X Z pc lv (.long y :: .long x :: st) u := fun H locs ls h1 h2 h3 h4 => lv_lor hX.1 hX.2.1 hd (k H locs ls h1 h2 h3 h4)
theorem G_lshl (hX : OKc w X o cc d) {x : Int64} {y : Int32} (hd : decode cc pc = .ok (.lshl, 1)) (k : G w X Z (pc + 1) lv (.long (x <<< (y.toInt64 &&& 63)) :: st) u) : G w X Z pc lv (.int y :: .long x :: st) u := fun H locs ls h1 h2 h3 h4 => lv_lshl hX.1 hX.2.1 hd rfl (k H locs ls h1 h2 h3 h4)
theorem G_ineg (hX : OKc w X o cc d) {x : Int32} (hd : decode cc pc = .ok (.ineg, 1)) (k : G w X Z (pc + 1) lv (.int (-x) :: st) u) : G w X Z pc lv (.int x :: st) u := fun H locs ls h1 h2 h3 h4 => lv_ineg hX.1 hX.2.1 hd (k H locs ls h1 h2 h3 h4)
theorem G_i2l (hX : OKc w X o cc d) {x : Int32} (hd : decode cc pc = .ok (.i2l, 1)) (k : G w X Z (pc + 1) lv (.long x.toInt64 :: st) u) : G w X Z pc lv (.int x :: st) u := fun H locs ls h1 h2 h3 h4 => lv_i2l hX.1 hX.2.1 hd rfl (k H locs ls h1 h2 h3 h4)
theorem G_l2i (hX : OKc w X o cc d) {x : Int64} (hd : decode cc pc = .ok (.l2i, 1)) (k : G w X Z (pc + 1) lv (.int x.toInt32 :: st) u) : G w X Z pc lv (.long x :: st) u := fun H locs ls h1 h2 h3 h4 => lv_l2i hX.1 hX.2.1 hd rfl (k H locs ls h1 h2 h3 h4)
theorem G_i2b (hX : OKc w X o cc d) {x : Int32} (hd : decode cc pc = .ok (.i2b, 1)) (k : G w X Z (pc + 1) lv (.int x.toInt8.toInt32 :: st) u) : G w X Z pc lv (.int x :: st) u := fun H locs ls h1 h2 h3 h4 => lv_i2b hX.1 hX.2.1 hd rfl (k H locs ls h1 h2 h3 h4)
theorem G_i2s (hX : OKc w X o cc d) {x : Int32} (hd : decode cc pc = .ok (.i2s, 1)) (k : G w X Z (pc + 1) lv (.int x.toInt16.toInt32 :: st) u) : G w X Z pc lv (.int x :: st) u := fun H locs ls h1 h2 h3 h4 => lv_i2s hX.1 hX.2.1 hd rfl (k H locs ls h1 h2 h3 h4)
theorem G_lcmp (hX : OKc w X o cc d) {x y : Int64} (hd : decode cc pc = .ok (.lcmp, 1)) (k : G w X Z (pc + 1) lv (.int (lg_cmp x y) :: st) u) : G w X Z pc lv (.long y :: .long x :: st) u := fun H locs ls h1 h2 h3 h4 => W.lcmp hX.1 hX.2.1 hd (k H locs ls h1 h2 h3 h4)
theorem G_idiv (hX : OKc w X o cc d) {x y : Int32} (hd : decode cc pc = .ok (.idiv, 1)) (hne : ¬ y = 0) (k : G w X Z (pc + 1) lv (.int (x / y) :: st) u) : G w X Z pc lv (.int y :: .int x :: st) u := fun H locs ls h1 h2 h3 h4 => lv_idiv hX.1 hX.2.1 hd hne (k H locs ls h1 h2 h3 h4)
theorem G_idivF (hX : OKc w X o cc d) {x y : Int32} {ρ : Type} {A : Option ρ} {r : ρ} (hd : decode cc pc = .ok (.idiv, 1)) (hf : (if y = 0 then none else A) = some r) (k : A = some r → G w X Z (pc + 1) lv (.int (x / y) :: st) u) : G w X Z pc lv (.int y :: .int x :: st) u := by
  by_cases h : y = 0
  · rw [if_pos h] at hf; cases hf
  · rw [if_neg h] at hf; exact G_idiv hX hd h (k hf)
theorem G_irem (hX : OKc w X o cc d) {x y : Int32} (hd : decode cc pc = .ok (.irem, 1)) (hne : ¬ y = 0) (k : G w X Z (pc + 1) lv (.int (irm x y) :: st) u) : G w X Z pc lv (.int y :: .int x :: st) u := fun H locs ls h1 h2 h3 h4 => lv_irem hX.1 hX.2.1 hd hne (k H locs ls h1 h2 h3 h4)
theorem G_iremF (hX : OKc w X o cc d) {x y : Int32} {ρ : Type} {A : Option ρ} {r : ρ} (hd : decode cc pc = .ok (.irem, 1)) (hf : (if y = 0 then none else A) = some r) (k : A = some r → G w X Z (pc + 1) lv (.int (irm x y) :: st) u) : G w X Z pc lv (.int y :: .int x :: st) u := by
  by_cases h : y = 0
  · rw [if_pos h] at hf; cases hf
  · rw [if_neg h] at hf; exact G_irem hX hd h (k hf)
theorem G_ldiv (hX : OKc w X o cc d) {x y : Int64} (hd : decode cc pc = .ok (.ldiv, 1)) (hne : ¬ y = 0) (k : G w X Z (pc + 1) lv (.long (x / y) :: st) u) : G w X Z pc lv (.long y :: .long x :: st) u := fun H locs ls h1 h2 h3 h4 => lv_ldiv hX.1 hX.2.1 hd hne (k H locs ls h1 h2 h3 h4)
theorem G_ldivF (hX : OKc w X o cc d) {x y : Int64} {ρ : Type} {A : Option ρ} {r : ρ} (hd : decode cc pc = .ok (.ldiv, 1)) (hf : (if y = 0 then none else A) = some r) (k : A = some r → G w X Z (pc + 1) lv (.long (x / y) :: st) u) : G w X Z pc lv (.long y :: .long x :: st) u := by
  by_cases h : y = 0
  · rw [if_pos h] at hf; cases hf
  · rw [if_neg h] at hf; exact G_ldiv hX hd h (k hf)
theorem G_lrem (hX : OKc w X o cc d) {x y : Int64} (hd : decode cc pc = .ok (.lrem, 1)) (hne : ¬ y = 0) (k : G w X Z (pc + 1) lv (.long (lrm x y) :: st) u) : G w X Z pc lv (.long y :: .long x :: st) u := fun H locs ls h1 h2 h3 h4 => lv_lrem hX.1 hX.2.1 hd hne (k H locs ls h1 h2 h3 h4)
theorem G_lremF (hX : OKc w X o cc d) {x y : Int64} {ρ : Type} {A : Option ρ} {r : ρ} (hd : decode cc pc = .ok (.lrem, 1)) (hf : (if y = 0 then none else A) = some r) (k : A = some r → G w X Z (pc + 1) lv (.long (lrm x y) :: st) u) : G w X Z pc lv (.long y :: .long x :: st) u := by
  by_cases h : y = 0
  · rw [if_pos h] at hf; cases hf
  · rw [if_neg h] at hf; exact G_lrem hX hd h (k hf)
theorem G_dup (hX : OKc w X o cc d) {v : Value} (hd : decode cc pc = .ok (.dup, 1)) (hv : v.category = 1) (k : G w X Z (pc + 1) lv (v :: v :: st) u) : G w X Z pc lv (v :: st) u := fun H locs ls h1 h2 h3 h4 => lv_dup hX.1 hX.2.1 hd (by rw [tv_cat]; exact hv) (k H locs ls h1 h2 h3 h4)
theorem G_pop (hX : OKc w X o cc d) {v : Value} (hd : decode cc pc = .ok (.pop, 1)) (hv : v.category = 1) (k : G w X Z (pc + 1) lv st u) : G w X Z pc lv (v :: st) u := fun H locs ls h1 h2 h3 h4 => lv_pop hX.1 hX.2.1 hd (by rw [tv_cat]; exact hv) (k H locs ls h1 h2 h3 h4)
theorem G_dup2 (hX : OKc w X o cc d) {v v2 : Value} (hd : decode cc pc = .ok (.dup2, 1)) (hv : v.category = 1) (hv2 : v2.category = 1) (k : G w X Z (pc + 1) lv (v :: v2 :: v :: v2 :: st) u) : G w X Z pc lv (v :: v2 :: st) u := fun H locs ls h1 h2 h3 h4 => lv_dup2_11 hX.1 hX.2.1 hd (by rw [tv_cat]; exact hv) (by rw [tv_cat]; exact hv2) (k H locs ls h1 h2 h3 h4)
theorem G_goto (hX : OKc w X o cc d) {off : Int} {tgt : Nat} (hd : decode cc pc = .ok (.goto off, 3)) (ht : (pc : Int) + off = (tgt : Int)) (k : G w X Z tgt lv st u) : G w X Z pc lv st u := fun H locs ls h1 h2 h3 h4 => lv_goto hX.1 hX.2.1 hd ht (k H locs ls h1 h2 h3 h4)
theorem G_if_ne (hX : OKc w X o cc d) {x : Int32} {off : Int} {tgt : Nat} {ρ : Type} {A B : Option ρ} {r : ρ} (hd : decode cc pc = .ok (.ifCond .ne off, 3)) (ht : (pc : Int) + off = (tgt : Int)) (hf : (if x = 0 then B else A) = some r) (kt : A = some r → G w X Z tgt lv st u) (kf : B = some r → G w X Z (pc + 3) lv st u) : G w X Z pc lv (.int x :: st) u := fun H locs ls h1 h2 h3 h4 => lv_if_ne hX.1 hX.2.1 hd ht (fun h => kt (by rw [if_neg h] at hf; exact hf) H locs ls h1 h2 h3 h4) (fun h => kf (by rw [if_pos h] at hf; exact hf) H locs ls h1 h2 h3 h4)
theorem G_icmp_ne (hX : OKc w X o cc d) {x y : Int32} {off : Int} {tgt : Nat} {ρ : Type} {A B : Option ρ} {r : ρ} (hd : decode cc pc = .ok (.if_icmp .ne off, 3)) (ht : (pc : Int) + off = (tgt : Int)) (hf : (if x = y then B else A) = some r) (kt : A = some r → G w X Z tgt lv st u) (kf : B = some r → G w X Z (pc + 3) lv st u) : G w X Z pc lv (.int y :: .int x :: st) u := fun H locs ls h1 h2 h3 h4 => lv_icmp_ne hX.1 hX.2.1 hd ht (fun h => kt (by rw [if_neg h] at hf; exact hf) H locs ls h1 h2 h3 h4) (fun h => kf (by rw [if_pos h] at hf; exact hf) H locs ls h1 h2 h3 h4)
theorem G_if_eq (hX : OKc w X o cc d) {x : Int32} {off : Int} {tgt : Nat} {ρ : Type} {A B : Option ρ} {r : ρ} (hd : decode cc pc = .ok (.ifCond .eq off, 3)) (ht : (pc : Int) + off = (tgt : Int)) (hf : (if x = 0 then A else B) = some r) (kt : A = some r → G w X Z tgt lv st u) (kf : B = some r → G w X Z (pc + 3) lv st u) : G w X Z pc lv (.int x :: st) u := fun H locs ls h1 h2 h3 h4 => lv_if_eq hX.1 hX.2.1 hd ht (fun h => kt (by rw [if_pos h] at hf; exact hf) H locs ls h1 h2 h3 h4) (fun h => kf (by rw [if_neg h] at hf; exact hf) H locs ls h1 h2 h3 h4)
theorem G_icmp_eq (hX : OKc w X o cc d) {x y : Int32} {off : Int} {tgt : Nat} {ρ : Type} {A B : Option ρ} {r : ρ} (hd : decode cc pc = .ok (.if_icmp .eq off, 3)) (ht : (pc : Int) + off = (tgt : Int)) (hf : (if x = y then A else B) = some r) (kt : A = some r → G w X Z tgt lv st u) (kf : B = some r → G w X Z (pc + 3) lv st u) : G w X Z pc lv (.int y :: .int x :: st) u := fun H locs ls h1 h2 h3 h4 => lv_icmp_eq hX.1 hX.2.1 hd ht (fun h => kt (by rw [if_pos h] at hf; exact hf) H locs ls h1 h2 h3 h4) (fun h => kf (by rw [if_neg h] at hf; exact hf) H locs ls h1 h2 h3 h4)
theorem G_if_lt (hX : OKc w X o cc d) {x : Int32} {off : Int} {tgt : Nat} {ρ : Type} {A B : Option ρ} {r : ρ} (hd : decode cc pc = .ok (.ifCond .lt off, 3)) (ht : (pc : Int) + off = (tgt : Int)) (hf : (if x < 0 then A else B) = some r) (kt : A = some r → G w X Z tgt lv st u) (kf : B = some r → G w X Z (pc + 3) lv st u) : G w X Z pc lv (.int x :: st) u := fun H locs ls h1 h2 h3 h4 => lv_if_lt hX.1 hX.2.1 hd ht (fun h => kt (by rw [if_pos h] at hf; exact hf) H locs ls h1 h2 h3 h4) (fun h => kf (by rw [if_neg h] at hf; exact hf) H locs ls h1 h2 h3 h4)
theorem G_icmp_lt (hX : OKc w X o cc d) {x y : Int32} {off : Int} {tgt : Nat} {ρ : Type} {A B : Option ρ} {r : ρ} (hd : decode cc pc = .ok (.if_icmp .lt off, 3)) (ht : (pc : Int) + off = (tgt : Int)) (hf : (if x < y then A else B) = some r) (kt : A = some r → G w X Z tgt lv st u) (kf : B = some r → G w X Z (pc + 3) lv st u) : G w X Z pc lv (.int y :: .int x :: st) u := fun H locs ls h1 h2 h3 h4 => lv_icmp_lt hX.1 hX.2.1 hd ht (fun h => kt (by rw [if_pos h] at hf; exact hf) H locs ls h1 h2 h3 h4) (fun h => kf (by rw [if_neg h] at hf; exact hf) H locs ls h1 h2 h3 h4)
theorem G_if_ge (hX : OKc w X o cc d) {x : Int32} {off : Int} {tgt : Nat} {ρ : Type} {A B : Option ρ} {r : ρ} (hd : decode cc pc = .ok (.ifCond .ge off, 3)) (ht : (pc : Int) + off = (tgt : Int)) (hf : (if 0 ≤ x then A else B) = some r) (kt : A = some r → G w X Z tgt lv st u) (kf : B = some r → G w X Z (pc + 3) lv st u) : G w X Z pc lv (.int x :: st) u := fun H locs ls h1 h2 h3 h4 => lv_if_ge hX.1 hX.2.1 hd ht (fun h => kt (by rw [if_pos h] at hf; exact hf) H locs ls h1 h2 h3 h4) (fun h => kf (by rw [if_neg h] at hf; exact hf) H locs ls h1 h2 h3 h4)
theorem G_icmp_ge (hX : OKc w X o cc d) {x y : Int32} {off : Int} {tgt : Nat} {ρ : Type} {A B : Option ρ} {r : ρ} (hd : decode cc pc = .ok (.if_icmp .ge off, 3)) (ht : (pc : Int) + off = (tgt : Int)) (hf : (if y ≤ x then A else B) = some r) (kt : A = some r → G w X Z tgt lv st u) (kf : B = some r → G w X Z (pc + 3) lv st u) : G w X Z pc lv (.int y :: .int x :: st) u := fun H locs ls h1 h2 h3 h4 => lv_icmp_ge hX.1 hX.2.1 hd ht (fun h => kt (by rw [if_pos h] at hf; exact hf) H locs ls h1 h2 h3 h4) (fun h => kf (by rw [if_neg h] at hf; exact hf) H locs ls h1 h2 h3 h4)
theorem G_if_gt (hX : OKc w X o cc d) {x : Int32} {off : Int} {tgt : Nat} {ρ : Type} {A B : Option ρ} {r : ρ} (hd : decode cc pc = .ok (.ifCond .gt off, 3)) (ht : (pc : Int) + off = (tgt : Int)) (hf : (if 0 < x then A else B) = some r) (kt : A = some r → G w X Z tgt lv st u) (kf : B = some r → G w X Z (pc + 3) lv st u) : G w X Z pc lv (.int x :: st) u := fun H locs ls h1 h2 h3 h4 => lv_if_gt hX.1 hX.2.1 hd ht (fun h => kt (by rw [if_pos h] at hf; exact hf) H locs ls h1 h2 h3 h4) (fun h => kf (by rw [if_neg h] at hf; exact hf) H locs ls h1 h2 h3 h4)
theorem G_icmp_gt (hX : OKc w X o cc d) {x y : Int32} {off : Int} {tgt : Nat} {ρ : Type} {A B : Option ρ} {r : ρ} (hd : decode cc pc = .ok (.if_icmp .gt off, 3)) (ht : (pc : Int) + off = (tgt : Int)) (hf : (if y < x then A else B) = some r) (kt : A = some r → G w X Z tgt lv st u) (kf : B = some r → G w X Z (pc + 3) lv st u) : G w X Z pc lv (.int y :: .int x :: st) u := fun H locs ls h1 h2 h3 h4 => lv_icmp_gt hX.1 hX.2.1 hd ht (fun h => kt (by rw [if_pos h] at hf; exact hf) H locs ls h1 h2 h3 h4) (fun h => kf (by rw [if_neg h] at hf; exact hf) H locs ls h1 h2 h3 h4)
theorem G_if_le (hX : OKc w X o cc d) {x : Int32} {off : Int} {tgt : Nat} {ρ : Type} {A B : Option ρ} {r : ρ} (hd : decode cc pc = .ok (.ifCond .le off, 3)) (ht : (pc : Int) + off = (tgt : Int)) (hf : (if x ≤ 0 then A else B) = some r) (kt : A = some r → G w X Z tgt lv st u) (kf : B = some r → G w X Z (pc + 3) lv st u) : G w X Z pc lv (.int x :: st) u := fun H locs ls h1 h2 h3 h4 => lv_if_le hX.1 hX.2.1 hd ht (fun h => kt (by rw [if_pos h] at hf; exact hf) H locs ls h1 h2 h3 h4) (fun h => kf (by rw [if_neg h] at hf; exact hf) H locs ls h1 h2 h3 h4)
theorem G_icmp_le (hX : OKc w X o cc d) {x y : Int32} {off : Int} {tgt : Nat} {ρ : Type} {A B : Option ρ} {r : ρ} (hd : decode cc pc = .ok (.if_icmp .le off, 3)) (ht : (pc : Int) + off = (tgt : Int)) (hf : (if x ≤ y then A else B) = some r) (kt : A = some r → G w X Z tgt lv st u) (kf : B = some r → G w X Z (pc + 3) lv st u) : G w X Z pc lv (.int y :: .int x :: st) u := fun H locs ls h1 h2 h3 h4 => lv_icmp_le hX.1 hX.2.1 hd ht (fun h => kt (by rw [if_pos h] at hf; exact hf) H locs ls h1 h2 h3 h4) (fun h => kf (by rw [if_neg h] at hf; exact hf) H locs ls h1 h2 h3 h4)
theorem G_ifnonnull (hX : OKc w X o cc d) {x : Nat} {off : Int} {tgt : Nat} (hd : decode cc pc = .ok (.ifnonnull off, 3)) (ht : (pc : Int) + off = (tgt : Int)) (k : G w X Z tgt lv st u) : G w X Z pc lv (.ref x :: st) u := fun H locs ls h1 h2 h3 h4 => lv_ifnonnull hX.1 hX.2.1 hd ht (k H locs ls h1 h2 h3 h4)
theorem G_ifnull (hX : OKc w X o cc d) {x : Nat} {off : Int} (hd : decode cc pc = .ok (.ifnull off, 3)) (k : G w X Z (pc + 3) lv st u) : G w X Z pc lv (.ref x :: st) u := fun H locs ls h1 h2 h3 h4 => lv_ifnull hX.1 hX.2.1 hd (k H locs ls h1 h2 h3 h4)
theorem G_ifnonnullN (hX : OKc w X o cc d) {off : Int} (hd : decode cc pc = .ok (.ifnonnull off, 3)) (k : G w X Z (pc + 3) lv st u) : G w X Z pc lv (.null :: st) u := fun H locs ls h1 h2 h3 h4 => lv_ifnonnullN hX.1 hX.2.1 hd (k H locs ls h1 h2 h3 h4)
theorem G_ifnullN (hX : OKc w X o cc d) {off : Int} {tgt : Nat} (hd : decode cc pc = .ok (.ifnull off, 3)) (ht : (pc : Int) + off = (tgt : Int)) (k : G w X Z tgt lv st u) : G w X Z pc lv (.null :: st) u := fun H locs ls h1 h2 h3 h4 => lv_ifnullN hX.1 hX.2.1 hd ht (k H locs ls h1 h2 h3 h4)
theorem enc_I {w : Wc} {u : Um} {P : Pm} {a n : Nat} (hk : kd a = 9) (hn : ln a = n) : enc w u P a = .inl (wcy w 0, n, .inl (u.1 a)) := by
  unfold enc
  rw [hk, hn]
  rfl
theorem enc_J {w : Wc} {u : Um} {P : Pm} {a n : Nat} (hk : kd a = 10) (hn : ln a = n) : enc w u P a = .inl (wcy w 1, n, .inr (.inl (u.2 a))) := by
  unfold enc
  rw [hk, hn]
  rfl
theorem enc_Z {w : Wc} {u : Um} {P : Pm} {a n : Nat} (hk : kd a = 11) (hn : ln a = n) : enc w u P a = .inl (wcy w 2, n, .inl (u.1 a)) := by
  unfold enc
  rw [hk, hn]
  rfl
theorem enc_C {w : Wc} {u : Um} {P : Pm} {a n : Nat} (hk : kd a = 12) (hn : ln a = n) : enc w u P a = .inl (wcy w 3, n, .inr (.inr (.inr (.inr (fun i => (P a i).map (wAd w)))))) := by
  unfold enc
  rw [hk, hn]
  rfl
theorem enc_S {w : Wc} {u : Um} {P : Pm} {a n : Nat} (hk : kd a = 13) (hn : ln a = n) : enc w u P a = .inl (wcy w 4, n, .inr (.inr (.inr (.inr (fun i => (P a i).map (wAd w)))))) := by
  unfold enc
  rw [hk, hn]
  rfl
theorem enc_O {w : Wc} {u : Um} {P : Pm} {a c : Nat} (hk : kd a = c) (hc : c < 9) : enc w u P a = .inr (c, encF w u P a) := by
  unfold enc
  rw [hk, if_pos hc]
theorem kd_lt {a c : Nat} (h : kd a = c) (hc : c < 99) : a < 133 := by
  by_cases hl : a < 133
  · exact hl
  · exfalso
    have h2 : kd a = 99 := by
      unfold kd
      rw [List.getD_eq_getElem?_getD, List.getElem?_eq_none (by show 133 ≤ a; omega)]
      rfl
    omega
theorem tv_a (w : Wc) {a : Nat} (h : a < 133) : tv w (.ref a) = .ref (w.1 + a) := by
  show Value.ref (wAd w a) = _
  rw [wAd_lt w (by omega)]
theorem enc_sI {w : Wc} {u : Um} {P : Pm} {a j : Nat} {f : Nat → Int32} (h : j ≠ a) : enc w (sIr u a f) P j = enc w u P j := by
  have e : (sIr u a f).1 j = u.1 j := by simp [sIr, h]
  unfold enc encF
  rw [e]
  rfl
theorem enc_sJ {w : Wc} {u : Um} {P : Pm} {a j : Nat} {f : Nat → Int64} (h : j ≠ a) : enc w (sJr u a f) P j = enc w u P j := by
  have e : (sJr u a f).2 j = u.2 j := by simp [sJr, h]
  unfold enc encF
  rw [e]
  rfl
theorem sIr_at {u : Um} {a : Nat} {f : Nat → Int32} : (sIr u a f).1 a = f := by simp [sIr]
theorem sJr_at {u : Um} {a : Nat} {f : Nat → Int64} : (sJr u a f).2 a = f := by simp [sJr]
theorem wld_I {w : Wc} {u : Um} {P : Pm} {nx a n : Nat} (f : Nat → Int32) (hk : kd a = 9) (hn : ln a = n) : (wld w u P nx).set a (w.1 + a, .inl (wcy w 0, n, .inl f)) = wld w (sIr u a f) P nx :=
  wld_set (by rw [enc_I hk hn, sIr_at]) (fun j h => enc_sI h)
theorem wld_Z {w : Wc} {u : Um} {P : Pm} {nx a n : Nat} (f : Nat → Int32) (hk : kd a = 11) (hn : ln a = n) : (wld w u P nx).set a (w.1 + a, .inl (wcy w 2, n, .inl f)) = wld w (sIr u a f) P nx :=
  wld_set (by rw [enc_Z hk hn, sIr_at]) (fun j h => enc_sI h)
theorem wld_J {w : Wc} {u : Um} {P : Pm} {nx a n : Nat} (f : Nat → Int64) (hk : kd a = 10) (hn : ln a = n) : (wld w u P nx).set a (w.1 + a, .inl (wcy w 1, n, .inr (.inl f))) = wld w (sJr u a f) P nx :=
  wld_set (by rw [enc_J hk hn, sJr_at]) (fun j h => enc_sJ h)
theorem gt_a {w : Wc} {u : Um} {P : Pm} {nx a : Nat} {e : va_E} (h : a < nx) (he : enc w u P a = e) : (wld w u P nx)[a]? = some (w.1 + a, e) := by rw [wld_get h, he]
theorem G_iald (hX : OKc w X o cc d) {a n : Nat} {i : Int32} {ρ : Type} {A : Option ρ} {r : ρ} (hk : kd a = 9) (hn : ln a = n) (hx : a < Z.2.2.2.1) (hd : decode cc pc = .ok (.iaload, 1)) (hf : (if inb i n = true then A else none) = some r) (k : A = some r → G w X Z (pc + 1) lv (.int (u.1 a i.toNatClampNeg) :: st) u) : G w X Z pc lv (.int i :: .ref a :: st) u := by
  intro H locs ls h1 h2 h3 h4
  by_cases hb : inb i n = true
  · rw [if_pos hb] at hf
    rw [List.map_cons, List.map_cons, tv_a w (kd_lt hk (by decide))]
    exact va_iald hX.1 hX.2.1 hX.2.2.2.2.1 h2 a 0 (gt_a hx (enc_I hk hn)) rfl (inb_in hb) hd (k hf H locs ls h1 h2 h3 h4)
  · rw [if_neg hb] at hf; cases hf
theorem G_lald (hX : OKc w X o cc d) {a n : Nat} {i : Int32} {ρ : Type} {A : Option ρ} {r : ρ} (hk : kd a = 10) (hn : ln a = n) (hx : a < Z.2.2.2.1) (hd : decode cc pc = .ok (.laload, 1)) (hf : (if inb i n = true then A else none) = some r) (k : A = some r → G w X Z (pc + 1) lv (.long (u.2 a i.toNatClampNeg) :: st) u) : G w X Z pc lv (.int i :: .ref a :: st) u := by
  intro H locs ls h1 h2 h3 h4
  by_cases hb : inb i n = true
  · rw [if_pos hb] at hf
    rw [List.map_cons, List.map_cons, tv_a w (kd_lt hk (by decide))]
    exact va_lald hX.1 hX.2.1 hX.2.2.2.2.1 h2 a 1 (gt_a hx (enc_J hk hn)) rfl (inb_in hb) hd (k hf H locs ls h1 h2 h3 h4)
  · rw [if_neg hb] at hf; cases hf
theorem G_zald (hX : OKc w X o cc d) {a n : Nat} {i : Int32} {ρ : Type} {A : Option ρ} {r : ρ} (hk : kd a = 11) (hn : ln a = n) (hx : a < Z.2.2.2.1) (hd : decode cc pc = .ok (.baload, 1)) (hf : (if inb i n = true then A else none) = some r) (k : A = some r → G w X Z (pc + 1) lv (.int (u.1 a i.toNatClampNeg) :: st) u) : G w X Z pc lv (.int i :: .ref a :: st) u := by
  intro H locs ls h1 h2 h3 h4
  by_cases hb : inb i n = true
  · rw [if_pos hb] at hf
    rw [List.map_cons, List.map_cons, tv_a w (kd_lt hk (by decide))]
    exact va_zald hX.1 hX.2.1 hX.2.2.2.2.1 h2 a 2 (gt_a hx (enc_Z hk hn)) rfl (inb_in hb) hd (k hf H locs ls h1 h2 h3 h4)
  · rw [if_neg hb] at hf; cases hf
theorem G_iast (hX : OKc w X o cc d) {a n : Nat} {i : Int32} {x : Int32} {ρ : Type} {A : Um → Option ρ} {r : ρ} (hk : kd a = 9) (hn : ln a = n) (hx : a < Z.2.2.2.1) (hz : Z.2.2.2.2 = false) (hd : decode cc pc = .ok (.iastore, 1)) (hf : (if inb i n = true then nm (sI u a i.toNatClampNeg x) A else none) = some r) (k : ∀ u', A u' = some r → G w X Z (pc + 1) lv st u') : G w X Z pc lv (.int x :: .int i :: .ref a :: st) u := by
  intro H locs ls h1 h2 h3 h4
  by_cases hb : inb i n = true
  · rw [if_pos hb] at hf
    rw [List.map_cons, List.map_cons, List.map_cons, tv_a w (kd_lt hk (by decide))]
    refine va_iast hX.1 hX.2.1 hX.2.2.2.2.1 h2 wld_D h3 a 0 (gt_a hx (enc_I hk hn)) rfl (inb_in hb) hd (fun H1 locs1 g1 g2 g3 => ?_)
    rw [wld_I _ hk hn] at g1
    exact k _ hf H1 locs1 ls (fun h => by rw [hz] at h; cases h) g1 g3 h4
  · rw [if_neg hb] at hf; cases hf
theorem G_last (hX : OKc w X o cc d) {a n : Nat} {i : Int32} {x : Int64} {ρ : Type} {A : Um → Option ρ} {r : ρ} (hk : kd a = 10) (hn : ln a = n) (hx : a < Z.2.2.2.1) (hz : Z.2.2.2.2 = false) (hd : decode cc pc = .ok (.lastore, 1)) (hf : (if inb i n = true then nm (sJ u a i.toNatClampNeg x) A else none) = some r) (k : ∀ u', A u' = some r → G w X Z (pc + 1) lv st u') : G w X Z pc lv (.long x :: .int i :: .ref a :: st) u := by
  intro H locs ls h1 h2 h3 h4
  by_cases hb : inb i n = true
  · rw [if_pos hb] at hf
    rw [List.map_cons, List.map_cons, List.map_cons, tv_a w (kd_lt hk (by decide))]
    refine va_last hX.1 hX.2.1 hX.2.2.2.2.1 h2 wld_D h3 a 1 (gt_a hx (enc_J hk hn)) rfl (inb_in hb) hd (fun H1 locs1 g1 g2 g3 => ?_)
    rw [wld_J _ hk hn] at g1
    exact k _ hf H1 locs1 ls (fun h => by rw [hz] at h; cases h) g1 g3 h4
  · rw [if_neg hb] at hf; cases hf
theorem G_zast (hX : OKc w X o cc d) {a n : Nat} {i : Int32} {x : Int32} {ρ : Type} {A : Um → Option ρ} {r : ρ} (hk : kd a = 11) (hn : ln a = n) (hx : a < Z.2.2.2.1) (hz : Z.2.2.2.2 = false) (hd : decode cc pc = .ok (.bastore, 1)) (hf : (if inb i n = true then nm (sI u a i.toNatClampNeg (vp_nar .boolean x)) A else none) = some r) (k : ∀ u', A u' = some r → G w X Z (pc + 1) lv st u') : G w X Z pc lv (.int x :: .int i :: .ref a :: st) u := by
  intro H locs ls h1 h2 h3 h4
  by_cases hb : inb i n = true
  · rw [if_pos hb] at hf
    rw [List.map_cons, List.map_cons, List.map_cons, tv_a w (kd_lt hk (by decide))]
    refine va_zast hX.1 hX.2.1 hX.2.2.2.2.1 h2 wld_D h3 a 2 (gt_a hx (enc_Z hk hn)) rfl (inb_in hb) hd (fun H1 locs1 g1 g2 g3 => ?_)
    rw [wld_Z _ hk hn] at g1
    exact k _ hf H1 locs1 ls (fun h => by rw [hz] at h; cases h) g1 g3 h4
  · rw [if_neg hb] at hf; cases hf
theorem G_alenI (hX : OKc w X o cc d) {a n : Nat} {v : Int32} (hk : kd a = 9) (hn : ln a = n) (hx : a < Z.2.2.2.1) (hd : decode cc pc = .ok (.arraylength, 1)) (hv : Int32.ofNat n = v) (k : G w X Z (pc + 1) lv (.int v :: st) u) : G w X Z pc lv (.ref a :: st) u := by
  intro H locs ls h1 h2 h3 h4
  rw [List.map_cons, tv_a w (kd_lt hk (by decide))]
  exact va_alen hX.1 hX.2.1 hX.2.2.2.2.1 h2 a 0 (gt_a hx (enc_I hk hn)) rfl hv hd (k H locs ls h1 h2 h3 h4)
theorem G_alenJ (hX : OKc w X o cc d) {a n : Nat} {v : Int32} (hk : kd a = 10) (hn : ln a = n) (hx : a < Z.2.2.2.1) (hd : decode cc pc = .ok (.arraylength, 1)) (hv : Int32.ofNat n = v) (k : G w X Z (pc + 1) lv (.int v :: st) u) : G w X Z pc lv (.ref a :: st) u := by
  intro H locs ls h1 h2 h3 h4
  rw [List.map_cons, tv_a w (kd_lt hk (by decide))]
  exact va_alen hX.1 hX.2.1 hX.2.2.2.2.1 h2 a 1 (gt_a hx (enc_J hk hn)) rfl hv hd (k H locs ls h1 h2 h3 h4)
theorem G_alenC (hX : OKc w X o cc d) {a n : Nat} {v : Int32} (hk : kd a = 12) (hn : ln a = n) (hx : a < Z.2.2.2.1) (hd : decode cc pc = .ok (.arraylength, 1)) (hv : Int32.ofNat n = v) (k : G w X Z (pc + 1) lv (.int v :: st) u) : G w X Z pc lv (.ref a :: st) u := by
  intro H locs ls h1 h2 h3 h4
  rw [List.map_cons, tv_a w (kd_lt hk (by decide))]
  exact va_alen hX.1 hX.2.1 hX.2.2.2.2.1 h2 a 3 (gt_a hx (enc_C hk hn)) rfl hv hd (k H locs ls h1 h2 h3 h4)
theorem G_alenS (hX : OKc w X o cc d) {a n : Nat} {v : Int32} (hk : kd a = 13) (hn : ln a = n) (hx : a < Z.2.2.2.1) (hd : decode cc pc = .ok (.arraylength, 1)) (hv : Int32.ofNat n = v) (k : G w X Z (pc + 1) lv (.int v :: st) u) : G w X Z pc lv (.ref a :: st) u := by
  intro H locs ls h1 h2 h3 h4
  rw [List.map_cons, tv_a w (kd_lt hk (by decide))]
  exact va_alen hX.1 hX.2.1 hX.2.2.2.2.1 h2 a 4 (gt_a hx (enc_S hk hn)) rfl hv hd (k H locs ls h1 h2 h3 h4)
theorem G_aaldC (hX : OKc w X o cc d) {a n t : Nat} {i : Int32} {ρ : Type} {A : Option ρ} {r : ρ} (hk : kd a = 12) (hn : ln a = n) (hx : a < Z.2.2.2.1) (hp : inb i n = true → Z.2.2.1 a i.toNatClampNeg = some t) (hd : decode cc pc = .ok (.aaload, 1)) (hf : (if inb i n = true then A else none) = some r) (k : A = some r → G w X Z (pc + 1) lv (.ref t :: st) u) : G w X Z pc lv (.int i :: .ref a :: st) u := by
  intro H locs ls h1 h2 h3 h4
  by_cases hb : inb i n = true
  · rw [if_pos hb] at hf
    rw [List.map_cons, List.map_cons, tv_a w (kd_lt hk (by decide))]
    refine va_aldq hX.1 hX.2.1 hX.2.2.2.2.1 h2 a 3 (gt_a hx (enc_C hk hn)) rfl (inb_in hb) hd ?_
    rw [hp hb]
    exact k hf H locs ls h1 h2 h3 h4
  · rw [if_neg hb] at hf; cases hf
theorem G_aaldS (hX : OKc w X o cc d) {a n t : Nat} {i : Int32} {ρ : Type} {A : Option ρ} {r : ρ} (hk : kd a = 13) (hn : ln a = n) (hx : a < Z.2.2.2.1) (hp : inb i n = true → Z.2.2.1 a i.toNatClampNeg = some t) (hd : decode cc pc = .ok (.aaload, 1)) (hf : (if inb i n = true then A else none) = some r) (k : A = some r → G w X Z (pc + 1) lv (.ref t :: st) u) : G w X Z pc lv (.int i :: .ref a :: st) u := by
  intro H locs ls h1 h2 h3 h4
  by_cases hb : inb i n = true
  · rw [if_pos hb] at hf
    rw [List.map_cons, List.map_cons, tv_a w (kd_lt hk (by decide))]
    refine va_aldq hX.1 hX.2.1 hX.2.2.2.2.1 h2 a 4 (gt_a hx (enc_S hk hn)) rfl (inb_in hb) hd ?_
    rw [hp hb]
    exact k hf H locs ls h1 h2 h3 h4
  · rw [if_neg hb] at hf; cases hf
/-! ===== fields ===== -/
def FL (o : String) (idx c i : Nat) : Prop := ∃ (C : String) (T : u_T) (N : Nat), vwCl[c]? = some (C, T, N) ∧ i < N ∧ Cond.fieldLink o idx (T i).1 (T i).2.1 (T i).2.2.1 ∈ tw ∧ ∀ q ∈ u_ws C T N, q ∈ tw
def FW (c i : Nat) : Prop := ∃ (C : String) (T : u_T) (N : Nat) (ty0 : Nat → FieldType), vwCl[c]? = some (C, T, N) ∧ (∀ k, k < N → parseFieldDescriptor (T k).2.2.1 = some (ty0 k)) ∧ (∀ a, a < N → ∀ b, b < N → a ≠ b → (T a).2.1 ≠ (T b).2.1) ∧ (T i).2.2.2 = false ∧ parseFieldDescriptor (T i).2.2.1 = some .int
theorem encF_int {w : Wc} {u : Um} {P : Pm} {a c i : Nat} (hk : kd a = c) (hi : (fty c)[i]? = some false) : (encF w u P a)[i]? = some (.int (u.1 a i)) := by
  unfold encF
  rw [hk, List.getElem?_mapIdx, hi]
  rfl
theorem encF_ref {w : Wc} {u : Um} {P : Pm} {a c i : Nat} (hk : kd a = c) (hi : (fty c)[i]? = some true) : (encF w u P a)[i]? = some (va_rf ((P a i).map (wAd w))) := by
  unfold encF
  rw [hk, List.getElem?_mapIdx, hi]
  rfl
theorem encF_set {w : Wc} {u : Um} {P : Pm} {a c i : Nat} {x : Int32} (hk : kd a = c) (hi : (fty c)[i]? = some false) : (encF w u P a).set i (.int x) = encF w (sI u a i x) P a := by
  apply List.ext_getElem?
  intro j
  have hl : i < (encF w u P a).length := (List.getElem?_eq_some_iff.mp (encF_int (w := w) (u := u) (P := P) hk hi)).1
  by_cases hj : j = i
  · subst hj
    rw [List.getElem?_set_self hl, encF_int hk hi]
    simp [sI, sIr, upd]
  · rw [List.getElem?_set_ne (Ne.symm hj)]
    unfold encF
    rw [List.getElem?_mapIdx, List.getElem?_mapIdx]
    simp [sI, sIr, upd, hj]
theorem wld_F {w : Wc} {u : Um} {P : Pm} {nx a c i : Nat} {x : Int32} (hk : kd a = c) (hc : c < 9) (hi : (fty c)[i]? = some false) : (wld w u P nx).set a (w.1 + a, .inr (c, (encF w u P a).set i (.int x))) = wld w (sI u a i x) P nx :=
  wld_set (by rw [enc_O hk hc, encF_set hk hi]) (fun j h => enc_sI h)
theorem G_getI (hX : OKc w X o cc d) {a c i idx : Nat} (hk : kd a = c) (hc : c < 9) (hx : a < Z.2.2.2.1) (hi : (fty c)[i]? = some false) (hl : FL o idx c i) (hd : decode cc pc = .ok (.getfield idx, 3)) (k : G w X Z (pc + 3) lv (.int (u.1 a i) :: st) u) : G w X Z pc lv (.ref a :: st) u := by
  intro H locs ls h1 h2 h3 h4
  obtain ⟨C, T, N, e1, e2, e3, e4⟩ := hl
  rw [List.map_cons, tv_a w (kd_lt hk (by omega))]
  exact va_get hX.1 hX.2.1 hX.2.2.2.1 e4 hX.2.2.1 hX.2.2.2.2.1 h2 a (gt_a hx (enc_O hk hc)) e1 i e2 (hX.2.2.2.1 _ e3) (fun _ h => h) (encF_int hk hi) hd (k H locs ls h1 h2 h3 h4)
theorem G_getR (hX : OKc w X o cc d) {a c i idx t : Nat} (hk : kd a = c) (hc : c < 9) (hx : a < Z.2.2.2.1) (hi : (fty c)[i]? = some true) (hp : Z.2.2.1 a i = some t) (hl : FL o idx c i) (hd : decode cc pc = .ok (.getfield idx, 3)) (k : G w X Z (pc + 3) lv (.ref t :: st) u) : G w X Z pc lv (.ref a :: st) u := by
  intro H locs ls h1 h2 h3 h4
  obtain ⟨C, T, N, e1, e2, e3, e4⟩ := hl
  rw [List.map_cons, tv_a w (kd_lt hk (by omega))]
  refine va_get hX.1 hX.2.1 hX.2.2.2.1 e4 hX.2.2.1 hX.2.2.2.2.1 h2 a (gt_a hx (enc_O hk hc)) e1 i e2 (hX.2.2.2.1 _ e3) (fun _ h => h) (encF_ref hk hi) hd ?_
  rw [hp]
  exact k H locs ls h1 h2 h3 h4
theorem G_putI (hX : OKc w X o cc d) {a c i idx : Nat} {x : Int32} {ρ : Type} {A : Um → Option ρ} {r : ρ} (hk : kd a = c) (hc : c < 9) (hx : a < Z.2.2.2.1) (hz : Z.2.2.2.2 = false) (hi : (fty c)[i]? = some false) (hl : FL o idx c i) (hw : FW c i) (hd : decode cc pc = .ok (.putfield idx, 3)) (hf : nm (sI u a i x) A = some r) (k : ∀ u', A u' = some r → G w X Z (pc + 3) lv st u') : G w X Z pc lv (.int x :: .ref a :: st) u := by
  intro H locs ls h1 h2 h3 h4
  obtain ⟨C, T, N, e1, e2, e3, e4⟩ := hl
  obtain ⟨C', T', N', ty0, g1, g2, g3, g4, g5⟩ := hw
  cases e1.symm.trans g1
  rw [List.map_cons, List.map_cons, tv_a w (kd_lt hk (by omega))]
  refine va_put hX.1 hX.2.1 hX.2.2.2.1 e4 ty0 g2 g3 hX.2.2.1 hX.2.2.2.2.1 h2 wld_D h3 a (gt_a hx (enc_O hk hc)) e1 i e2 (hX.2.2.2.1 _ e3) (fun _ h => h) g4 g5 rfl rfl (List.getElem?_eq_some_iff.mp (encF_int (w := w) (u := u) (P := Z.2.2.1) hk hi)).1 hd (fun H1 locs1 f1 f2 f3 => ?_)
  rw [show tv w (.int x) = .int x from rfl, wld_F hk hc hi] at f1
  exact k _ hf H1 locs1 ls (fun h => by rw [hz] at h; cases h) f1 f3 h4
/-! ===== the table KIND_OVER ===== -/
theorem G_getK (hX : OKc w X o cc d) {idx : Nat} (hl : Cond.fieldLink o idx RX7 "KIND_OVER" "[I" ∈ tw) (hd : decode cc pc = .ok (.getstatic idx, 3)) (k : G w X Z (pc + 3) lv (.ref 1000000 :: st) u) : G w X Z pc lv st u := by
  intro H locs ls h1 h2 h3 h4
  exact va_gets hX.1 hX.2.1 hX.2.2.2.2.2.1.1 h3 hX.2.2.1 (hX.2.2.2.1 _ hl) (fun _ h => h) hd (k H locs ls h1 h2 h3 h4)
theorem G_lenK (hX : OKc w X o cc d) (hd : decode cc pc = .ok (.arraylength, 1)) (k : G w X Z (pc + 1) lv (.int 6 :: st) u) : G w X Z pc lv (.ref 1000000 :: st) u := by
  intro H locs ls h1 h2 h3 h4
  exact va_tlen hX.1 hX.2.1 hX.2.2.2.2.2.1.2.1 h3 rfl hd (k H locs ls h1 h2 h3 h4)
theorem G_ldK (hX : OKc w X o cc d) {i : Int32} {ρ : Type} {A : Option ρ} {r : ρ} (hd : decode cc pc = .ok (.iaload, 1)) (hf : (if inb i 6 = true then A else none) = some r) (k : A = some r → G w X Z (pc + 1) lv (.int (kovV i.toNatClampNeg) :: st) u) : G w X Z pc lv (.int i :: .ref 1000000 :: st) u := by
  intro H locs ls h1 h2 h3 h4
  by_cases hb : inb i 6 = true
  · rw [if_pos hb] at hf
    exact va_ti hX.1 hX.2.1 hX.2.2.2.2.2.1.2.1 h3 (inb_in hb) rfl hd (k hf H locs ls h1 h2 h3 h4)
  · rw [if_neg hb] at hf; cases hf
/-! ===== calls ===== -/
def CQ (q : MI) (n : Nat) : Prop := Cond.initialized q.1.cls ∈ tw ∧ Cond.code q.1 q.2.1 q.2.2.1 q.2.2.2 ∈ tw ∧ (q.1.cls ≠ "java/lang/invoke/MethodHandle" ∧ q.1.cls ≠ "java/lang/invoke/VarHandle" ∧ (parseMethodDescriptor q.1.desc).map (fun d => d.parameters.length) = some n) ∧ q.2.2.1 ≤ 21
def CV (o : String) (idx : Nat) (q : MI) (c n : Nat) : Prop := Cond.methodLink o idx q.1 ∈ tw ∧ Cond.instanceMethod q.1 ∈ tw ∧ Cond.selects q.1.cls q.1 q.1 ∈ tw ∧ (∃ r : vw_C, vwCl[c]? = some r ∧ r.1 = q.1.cls) ∧ CQ q n
def CS (o : String) (idx : Nat) (q : MI) (n : Nat) : Prop := Cond.methodLink o idx q.1 ∈ tw ∧ Cond.static q.1 ∈ tw ∧ CQ q n
def CN (o : String) (idx : Nat) (q : MI) (n : Nat) : Prop := (o, idx, q.1) ∈ NSL ∧ Cond.static q.1 ∈ tw ∧ CQ q n
theorem tw_gd {c : Cond} (h : c ∈ tw) : (c.onTables && c.keeps) = true ∨ ∃ ty, c = .arrayClass ty := good_of_word (List.mem_filter.mp h).2
theorem pre_at (hX : OKc w X o cc d) {P : Pm} {nx : Nat} {b : Bool} {H : Heap} {locs : List Loc} {av : List Value} (h1 : b = true → H.size = w.1 + nx) (h2 : va_P (wD w) vwCl (wld w u P nx) H) (h3 : va_S (wA w) X.2.2.2.2.1.heap H locs) : ∀ U : State, U.heap = H → X.2.2.2.2.1.WarmedH U.vm → va_Pc av (Pre w u P nx b) av.toArray U := by
  intro U hU hW
  refine ⟨rfl, ?_, fun hb => by rw [hU]; exact h1 hb, by rw [hU]; exact h2, va_K.moved hW.alike hX.2.2.2.2.1, hX.2.2.2.2.2.1.move hW (fun a ha hA => by rw [hU]; exact h3.2.1 a ha hA)⟩
  rw [hU]
  exact Nat.le_trans hX.2.2.2.2.2.2.1 h3.1
theorem G_back {P' : Pm} {nx' mc ms : Nat} {b : Bool} {rv : Option Value} {u' : Um} {rest : List Value} {H : Heap} {locs : List Loc} {ls : Array Slot} {av : Array Value} {cs sl : Nat} {st0 : List Value}
    (hr : va_Run X.1 X.2.1 X.2.2.1 X.2.2.2.1 X.2.2.2.2.1 X.2.2.2.2.2.1 X.2.2.2.2.2.2.1 X.2.2.2.2.2.2.2.1 X.2.2.2.2.2.2.2.2.1 X.2.2.2.2.2.2.2.2.2.1 H locs cs sl mc ms (F0 X.2.2.2.2.2.1 pc ls st0) (rest.map (tv w)) (Qm w P' nx' b rv u' av) (wA w))
    (h3 : va_S (wA w) X.2.2.2.2.1.heap H locs) (h4 : LVs w ls X.2.2.2.2.2.2.2.2.2.1.maxLocals lv) (k : G w X (cs + mc, sl + ms, P', nx', b) (pc + 3) lv (rv.toList ++ rest) u') :
    W X.1 X.2.1 X.2.2.1 X.2.2.2.1 X.2.2.2.2.1 X.2.2.2.2.2.1 X.2.2.2.2.2.2.1 X.2.2.2.2.2.2.2.1 X.2.2.2.2.2.2.2.2.1 X.2.2.2.2.2.2.2.2.2.1 H locs cs sl X.2.2.2.2.2.2.2.2.2.2 (F0 X.2.2.2.2.2.1 pc ls st0) := by
  intro T hT Y
  obtain ⟨v, st₀, t, T', L, g0, Y', hL, e1, e2, ⟨⟨hv, hsz, hp⟩, hz, hk⟩, stp⟩ := hr T hT Y
  have hv2 : v = rv.map (tv w) := by cases hv; rfl
  subst hv2
  rw [g0] at hz hk
  have hS : va_S (wA w) X.2.2.2.2.1.heap T'.heap (locs ++ L) := ⟨Nat.le_trans h3.1 (by rw [e1]; exact hz), fun q a1 a2 => by rw [e1, hk q (Nat.lt_of_lt_of_le a1 h3.1) a2]; exact h3.2.1 q a1 a2, fun q hq => by
      rcases List.mem_append.mp hq with h | h
      · exact h3.2.2 q h
      · exact hL q h⟩
  obtain ⟨t2, a1, b1⟩ := k T'.heap (locs ++ L) ls (fun hb => by rw [e1]; exact hsz hb) (by rw [e1]; exact hp) hS h4 T' rfl Y'
  refine ⟨t2, stp t2 ?_, b1⟩
  have e3 : (rv.map (tv w)).toList ++ rest.map (tv w) = (rv.toList ++ rest).map (tv w) := by cases rv <;> simp
  show Steps _ _ _ (T'.setTop { F0 X.2.2.2.2.2.1 pc ls st0 with pc := pc + 3, stack := (rv.map (tv w)).toList ++ rest.map (tv w) }) t2
  rw [e3]
  exact a1
theorem G_callV (hX : OKc w X o cc d) {idx c n mc ms d' a nx nx' cs sl : Nat} {P P' : Pm} {b : Bool} {q : MI} {as rest : List Value} {rv : Option Value} {u' : Um} (hv : CV o idx q c n) (hM : MCg w d' q mc ms P nx P' nx' b (.ref a :: as) u rv u') (hdd : d' + 1 ≤ d) (hk : kd a = c) (hc : c < 9) (hx : a < nx) (hn : as.length = n) (hs : st = as.reverse ++ .ref a :: rest) (hr : (rest.map (fun v => v.category)).sum ≤ 8) (hd : decode cc pc = .ok (.invokevirtual idx, 3)) (hf : cs + mc ≤ X.2.2.2.1.cells ∧ sl + ms ≤ X.2.2.2.1.slots) (k : G w X (cs + mc, sl + ms, P', nx', b) (pc + 3) lv (rv.toList ++ rest) u') : G w X (cs, sl, P, nx, b) pc lv st u := by
  subst hs
  intro H locs ls h1 h2 h3 h4
  obtain ⟨v1, v2, v3, ⟨r, v4, v5⟩, v6, v7, v8, v9⟩ := hv
  have hCW := cwV (R := X.2.2.2.1) (s := X.2.2.2.2.1) (args := X.2.2.2.2.2.2.1) (own := o) (index := idx) (C := q.1.cls) (y := q.1) (bytes := q.2.1) (maxL := q.2.2.1) (ret := q.2.2.2) (ws := Cond.code q.1 q.2.1 q.2.2.1 q.2.2.2 :: tw) (rm := rmD d' mc ms) (mc := mc) (ms := ms) n hX.2.2.2.1
    (by
      intro z hz
      unfold wsV at hz
      rcases List.mem_append.mp hz with hz | hz
      · simp only [List.mem_cons, List.not_mem_nil, or_false] at hz
        rcases hz with rfl | rfl | rfl | rfl
        · exact ⟨v1, tw_gd v1⟩
        · exact ⟨v2, tw_gd v2⟩
        · exact ⟨v3, tw_gd v3⟩
        · exact ⟨v6, tw_gd v6⟩
      · exact tw_good0 v7 z hz) rfl rfl rfl ⟨rfl, v8⟩ ⟨Nat.le_trans hdd hX.2.2.2.2.2.2.2.1, by
        have := hX.2.2.2.2.2.2.2.2
        show 8 + (q.2.2.1 + 11) + 40 * d' ≤ _
        omega⟩
  have hrv : ∃ cell : Cell, H[w.1 + a]? = some cell ∧ cell.vm.isStatics = false ∧ X.2.2.2.2.1.vm.findClass q.1.cls = some cell.cls := by
    rw [← v5]
    exact va_recv hX.2.2.2.2.1 h2 v4 (gt_a hx (enc_O hk hc))
  have hea : tv w (.ref a) = .ref (w.1 + a) := tv_a w (kd_lt hk (by omega))
  have hM' := hM X.2.1
  rw [List.map_cons, hea] at hM'
  refine G_back (rest := rest) (va_runV (As := as.map (tv w)) (rest := rest.map (tv w)) (b := w.1 + a) ⟨hX.1, hX.2.1, rfl, hX.2.2.1, hX.2.2.2.1⟩ hM' hCW ⟨pre_blind, hrv, ?_⟩ rfl (by rw [List.length_map]; exact hn) h4.1 ?_ ?_ hd hf) h3 h4 k
  · exact pre_at hX h1 h2 h3
  · show (as.reverse ++ .ref a :: rest).map (tv w) = _
    rw [List.map_append, List.map_reverse, List.map_cons, hea]
  · refine lv_room ?_
    have e : (rest.map (tv w)).map (fun v => v.category) = rest.map (fun v => v.category) := by
      rw [List.map_map]
      exact List.map_congr_left (fun v _ => tv_cat w v)
    rw [e]
    exact hr
theorem G_callS (hX : OKc w X o cc d) {idx n mc ms d' nx nx' cs sl : Nat} {P P' : Pm} {b : Bool} {q : MI} {as rest : List Value} {rv : Option Value} {u' : Um} (hv : CS o idx q n) (hM : MCg w d' q mc ms P nx P' nx' b as u rv u') (hdd : d' + 1 ≤ d) (hn : as.length = n) (hs : st = as.reverse ++ rest) (hr : (rest.map (fun v => v.category)).sum ≤ 8) (hd : decode cc pc = .ok (.invokestatic idx, 3)) (hf : cs + mc ≤ X.2.2.2.1.cells ∧ sl + ms ≤ X.2.2.2.1.slots) (k : G w X (cs + mc, sl + ms, P', nx', b) (pc + 3) lv (rv.toList ++ rest) u') : G w X (cs, sl, P, nx, b) pc lv st u := by
  subst hs
  intro H locs ls h1 h2 h3 h4
  obtain ⟨v1, v2, v6, v7, v8, v9⟩ := hv
  have hCW := va_cwS (R := X.2.2.2.1) (s := X.2.2.2.2.1) (args := X.2.2.2.2.2.2.1) (own := o) (index := idx) (y := q.1) (bytes := q.2.1) (maxL := q.2.2.1) (ret := q.2.2.2) (ws := Cond.code q.1 q.2.1 q.2.2.1 q.2.2.2 :: tw) (rm := rmD d' mc ms) (mc := mc) (ms := ms) n hX.2.2.2.1
    (by
      intro z hz
      unfold va_wsS at hz
      rcases List.mem_append.mp hz with hz | hz
      · simp only [List.mem_cons, List.not_mem_nil, or_false] at hz
        rcases hz with rfl | rfl | rfl
        · exact ⟨v1, tw_gd v1⟩
        · exact ⟨v2, tw_gd v2⟩
        · exact ⟨v6, tw_gd v6⟩
      · exact tw_good0 v7 z hz) rfl rfl rfl v8 ⟨Nat.le_trans hdd hX.2.2.2.2.2.2.2.1, by
        have := hX.2.2.2.2.2.2.2.2
        show 8 + (q.2.2.1 + 11) + 40 * d' ≤ _
        omega⟩
  refine G_back (rest := rest) (va_runS (As := as.map (tv w)) (rest := rest.map (tv w)) ⟨hX.1, hX.2.1, rfl, hX.2.2.1, hX.2.2.2.1⟩ (hM X.2.1) hCW ⟨pre_blind, ?_⟩ rfl (by rw [List.length_map]; exact hn) h4.1 ?_ ?_ hd hf) h3 h4 k
  · exact pre_at hX h1 h2 h3
  · show (as.reverse ++ rest).map (tv w) = _
    rw [List.map_append, List.map_reverse]
  · refine lv_room ?_
    have e : (rest.map (tv w)).map (fun v => v.category) = rest.map (fun v => v.category) := by
      rw [List.map_map]
      exact List.map_congr_left (fun v _ => tv_cat w v)
    rw [e]
    exact hr
theorem G_callN (hX : OKc w X o cc d) {idx n mc ms d' nx nx' cs sl : Nat} {P P' : Pm} {b : Bool} {q : MI} {as rest : List Value} {rv : Option Value} {u' : Um} (hv : CN o idx q n) (hM : MCg w d' q mc ms P nx P' nx' b as u rv u') (hdd : d' + 1 ≤ d) (hn : as.length = n) (hs : st = as.reverse ++ rest) (hr : (rest.map (fun v => v.category)).sum ≤ 8) (hd : decode cc pc = .ok (.invokestatic idx, 3)) (hf : cs + mc ≤ X.2.2.2.1.cells ∧ sl + ms ≤ X.2.2.2.1.slots) (k : G w X (cs + mc, sl + ms, P', nx', b) (pc + 3) lv (rv.toList ++ rest) u') : G w X (cs, sl, P, nx, b) pc lv st u := by
  subst hs
  intro H locs ls h1 h2 h3 h4
  obtain ⟨v1, v2, v6, v7, v8, v9⟩ := hv
  have hCW := va_cnB (R := X.2.2.2.1) (s := X.2.2.2.2.1) (args := X.2.2.2.2.2.2.1) (own := o) (index := idx) (y := q.1) (host := RX7) (bytes := q.2.1) (maxL := q.2.2.1) (ret := q.2.2.2) (ws := Cond.code q.1 q.2.1 q.2.2.1 q.2.2.2 :: tw) (rm := rmD d' mc ms) (mc := mc) (ms := ms) n hX.2.2.2.1
    (tw_good0 v7) rfl rfl rfl (hX.2.2.2.2.2.1.2.2.1 _ v1) (hX.2.2.2.1 _ v6) v8 ⟨Nat.le_trans hdd hX.2.2.2.2.2.2.2.1, by
        have := hX.2.2.2.2.2.2.2.2
        show 8 + (q.2.2.1 + 11) + 40 * d' ≤ _
        omega⟩
  refine G_back (rest := rest) (va_runSN (As := as.map (tv w)) (rest := rest.map (tv w)) ⟨hX.1, hX.2.1, rfl, hX.2.2.1, hX.2.2.2.1⟩ (hM X.2.1) ⟨hCW, hX.2.2.2.1 _ v2, trivial⟩ ⟨pre_blind, ?_⟩ rfl (by rw [List.length_map]; exact hn) h4.1 ?_ ?_ hd hf) h3 h4 k
  · exact pre_at hX h1 h2 h3
  · show (as.reverse ++ rest).map (tv w) = _
    rw [List.map_append, List.map_reverse]
  · refine lv_room ?_
    have e : (rest.map (tv w)).map (fun v => v.category) = rest.map (fun v => v.category) := by
      rw [List.map_map]
      exact List.map_congr_left (fun v _ => tv_cat w v)
    rw [e]
    exact hr
/-! ===== a method's ends, its start ===== -/
def RT (w : Wc) (X : MX) (ret : Option FieldType) (mc ms : Nat) (P : Pm) (nx : Nat) (b : Bool) (rv : Option Value) (u : Um) : Prop :=
  X.2.2.2.2.2.2.2.2.2.2 = MQ X.2.2.2.2.2.2.2.1 (Qm w P nx b rv u) X.2.2.2.2.2.2.1 X.2.2.2.2.1 mc ms (wA w) ∧ X.2.2.2.2.2.2.2.2.1.sig.returnType = ret ∧ X.2.2.2.2.2.2.2.2.1.locks = false
theorem G_end {P : Pm} {nx mc ms : Nat} {b : Bool} {rv : Option Value} {H : Heap} {locs : List Loc} (h1 : b = true → H.size = w.1 + nx) (h2 : va_P (wD w) vwCl (wld w u P nx) H) (h3 : va_S (wA w) X.2.2.2.2.1.heap H locs) : ∀ t : State, t.heap = H → X.2.2.2.2.1.WarmedH t.vm → Qm w P nx b rv u X.2.2.2.2.2.2.1 X.2.2.2.2.1 (.returned (rv.map (tv w))) t := by
  intro t ht _
  exact ⟨⟨rfl, fun hb => by rw [ht]; exact h1 hb, by rw [ht]; exact h2⟩, h3.F ht⟩
theorem G_iret (hX : OKc w X o cc d) {P : Pm} {nx mc ms : Nat} {b : Bool} {x : Int32} (hR : RT w X (some .int) mc ms P nx b (some (.int x)) u) (hd : decode cc pc = .ok (.ireturn, 1)) : G w X (mc, ms, P, nx, b) pc lv [.int x] u := by
  intro H locs ls h1 h2 h3 h4
  obtain ⟨r1, r2, r3⟩ := hR
  rw [r1]
  exact W.iret hX.1 hX.2.1 r2 (G_end (mc := mc) (ms := ms) h1 h2 h3) h3.2.2 hd r3
theorem bz_nar {x : Int32} (h : x = 0 ∨ x = 1) : narrow .boolean (.int x) = .int x := by rcases h with rfl | rfl <;> rfl
theorem G_zret (hX : OKc w X o cc d) {P : Pm} {nx mc ms : Nat} {b : Bool} {x : Int32} (hR : RT w X (some .boolean) mc ms P nx b (some (.int x)) u) (hn : x = 0 ∨ x = 1) (hd : decode cc pc = .ok (.ireturn, 1)) : G w X (mc, ms, P, nx, b) pc lv [.int x] u := by
  intro H locs ls h1 h2 h3 h4
  obtain ⟨r1, r2, r3⟩ := hR
  rw [r1]
  exact W.zret hX.1 hX.2.1 r2 (bz_nar hn) (G_end (mc := mc) (ms := ms) h1 h2 h3) h3.2.2 hd r3
theorem G_lret (hX : OKc w X o cc d) {P : Pm} {nx mc ms : Nat} {b : Bool} {x : Int64} (hR : RT w X (some .long) mc ms P nx b (some (.long x)) u) (hd : decode cc pc = .ok (.lreturn, 1)) : G w X (mc, ms, P, nx, b) pc lv [.long x] u := by
  intro H locs ls h1 h2 h3 h4
  obtain ⟨r1, r2, r3⟩ := hR
  rw [r1]
  exact W.lret hX.1 hX.2.1 r2 (G_end (mc := mc) (ms := ms) h1 h2 h3) h3.2.2 hd r3
theorem G_vret (hX : OKc w X o cc d) {P : Pm} {nx mc ms : Nat} {b : Bool} (hR : RT w X none mc ms P nx b none u) (hd : decode cc pc = .ok (.return_, 1)) : G w X (mc, ms, P, nx, b) pc lv [] u := by
  intro H locs ls h1 h2 h3 h4
  obtain ⟨r1, r2, r3⟩ := hR
  rw [r1]
  exact W.vret hX.1 hX.2.1 r2 (G_end (mc := mc) (ms := ms) h1 h2 h3) h3.2.2 hd r3
theorem G_aret (hX : OKc w X o cc d) {P : Pm} {nx mc ms x : Nat} {b : Bool} {C : String} (hR : RT w X (some (.object C)) mc ms P nx b (some (.ref x)) u) (hd : decode cc pc = .ok (.areturn, 1)) : G w X (mc, ms, P, nx, b) pc lv [.ref x] u := by
  intro H locs ls h1 h2 h3 h4
  obtain ⟨r1, r2, r3⟩ := hR
  rw [r1]
  exact W.aret hX.1 hX.2.1 r2 (Or.inl ⟨_, rfl⟩) (Or.inr ⟨_, rfl⟩) (G_end (mc := mc) (ms := ms) h1 h2 h3) h3.2.2 hd r3
theorem G_aretN (hX : OKc w X o cc d) {P : Pm} {nx mc ms : Nat} {b : Bool} {C : String} (hR : RT w X (some (.object C)) mc ms P nx b (some .null) u) (hd : decode cc pc = .ok (.areturn, 1)) : G w X (mc, ms, P, nx, b) pc lv [.null] u := by
  intro H locs ls h1 h2 h3 h4
  obtain ⟨r1, r2, r3⟩ := hR
  rw [r1]
  exact W.aret hX.1 hX.2.1 r2 (Or.inl ⟨_, rfl⟩) (Or.inl rfl) (G_end (mc := mc) (ms := ms) h1 h2 h3) h3.2.2 hd r3
end GR
theorem MC_intro {w : Wc} {d mc ms nx nx' : Nat} {q : MI} {P P' : Pm} {b : Bool} {as : List Value} {u u' : Um} {rv : Option Value} (hy : plainName q.1.cls = true) (hlen : (entL as).length ≤ q.2.2.1)
    (h : ∀ X : MX, OKc w X q.1.cls q.2.1 d → RT w X q.2.2.2 mc ms P' nx' b rv u' → X.2.2.2.1.cells = mc ∧ X.2.2.2.1.slots = ms → X.2.2.2.2.2.2.2.2.1.name = q.1.name → G w X (0, 0, P, nx, b) 0 (entL as ++ List.replicate (q.2.2.1 - (entL as).length) none) [] u) : MCg w d q mc ms P nx P' nx' b as u rv u' := by
  intro l
  refine Met.ofW (cc := q.2.1) (maxL := q.2.2.1) (ret := q.2.2.2) hy rfl ?_
  intro p e s m args below meth c s₁ B hml hv
  obtain ⟨rfl, hv0, hsz, hP, hK, hST⟩ := hv
  have hts := atoms_spec (ws := Cond.code q.1 q.2.1 q.2.2.1 q.2.2.2 :: tw) B.pre
  have hX : OKc w (p, l, e, rmD d mc ms, s, m, (as.map (tv w)).toArray, below, meth, c, MQ below (Qm w P' nx' b rv u') (as.map (tv w)).toArray s mc ms (wA w)) q.1.cls q.2.1 d :=
    ⟨B.exec, B.bytes, findClass_of_methodNamed B.named, fun z hz => hts z (List.mem_cons_of_mem _ hz), hK, hST, hv0, Nat.le_refl _, Nat.le_refl _⟩
  have hg := h (p, l, e, rmD d mc ms, s, m, (as.map (tv w)).toArray, below, meth, c, MQ below (Qm w P' nx' b rv u') (as.map (tv w)).toArray s mc ms (wA w)) hX ⟨rfl, B.returns, B.notSynchronized⟩ ⟨rfl, rfl⟩ (name_of_methodNamed B.named B.method).1
  rw [lg_entry_eq]
  have he := LVs.entry w as (n := q.2.2.1) hlen
  exact hg s.heap [] _ hsz hP va_S.rf (by show LVs w _ c.maxLocals _; rw [hml]; exact he)
/-! ===== loops ===== -/
def lp {σ : Type} (body : σ → Option (Nat × σ)) : Nat → σ → Option (Nat × σ)
  | 0, _ => none
  | n + 1, s => (body s).bind (fun q => if q.1 = 0 then lp body n q.2 else some q)
theorem bind_some {α β : Type} {x : Option α} {f : α → Option β} {b : β} (h : x.bind f = some b) : ∃ a, x = some a ∧ f a = some b := by
  cases x with
  | none => cases h
  | some a => exact ⟨a, rfl, h⟩
theorem lp_G {σ : Type} {body : σ → Option (Nat × σ)} {Gh : σ → Prop} {Gx : Nat → σ → Prop} (hb : ∀ s e s', body s = some (e, s') → (e = 0 → Gh s') → (e ≠ 0 → Gx e s') → Gh s) : ∀ (n : Nat) (s : σ) (q : Nat × σ), lp body n s = some q → Gx q.1 q.2 → Gh s
  | 0, _, _, h, _ => by cases h
  | n + 1, s, q, h, hx => by
    obtain ⟨⟨e, s'⟩, h1, h2⟩ := bind_some h
    by_cases he : e = 0
    · subst he
      rw [if_pos rfl] at h2
      exact hb s 0 s' h1 (fun _ => lp_G hb n s' q h2 hx) (fun h => absurd rfl h)
    · rw [if_neg (by exact he)] at h2
      cases h2
      exact hb s e s' h1 (fun h => absurd h he) (fun _ => hx)
section GR
variable {w : Wc} {X : MX} {Z : ZZ} {o : String} {cc : ByteArray} {d pc : Nat} {lv lv' : List (Option Value)} {st : List Value} {u : Um}
theorem G_tswIn (hX : OKc w X o cc d) {dflt lo hi : Int} {offs : Array Int} {len tgt : Nat} {x : Int32} {off : Int} (hd : decode cc pc = .ok (.tableswitch dflt lo hi offs, len)) (g1 : ¬ x.toInt < lo) (g2 : ¬ hi < x.toInt) (ho : offs[(x.toInt - lo).toNat]? = some off) (ht : (pc : Int) + off = (tgt : Int)) (k : G w X Z tgt lv st u) : G w X Z pc lv (.int x :: st) u := fun H locs ls h1 h2 h3 h4 => lv_tableIn hX.1 hX.2.1 hd g1 g2 ho ht (k H locs ls h1 h2 h3 h4)
theorem G_tswOut (hX : OKc w X o cc d) {dflt lo hi : Int} {offs : Array Int} {len tgt : Nat} {x : Int32} (hd : decode cc pc = .ok (.tableswitch dflt lo hi offs, len)) (g1 : x.toInt < lo ∨ hi < x.toInt) (ht : (pc : Int) + dflt = (tgt : Int)) (k : G w X Z tgt lv st u) : G w X Z pc lv (.int x :: st) u := fun H locs ls h1 h2 h3 h4 => lv_tableOut hX.1 hX.2.1 hd g1 ht (k H locs ls h1 h2 h3 h4)
theorem G_lsw (hX : OKc w X o cc d) {dflt : Int} {ps : Array (Int × Int)} {len tgt : Nat} {x : Int32} {off : Int} (hd : decode cc pc = .ok (.lookupswitch dflt ps, len)) (hp : (ps.toList.zip (ps.toList.drop 1)).all (fun (a, next) => a.1 < next.1) = true) (ho : Op.lookupswitch.offset ps.toList dflt x.toInt = off) (ht : (pc : Int) + off = (tgt : Int)) (k : G w X Z tgt lv st u) : G w X Z pc lv (.int x :: st) u := fun H locs ls h1 h2 h3 h4 => lv_lookup hX.1 hX.2.1 hd hp ho ht (k H locs ls h1 h2 h3 h4)
def cpOk (sp dp n : Int32) (n0 n1 : Nat) : Bool := decide (0 ≤ sp.toInt ∧ 0 ≤ dp.toInt ∧ 0 ≤ n.toInt ∧ sp.toInt + n.toInt ≤ n0 ∧ dp.toInt + n.toInt ≤ n1)
theorem cl_nn {z : Int32} (h : 0 ≤ z.toInt) : z.toInt = (z.toNatClampNeg : Int) ∧ ¬ z < 0 := by
  refine ⟨?_, fun h2 => ?_⟩
  · show z.toInt = ((z.toInt.toNat : Nat) : Int)
    omega
  · have := Int32.lt_iff_toInt_lt.mp h2
    rw [Int32.toInt_zero] at this
    omega
def CA (o : String) (idx : Nat) : Prop := Cond.methodLink o idx arraycopyName ∈ tw ∧ Cond.native arraycopyName ∈ tw ∧ Cond.static arraycopyName ∈ tw ∧ Cond.initialized "java/lang/System" ∈ tw
theorem cat_map (w : Wc) (st : List Value) : (st.map (tv w)).map (fun v => v.category) = st.map (fun v => v.category) := by
  rw [List.map_map]
  exact List.map_congr_left (fun v _ => tv_cat w v)
theorem G_copyI (hX : OKc w X o cc d) {idx a b n0 n1 : Nat} {sp dp n : Int32} {ρ : Type} {A : Um → Option ρ} {r : ρ} (hl : CA o idx) (hk0 : kd a = 9) (hn0 : ln a = n0) (hx0 : a < Z.2.2.2.1) (hk1 : kd b = 9) (hn1 : ln b = n1) (hx1 : b < Z.2.2.2.1) (hz : Z.2.2.2.2 = false) (hdd : 1 ≤ d) (hr : (st.map (fun v => v.category)).sum ≤ 8) (hd : decode cc pc = .ok (.invokestatic idx, 3)) (hf : (if cpOk sp dp n n0 n1 = true then nm (sIr u b (va_cpy (u.1 a) (u.1 b) sp.toNatClampNeg dp.toNatClampNeg n.toNatClampNeg)) A else none) = some r) (k : ∀ u', A u' = some r → G w X Z (pc + 3) lv st u') : G w X Z pc lv (.int n :: .int dp :: .ref b :: .int sp :: .ref a :: st) u := by
  intro H locs ls h1 h2 h3 h4
  by_cases hb : cpOk sp dp n n0 n1 = true
  · rw [if_pos hb] at hf
    have hc : 0 ≤ sp.toInt ∧ 0 ≤ dp.toInt ∧ 0 ≤ n.toInt ∧ sp.toInt + n.toInt ≤ n0 ∧ dp.toInt + n.toInt ≤ n1 := by simpa [cpOk] using hb
    obtain ⟨c1, c2, c3, c4, c5⟩ := hc
    obtain ⟨e1, e1'⟩ := cl_nn c1
    obtain ⟨e2, e2'⟩ := cl_nn c2
    obtain ⟨e3, e3'⟩ := cl_nn c3
    have m1 := hX.2.2.2.2.2.2.2.1
    have m2 := hX.2.2.2.2.2.2.2.2
    simp only [List.map_cons, tv_a w (kd_lt hk0 (by decide)), tv_a w (kd_lt hk1 (by decide))]
    refine va_copyi (rest := st.map (tv w)) hX.1 hX.2.1 h4.1.symm hX.2.2.1 (hX.2.2.2.1 _ hl.1) (hX.2.2.2.1 _ hl.2.1) (hX.2.2.2.1 _ hl.2.2.1) (hX.2.2.2.1 _ hl.2.2.2) hX.2.2.2.2.1 h2 wld_D h3 a b 0 0 (gt_a hx0 (enc_I hk0 hn0)) (gt_a hx1 (enc_I hk1 hn1)) rfl rfl rfl e1' e2' e3' (by omega) (by omega) (fun _ _ => rfl) (by omega) ?_ hd (fun H1 locs1 g1 g2 g3 => ?_)
    · rw [cat_map]
      show _ + ((5 + 2) + 11) ≤ _
      omega
    · rw [wld_I _ hk1 hn1] at g1
      exact k _ hf H1 locs1 ls (fun h => by rw [hz] at h; cases h) g1 g3 h4
  · rw [if_neg hb] at hf; cases hf
theorem G_copyJ (hX : OKc w X o cc d) {idx a b n0 n1 : Nat} {sp dp n : Int32} {ρ : Type} {A : Um → Option ρ} {r : ρ} (hl : CA o idx) (hk0 : kd a = 10) (hn0 : ln a = n0) (hx0 : a < Z.2.2.2.1) (hk1 : kd b = 10) (hn1 : ln b = n1) (hx1 : b < Z.2.2.2.1) (hz : Z.2.2.2.2 = false) (hdd : 1 ≤ d) (hr : (st.map (fun v => v.category)).sum ≤ 8) (hd : decode cc pc = .ok (.invokestatic idx, 3)) (hf : (if cpOk sp dp n n0 n1 = true then nm (sJr u b (va_cpy (u.2 a) (u.2 b) sp.toNatClampNeg dp.toNatClampNeg n.toNatClampNeg)) A else none) = some r) (k : ∀ u', A u' = some r → G w X Z (pc + 3) lv st u') : G w X Z pc lv (.int n :: .int dp :: .ref b :: .int sp :: .ref a :: st) u := by
  intro H locs ls h1 h2 h3 h4
  by_cases hb : cpOk sp dp n n0 n1 = true
  · rw [if_pos hb] at hf
    have hc : 0 ≤ sp.toInt ∧ 0 ≤ dp.toInt ∧ 0 ≤ n.toInt ∧ sp.toInt + n.toInt ≤ n0 ∧ dp.toInt + n.toInt ≤ n1 := by simpa [cpOk] using hb
    obtain ⟨c1, c2, c3, c4, c5⟩ := hc
    obtain ⟨e1, e1'⟩ := cl_nn c1
    obtain ⟨e2, e2'⟩ := cl_nn c2
    obtain ⟨e3, e3'⟩ := cl_nn c3
    have m1 := hX.2.2.2.2.2.2.2.1
    have m2 := hX.2.2.2.2.2.2.2.2
    simp only [List.map_cons, tv_a w (kd_lt hk0 (by decide)), tv_a w (kd_lt hk1 (by decide))]
    refine va_copyl (rest := st.map (tv w)) hX.1 hX.2.1 h4.1.symm hX.2.2.1 (hX.2.2.2.1 _ hl.1) (hX.2.2.2.1 _ hl.2.1) (hX.2.2.2.1 _ hl.2.2.1) (hX.2.2.2.1 _ hl.2.2.2) hX.2.2.2.2.1 h2 wld_D h3 a b 1 1 (gt_a hx0 (enc_J hk0 hn0)) (gt_a hx1 (enc_J hk1 hn1)) rfl rfl rfl e1' e2' e3' (by omega) (by omega) (fun _ _ => rfl) (by omega) ?_ hd (fun H1 locs1 g1 g2 g3 => ?_)
    · rw [cat_map]
      show _ + ((5 + 2) + 11) ≤ _
      omega
    · rw [wld_J _ hk1 hn1] at g1
      exact k _ hf H1 locs1 ls (fun h => by rw [hz] at h; cases h) g1 g3 h4
  · rw [if_neg hb] at hf; cases hf
end GR
end

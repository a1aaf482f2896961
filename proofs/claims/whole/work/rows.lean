section
-- ===== PART A: goes FIRST, ahead of the names: the tables' words, and 'selects' of the private methods out of them =====
/-- a private method of a class that the tables say can be made, by its rows of tables_1 -/
def lw_okq (q : MethodName × Nat) : Prop := (q.1.cls ≠ "java/lang/invoke/MethodHandle" ∧ q.1.cls ≠ "java/lang/invoke/VarHandle") ∧ Cond.instantiable q.1.cls q.2 ∈ tables_1 ∧ Cond.privateMethod q.1 ∈ tables_1 ∧ Cond.instanceMethod q.1 ∈ tables_1
theorem lw_p0 : lw_okq (⟨"java/lang/Throwable", "fillInStackTrace", "(I)Ljava/lang/Throwable;"⟩, 6) := ⟨⟨by decide +kernel, by decide +kernel⟩, List.mem_of_getElem? (i := 151) (by decide +kernel), List.mem_of_getElem? (i := 149) (by decide +kernel), List.mem_of_getElem? (i := 150) (by decide +kernel)⟩
theorem lw_p1 : lw_okq (⟨"Bilinearium", "addCube", "(III)LBilinearium$Cube;"⟩, 9) := ⟨⟨by decide +kernel, by decide +kernel⟩, List.mem_of_getElem? (i := 17) (by decide +kernel), List.mem_of_getElem? (i := 204) (by decide +kernel), List.mem_of_getElem? (i := 205) (by decide +kernel)⟩
theorem lw_p2 : lw_okq (⟨"Bilinearium", "needCube", "(I)LBilinearium$Cube;"⟩, 9) := ⟨⟨by decide +kernel, by decide +kernel⟩, List.mem_of_getElem? (i := 17) (by decide +kernel), List.mem_of_getElem? (i := 287) (by decide +kernel), List.mem_of_getElem? (i := 288) (by decide +kernel)⟩
theorem lw_p3 : lw_okq (⟨"Bilinearium", "needWay", "(I)LBilinearium$Way;"⟩, 9) := ⟨⟨by decide +kernel, by decide +kernel⟩, List.mem_of_getElem? (i := 17) (by decide +kernel), List.mem_of_getElem? (i := 421) (by decide +kernel), List.mem_of_getElem? (i := 422) (by decide +kernel)⟩
theorem lw_p4 : lw_okq (⟨"Bilinearium", "needCode", "(II)V"⟩, 9) := ⟨⟨by decide +kernel, by decide +kernel⟩, List.mem_of_getElem? (i := 17) (by decide +kernel), List.mem_of_getElem? (i := 426) (by decide +kernel), List.mem_of_getElem? (i := 427) (by decide +kernel)⟩
theorem lw_p5 : lw_okq (⟨"Bilinearium$Way", "addVector", "(IIII)V"⟩, 4) := ⟨⟨by decide +kernel, by decide +kernel⟩, List.mem_of_getElem? (i := 387) (by decide +kernel), List.mem_of_getElem? (i := 488) (by decide +kernel), List.mem_of_getElem? (i := 489) (by decide +kernel)⟩
theorem lw_p6 : lw_okq (⟨"Bilinearium$Way", "enterCode", "(III)V"⟩, 4) := ⟨⟨by decide +kernel, by decide +kernel⟩, List.mem_of_getElem? (i := 387) (by decide +kernel), List.mem_of_getElem? (i := 499) (by decide +kernel), List.mem_of_getElem? (i := 500) (by decide +kernel)⟩
theorem lw_p7 : lw_okq (⟨"Bilinearium$Way", "takeOutZeros", "()Z"⟩, 4) := ⟨⟨by decide +kernel, by decide +kernel⟩, List.mem_of_getElem? (i := 387) (by decide +kernel), List.mem_of_getElem? (i := 514) (by decide +kernel), List.mem_of_getElem? (i := 515) (by decide +kernel)⟩
theorem lw_p8 : lw_okq (⟨"Bilinearium$Way", "hasZeros", "(I)Z"⟩, 4) := ⟨⟨by decide +kernel, by decide +kernel⟩, List.mem_of_getElem? (i := 387) (by decide +kernel), List.mem_of_getElem? (i := 518) (by decide +kernel), List.mem_of_getElem? (i := 519) (by decide +kernel)⟩
theorem lw_p9 : lw_okq (⟨"Bilinearium$Way", "takeOut", "(I)V"⟩, 4) := ⟨⟨by decide +kernel, by decide +kernel⟩, List.mem_of_getElem? (i := 387) (by decide +kernel), List.mem_of_getElem? (i := 522) (by decide +kernel), List.mem_of_getElem? (i := 523) (by decide +kernel)⟩
theorem lw_p10 : lw_okq (⟨"Bilinearium$Way", "joinProducts", "()Z"⟩, 4) := ⟨⟨by decide +kernel, by decide +kernel⟩, List.mem_of_getElem? (i := 387) (by decide +kernel), List.mem_of_getElem? (i := 526) (by decide +kernel), List.mem_of_getElem? (i := 527) (by decide +kernel)⟩
theorem lw_p11 : lw_okq (⟨"Bilinearium$Way", "sideToJoin", "(II)I"⟩, 4) := ⟨⟨by decide +kernel, by decide +kernel⟩, List.mem_of_getElem? (i := 387) (by decide +kernel), List.mem_of_getElem? (i := 530) (by decide +kernel), List.mem_of_getElem? (i := 531) (by decide +kernel)⟩
theorem lw_p12 : lw_okq (⟨"Bilinearium$Way", "isReducible", "(I)Z"⟩, 4) := ⟨⟨by decide +kernel, by decide +kernel⟩, List.mem_of_getElem? (i := 387) (by decide +kernel), List.mem_of_getElem? (i := 555) (by decide +kernel), List.mem_of_getElem? (i := 556) (by decide +kernel)⟩
theorem lw_p13 : lw_okq (⟨"Bilinearium$Flat", "take", "(LBilinearium$Cube;II)V"⟩, 3) := ⟨⟨by decide +kernel, by decide +kernel⟩, List.mem_of_getElem? (i := 29) (by decide +kernel), List.mem_of_getElem? (i := 578) (by decide +kernel), List.mem_of_getElem? (i := 579) (by decide +kernel)⟩
theorem lw_p14 : lw_okq (⟨"Bilinearium$Flat", "enter", "(III)V"⟩, 3) := ⟨⟨by decide +kernel, by decide +kernel⟩, List.mem_of_getElem? (i := 29) (by decide +kernel), List.mem_of_getElem? (i := 587) (by decide +kernel), List.mem_of_getElem? (i := 588) (by decide +kernel)⟩
theorem lw_p15 : lw_okq (⟨"Bilinearium$Flat", "rowWithNumber", "(II)I"⟩, 3) := ⟨⟨by decide +kernel, by decide +kernel⟩, List.mem_of_getElem? (i := 29) (by decide +kernel), List.mem_of_getElem? (i := 592) (by decide +kernel), List.mem_of_getElem? (i := 593) (by decide +kernel)⟩
def lw_privs_1 : List (MethodName × Nat) := [(⟨"java/lang/Throwable", "fillInStackTrace", "(I)Ljava/lang/Throwable;"⟩, 6), (⟨"Bilinearium", "addCube", "(III)LBilinearium$Cube;"⟩, 9), (⟨"Bilinearium", "needCube", "(I)LBilinearium$Cube;"⟩, 9), (⟨"Bilinearium", "needWay", "(I)LBilinearium$Way;"⟩, 9), (⟨"Bilinearium", "needCode", "(II)V"⟩, 9), (⟨"Bilinearium$Way", "addVector", "(IIII)V"⟩, 4), (⟨"Bilinearium$Way", "enterCode", "(III)V"⟩, 4), (⟨"Bilinearium$Way", "takeOutZeros", "()Z"⟩, 4), (⟨"Bilinearium$Way", "hasZeros", "(I)Z"⟩, 4), (⟨"Bilinearium$Way", "takeOut", "(I)V"⟩, 4), (⟨"Bilinearium$Way", "joinProducts", "()Z"⟩, 4), (⟨"Bilinearium$Way", "sideToJoin", "(II)I"⟩, 4), (⟨"Bilinearium$Way", "isReducible", "(I)Z"⟩, 4), (⟨"Bilinearium$Flat", "take", "(LBilinearium$Cube;II)V"⟩, 3), (⟨"Bilinearium$Flat", "enter", "(III)V"⟩, 3), (⟨"Bilinearium$Flat", "rowWithNumber", "(II)I"⟩, 3)]
theorem lw_r1 : ∀ q ∈ lw_privs_1, lw_okq q := List.forall_mem_cons.mpr ⟨lw_p0, List.forall_mem_cons.mpr ⟨lw_p1, List.forall_mem_cons.mpr ⟨lw_p2, List.forall_mem_cons.mpr ⟨lw_p3, List.forall_mem_cons.mpr ⟨lw_p4, List.forall_mem_cons.mpr ⟨lw_p5, List.forall_mem_cons.mpr ⟨lw_p6, List.forall_mem_cons.mpr ⟨lw_p7, List.forall_mem_cons.mpr ⟨lw_p8, List.forall_mem_cons.mpr ⟨lw_p9, List.forall_mem_cons.mpr ⟨lw_p10, List.forall_mem_cons.mpr ⟨lw_p11, List.forall_mem_cons.mpr ⟨lw_p12, List.forall_mem_cons.mpr ⟨lw_p13, List.forall_mem_cons.mpr ⟨lw_p14, List.forall_mem_cons.mpr ⟨lw_p15, fun _ h => absurd h List.not_mem_nil⟩⟩⟩⟩⟩⟩⟩⟩⟩⟩⟩⟩⟩⟩⟩⟩
theorem lw_p16 : lw_okq (⟨"Bilinearium$Flat", "number", "(II)I"⟩, 3) := ⟨⟨by decide +kernel, by decide +kernel⟩, List.mem_of_getElem? (i := 29) (by decide +kernel), List.mem_of_getElem? (i := 596) (by decide +kernel), List.mem_of_getElem? (i := 597) (by decide +kernel)⟩
theorem lw_p17 : lw_okq (⟨"Bilinearium$Flat", "swapRows", "(II)V"⟩, 3) := ⟨⟨by decide +kernel, by decide +kernel⟩, List.mem_of_getElem? (i := 29) (by decide +kernel), List.mem_of_getElem? (i := 601) (by decide +kernel), List.mem_of_getElem? (i := 602) (by decide +kernel)⟩
theorem lw_p18 : lw_okq (⟨"Bilinearium$Flat", "clearBelow", "(II)V"⟩, 3) := ⟨⟨by decide +kernel, by decide +kernel⟩, List.mem_of_getElem? (i := 29) (by decide +kernel), List.mem_of_getElem? (i := 605) (by decide +kernel), List.mem_of_getElem? (i := 606) (by decide +kernel)⟩
theorem lw_p19 : lw_okq (⟨"Bilinearium", "greatestRank", "(LBilinearium$Cube;)I"⟩, 9) := ⟨⟨by decide +kernel, by decide +kernel⟩, List.mem_of_getElem? (i := 17) (by decide +kernel), List.mem_of_getElem? (i := 617) (by decide +kernel), List.mem_of_getElem? (i := 618) (by decide +kernel)⟩
theorem lw_p20 : lw_okq (⟨"Bilinearium", "needSmall", "(LBilinearium$Cube;I)V"⟩, 9) := ⟨⟨by decide +kernel, by decide +kernel⟩, List.mem_of_getElem? (i := 17) (by decide +kernel), List.mem_of_getElem? (i := 631) (by decide +kernel), List.mem_of_getElem? (i := 632) (by decide +kernel)⟩
theorem lw_p21 : lw_okq (⟨"Bilinearium$Search", "gatherSingles", "(LBilinearium$Cube;)V"⟩, 3) := ⟨⟨by decide +kernel, by decide +kernel⟩, List.mem_of_getElem? (i := 46) (by decide +kernel), List.mem_of_getElem? (i := 640) (by decide +kernel), List.mem_of_getElem? (i := 641) (by decide +kernel)⟩
theorem lw_p22 : lw_okq (⟨"Bilinearium$Search", "addSingle", "(I)V"⟩, 3) := ⟨⟨by decide +kernel, by decide +kernel⟩, List.mem_of_getElem? (i := 46) (by decide +kernel), List.mem_of_getElem? (i := 652) (by decide +kernel), List.mem_of_getElem? (i := 653) (by decide +kernel)⟩
theorem lw_p23 : lw_okq (⟨"Bilinearium$Search", "isMade", "(III)Z"⟩, 3) := ⟨⟨by decide +kernel, by decide +kernel⟩, List.mem_of_getElem? (i := 46) (by decide +kernel), List.mem_of_getElem? (i := 664) (by decide +kernel), List.mem_of_getElem? (i := 665) (by decide +kernel)⟩
theorem lw_p24 : lw_okq (⟨"Bilinearium$Search", "isSingle", "(I)Z"⟩, 3) := ⟨⟨by decide +kernel, by decide +kernel⟩, List.mem_of_getElem? (i := 46) (by decide +kernel), List.mem_of_getElem? (i := 668) (by decide +kernel), List.mem_of_getElem? (i := 669) (by decide +kernel)⟩
theorem lw_p25 : lw_okq (⟨"Bilinearium$Way", "addEntries", "(I[I)V"⟩, 4) := ⟨⟨by decide +kernel, by decide +kernel⟩, List.mem_of_getElem? (i := 387) (by decide +kernel), List.mem_of_getElem? (i := 692) (by decide +kernel), List.mem_of_getElem? (i := 693) (by decide +kernel)⟩
theorem lw_p26 : lw_okq (⟨"Bilinearium$Way", "number", "(III)I"⟩, 4) := ⟨⟨by decide +kernel, by decide +kernel⟩, List.mem_of_getElem? (i := 387) (by decide +kernel), List.mem_of_getElem? (i := 696) (by decide +kernel), List.mem_of_getElem? (i := 697) (by decide +kernel)⟩
theorem lw_p27 : lw_okq (⟨"Bilinearium", "countAdditions", "(LBilinearium$Way;Z)I"⟩, 9) := ⟨⟨by decide +kernel, by decide +kernel⟩, List.mem_of_getElem? (i := 17) (by decide +kernel), List.mem_of_getElem? (i := 702) (by decide +kernel), List.mem_of_getElem? (i := 703) (by decide +kernel)⟩
theorem lw_p28 : lw_okq (⟨"Bilinearium$Way", "filledPlaces", "(II)J"⟩, 4) := ⟨⟨by decide +kernel, by decide +kernel⟩, List.mem_of_getElem? (i := 387) (by decide +kernel), List.mem_of_getElem? (i := 714) (by decide +kernel), List.mem_of_getElem? (i := 715) (by decide +kernel)⟩
theorem lw_p29 : lw_okq (⟨"Bilinearium$Way", "filledProducts", "(II)J"⟩, 4) := ⟨⟨by decide +kernel, by decide +kernel⟩, List.mem_of_getElem? (i := 387) (by decide +kernel), List.mem_of_getElem? (i := 723) (by decide +kernel), List.mem_of_getElem? (i := 724) (by decide +kernel)⟩
theorem lw_p30 : lw_okq (⟨"Bilinearium$Sums", "shareBestPair", "()Z"⟩, 2) := ⟨⟨by decide +kernel, by decide +kernel⟩, List.mem_of_getElem? (i := 63) (by decide +kernel), List.mem_of_getElem? (i := 731) (by decide +kernel), List.mem_of_getElem? (i := 732) (by decide +kernel)⟩
theorem lw_p31 : lw_okq (⟨"Bilinearium$Sums", "replace", "(II)V"⟩, 2) := ⟨⟨by decide +kernel, by decide +kernel⟩, List.mem_of_getElem? (i := 63) (by decide +kernel), List.mem_of_getElem? (i := 742) (by decide +kernel), List.mem_of_getElem? (i := 743) (by decide +kernel)⟩
def lw_privs_2 : List (MethodName × Nat) := [(⟨"Bilinearium$Flat", "number", "(II)I"⟩, 3), (⟨"Bilinearium$Flat", "swapRows", "(II)V"⟩, 3), (⟨"Bilinearium$Flat", "clearBelow", "(II)V"⟩, 3), (⟨"Bilinearium", "greatestRank", "(LBilinearium$Cube;)I"⟩, 9), (⟨"Bilinearium", "needSmall", "(LBilinearium$Cube;I)V"⟩, 9), (⟨"Bilinearium$Search", "gatherSingles", "(LBilinearium$Cube;)V"⟩, 3), (⟨"Bilinearium$Search", "addSingle", "(I)V"⟩, 3), (⟨"Bilinearium$Search", "isMade", "(III)Z"⟩, 3), (⟨"Bilinearium$Search", "isSingle", "(I)Z"⟩, 3), (⟨"Bilinearium$Way", "addEntries", "(I[I)V"⟩, 4), (⟨"Bilinearium$Way", "number", "(III)I"⟩, 4), (⟨"Bilinearium", "countAdditions", "(LBilinearium$Way;Z)I"⟩, 9), (⟨"Bilinearium$Way", "filledPlaces", "(II)J"⟩, 4), (⟨"Bilinearium$Way", "filledProducts", "(II)J"⟩, 4), (⟨"Bilinearium$Sums", "shareBestPair", "()Z"⟩, 2), (⟨"Bilinearium$Sums", "replace", "(II)V"⟩, 2)]
theorem lw_r2 : ∀ q ∈ lw_privs_2, lw_okq q := List.forall_mem_cons.mpr ⟨lw_p16, List.forall_mem_cons.mpr ⟨lw_p17, List.forall_mem_cons.mpr ⟨lw_p18, List.forall_mem_cons.mpr ⟨lw_p19, List.forall_mem_cons.mpr ⟨lw_p20, List.forall_mem_cons.mpr ⟨lw_p21, List.forall_mem_cons.mpr ⟨lw_p22, List.forall_mem_cons.mpr ⟨lw_p23, List.forall_mem_cons.mpr ⟨lw_p24, List.forall_mem_cons.mpr ⟨lw_p25, List.forall_mem_cons.mpr ⟨lw_p26, List.forall_mem_cons.mpr ⟨lw_p27, List.forall_mem_cons.mpr ⟨lw_p28, List.forall_mem_cons.mpr ⟨lw_p29, List.forall_mem_cons.mpr ⟨lw_p30, List.forall_mem_cons.mpr ⟨lw_p31, fun _ h => absurd h List.not_mem_nil⟩⟩⟩⟩⟩⟩⟩⟩⟩⟩⟩⟩⟩⟩⟩⟩
theorem lw_p32 : lw_okq (⟨"Bilinearium$Way", "growthAt", "(I)I"⟩, 4) := ⟨⟨by decide +kernel, by decide +kernel⟩, List.mem_of_getElem? (i := 387) (by decide +kernel), List.mem_of_getElem? (i := 756) (by decide +kernel), List.mem_of_getElem? (i := 757) (by decide +kernel)⟩
theorem lw_p33 : lw_okq (⟨"Bilinearium", "needFactors", "(LBilinearium$Way;III)V"⟩, 9) := ⟨⟨by decide +kernel, by decide +kernel⟩, List.mem_of_getElem? (i := 17) (by decide +kernel), List.mem_of_getElem? (i := 777) (by decide +kernel), List.mem_of_getElem? (i := 778) (by decide +kernel)⟩
theorem lw_p34 : lw_okq (⟨"BilineariumModel", "goesWell", "(I)Z"⟩, 19) := ⟨⟨by decide +kernel, by decide +kernel⟩, List.mem_of_getElem? (i := 814) (by decide +kernel), List.mem_of_getElem? (i := 887) (by decide +kernel), List.mem_of_getElem? (i := 888) (by decide +kernel)⟩
theorem lw_p35 : lw_okq (⟨"BilineariumModel", "canMake", "(III)Z"⟩, 19) := ⟨⟨by decide +kernel, by decide +kernel⟩, List.mem_of_getElem? (i := 814) (by decide +kernel), List.mem_of_getElem? (i := 895) (by decide +kernel), List.mem_of_getElem? (i := 896) (by decide +kernel)⟩
theorem lw_p36 : lw_okq (⟨"BilineariumModel", "make", "(III)I"⟩, 19) := ⟨⟨by decide +kernel, by decide +kernel⟩, List.mem_of_getElem? (i := 814) (by decide +kernel), List.mem_of_getElem? (i := 902) (by decide +kernel), List.mem_of_getElem? (i := 903) (by decide +kernel)⟩
theorem lw_p37 : lw_okq (⟨"BilineariumModel", "isPlace", "(IIII)Z"⟩, 19) := ⟨⟨by decide +kernel, by decide +kernel⟩, List.mem_of_getElem? (i := 814) (by decide +kernel), List.mem_of_getElem? (i := 925) (by decide +kernel), List.mem_of_getElem? (i := 926) (by decide +kernel)⟩
theorem lw_p38 : lw_okq (⟨"BilineariumModel", "isCube", "(I)Z"⟩, 19) := ⟨⟨by decide +kernel, by decide +kernel⟩, List.mem_of_getElem? (i := 814) (by decide +kernel), List.mem_of_getElem? (i := 929) (by decide +kernel), List.mem_of_getElem? (i := 930) (by decide +kernel)⟩
theorem lw_p39 : lw_okq (⟨"BilineariumModel", "isWay", "(I)Z"⟩, 19) := ⟨⟨by decide +kernel, by decide +kernel⟩, List.mem_of_getElem? (i := 814) (by decide +kernel), List.mem_of_getElem? (i := 959) (by decide +kernel), List.mem_of_getElem? (i := 960) (by decide +kernel)⟩
theorem lw_p40 : lw_okq (⟨"BilineariumModel", "isCode", "(III)Z"⟩, 19) := ⟨⟨by decide +kernel, by decide +kernel⟩, List.mem_of_getElem? (i := 814) (by decide +kernel), List.mem_of_getElem? (i := 963) (by decide +kernel), List.mem_of_getElem? (i := 964) (by decide +kernel)⟩
theorem lw_p41 : lw_okq (⟨"BilineariumModel", "codes", "(II)I"⟩, 19) := ⟨⟨by decide +kernel, by decide +kernel⟩, List.mem_of_getElem? (i := 814) (by decide +kernel), List.mem_of_getElem? (i := 967) (by decide +kernel), List.mem_of_getElem? (i := 968) (by decide +kernel)⟩
theorem lw_p42 : lw_okq (⟨"BilineariumModel", "decode", "(IIII)V"⟩, 19) := ⟨⟨by decide +kernel, by decide +kernel⟩, List.mem_of_getElem? (i := 814) (by decide +kernel), List.mem_of_getElem? (i := 971) (by decide +kernel), List.mem_of_getElem? (i := 972) (by decide +kernel)⟩
theorem lw_p43 : lw_okq (⟨"BilineariumModel", "isProduct", "(II)Z"⟩, 19) := ⟨⟨by decide +kernel, by decide +kernel⟩, List.mem_of_getElem? (i := 814) (by decide +kernel), List.mem_of_getElem? (i := 986) (by decide +kernel), List.mem_of_getElem? (i := 987) (by decide +kernel)⟩
theorem lw_p44 : lw_okq (⟨"BilineariumModel", "areAlike", "(IIII)Z"⟩, 19) := ⟨⟨by decide +kernel, by decide +kernel⟩, List.mem_of_getElem? (i := 814) (by decide +kernel), List.mem_of_getElem? (i := 990) (by decide +kernel), List.mem_of_getElem? (i := 991) (by decide +kernel)⟩
theorem lw_p45 : lw_okq (⟨"BilineariumModel", "turn", "(IIII)V"⟩, 19) := ⟨⟨by decide +kernel, by decide +kernel⟩, List.mem_of_getElem? (i := 814) (by decide +kernel), List.mem_of_getElem? (i := 994) (by decide +kernel), List.mem_of_getElem? (i := 995) (by decide +kernel)⟩
theorem lw_p46 : lw_okq (⟨"BilineariumModel", "add", "(IIIII)V"⟩, 19) := ⟨⟨by decide +kernel, by decide +kernel⟩, List.mem_of_getElem? (i := 814) (by decide +kernel), List.mem_of_getElem? (i := 998) (by decide +kernel), List.mem_of_getElem? (i := 999) (by decide +kernel)⟩
theorem lw_p47 : lw_okq (⟨"BilineariumModel", "reduceAll", "(I)I"⟩, 19) := ⟨⟨by decide +kernel, by decide +kernel⟩, List.mem_of_getElem? (i := 814) (by decide +kernel), List.mem_of_getElem? (i := 1006) (by decide +kernel), List.mem_of_getElem? (i := 1007) (by decide +kernel)⟩
def lw_privs_3 : List (MethodName × Nat) := [(⟨"Bilinearium$Way", "growthAt", "(I)I"⟩, 4), (⟨"Bilinearium", "needFactors", "(LBilinearium$Way;III)V"⟩, 9), (⟨"BilineariumModel", "goesWell", "(I)Z"⟩, 19), (⟨"BilineariumModel", "canMake", "(III)Z"⟩, 19), (⟨"BilineariumModel", "make", "(III)I"⟩, 19), (⟨"BilineariumModel", "isPlace", "(IIII)Z"⟩, 19), (⟨"BilineariumModel", "isCube", "(I)Z"⟩, 19), (⟨"BilineariumModel", "isWay", "(I)Z"⟩, 19), (⟨"BilineariumModel", "isCode", "(III)Z"⟩, 19), (⟨"BilineariumModel", "codes", "(II)I"⟩, 19), (⟨"BilineariumModel", "decode", "(IIII)V"⟩, 19), (⟨"BilineariumModel", "isProduct", "(II)Z"⟩, 19), (⟨"BilineariumModel", "areAlike", "(IIII)Z"⟩, 19), (⟨"BilineariumModel", "turn", "(IIII)V"⟩, 19), (⟨"BilineariumModel", "add", "(IIIII)V"⟩, 19), (⟨"BilineariumModel", "reduceAll", "(I)I"⟩, 19)]
theorem lw_r3 : ∀ q ∈ lw_privs_3, lw_okq q := List.forall_mem_cons.mpr ⟨lw_p32, List.forall_mem_cons.mpr ⟨lw_p33, List.forall_mem_cons.mpr ⟨lw_p34, List.forall_mem_cons.mpr ⟨lw_p35, List.forall_mem_cons.mpr ⟨lw_p36, List.forall_mem_cons.mpr ⟨lw_p37, List.forall_mem_cons.mpr ⟨lw_p38, List.forall_mem_cons.mpr ⟨lw_p39, List.forall_mem_cons.mpr ⟨lw_p40, List.forall_mem_cons.mpr ⟨lw_p41, List.forall_mem_cons.mpr ⟨lw_p42, List.forall_mem_cons.mpr ⟨lw_p43, List.forall_mem_cons.mpr ⟨lw_p44, List.forall_mem_cons.mpr ⟨lw_p45, List.forall_mem_cons.mpr ⟨lw_p46, List.forall_mem_cons.mpr ⟨lw_p47, fun _ h => absurd h List.not_mem_nil⟩⟩⟩⟩⟩⟩⟩⟩⟩⟩⟩⟩⟩⟩⟩⟩
theorem lw_p48 : lw_okq (⟨"BilineariumModel", "reducesOnce", "(I)Z"⟩, 19) := ⟨⟨by decide +kernel, by decide +kernel⟩, List.mem_of_getElem? (i := 814) (by decide +kernel), List.mem_of_getElem? (i := 1010) (by decide +kernel), List.mem_of_getElem? (i := 1011) (by decide +kernel)⟩
theorem lw_p49 : lw_okq (⟨"BilineariumModel", "isNothing", "(II)Z"⟩, 19) := ⟨⟨by decide +kernel, by decide +kernel⟩, List.mem_of_getElem? (i := 814) (by decide +kernel), List.mem_of_getElem? (i := 1014) (by decide +kernel), List.mem_of_getElem? (i := 1015) (by decide +kernel)⟩
theorem lw_p50 : lw_okq (⟨"BilineariumModel", "takeOut", "(II)V"⟩, 19) := ⟨⟨by decide +kernel, by decide +kernel⟩, List.mem_of_getElem? (i := 814) (by decide +kernel), List.mem_of_getElem? (i := 1018) (by decide +kernel), List.mem_of_getElem? (i := 1019) (by decide +kernel)⟩
theorem lw_p51 : lw_okq (⟨"BilineariumModel", "third", "(III)I"⟩, 19) := ⟨⟨by decide +kernel, by decide +kernel⟩, List.mem_of_getElem? (i := 814) (by decide +kernel), List.mem_of_getElem? (i := 1022) (by decide +kernel), List.mem_of_getElem? (i := 1023) (by decide +kernel)⟩
theorem lw_p52 : lw_okq (⟨"BilineariumModel", "flat", "(II)I"⟩, 19) := ⟨⟨by decide +kernel, by decide +kernel⟩, List.mem_of_getElem? (i := 814) (by decide +kernel), List.mem_of_getElem? (i := 1043) (by decide +kernel), List.mem_of_getElem? (i := 1044) (by decide +kernel)⟩
theorem lw_p53 : lw_okq (⟨"BilineariumModel", "rank", "(I)I"⟩, 19) := ⟨⟨by decide +kernel, by decide +kernel⟩, List.mem_of_getElem? (i := 814) (by decide +kernel), List.mem_of_getElem? (i := 1047) (by decide +kernel), List.mem_of_getElem? (i := 1048) (by decide +kernel)⟩
theorem lw_p54 : lw_okq (⟨"BilineariumModel", "inverse", "(I)I"⟩, 19) := ⟨⟨by decide +kernel, by decide +kernel⟩, List.mem_of_getElem? (i := 814) (by decide +kernel), List.mem_of_getElem? (i := 1051) (by decide +kernel), List.mem_of_getElem? (i := 1052) (by decide +kernel)⟩
theorem lw_p55 : lw_okq (⟨"BilineariumModel", "leastOf", "(II)I"⟩, 19) := ⟨⟨by decide +kernel, by decide +kernel⟩, List.mem_of_getElem? (i := 814) (by decide +kernel), List.mem_of_getElem? (i := 1063) (by decide +kernel), List.mem_of_getElem? (i := 1064) (by decide +kernel)⟩
theorem lw_p56 : lw_okq (⟨"BilineariumModel", "fewest", "(I)I"⟩, 19) := ⟨⟨by decide +kernel, by decide +kernel⟩, List.mem_of_getElem? (i := 814) (by decide +kernel), List.mem_of_getElem? (i := 1067) (by decide +kernel), List.mem_of_getElem? (i := 1068) (by decide +kernel)⟩
theorem lw_p57 : lw_okq (⟨"BilineariumModel", "single", "(IIII)I"⟩, 19) := ⟨⟨by decide +kernel, by decide +kernel⟩, List.mem_of_getElem? (i := 814) (by decide +kernel), List.mem_of_getElem? (i := 1071) (by decide +kernel), List.mem_of_getElem? (i := 1072) (by decide +kernel)⟩
theorem lw_p58 : lw_okq (⟨"BilineariumModel", "learn", "(II)V"⟩, 19) := ⟨⟨by decide +kernel, by decide +kernel⟩, List.mem_of_getElem? (i := 814) (by decide +kernel), List.mem_of_getElem? (i := 1075) (by decide +kernel), List.mem_of_getElem? (i := 1076) (by decide +kernel)⟩
theorem lw_p59 : lw_okq (⟨"BilineariumModel", "wrong", "(I)I"⟩, 19) := ⟨⟨by decide +kernel, by decide +kernel⟩, List.mem_of_getElem? (i := 814) (by decide +kernel), List.mem_of_getElem? (i := 1087) (by decide +kernel), List.mem_of_getElem? (i := 1088) (by decide +kernel)⟩
theorem lw_p60 : lw_okq (⟨"BilineariumModel", "made", "(II)I"⟩, 19) := ⟨⟨by decide +kernel, by decide +kernel⟩, List.mem_of_getElem? (i := 814) (by decide +kernel), List.mem_of_getElem? (i := 1091) (by decide +kernel), List.mem_of_getElem? (i := 1092) (by decide +kernel)⟩
theorem lw_p61 : lw_okq (⟨"BilineariumModel", "growth", "(I)I"⟩, 19) := ⟨⟨by decide +kernel, by decide +kernel⟩, List.mem_of_getElem? (i := 814) (by decide +kernel), List.mem_of_getElem? (i := 1095) (by decide +kernel), List.mem_of_getElem? (i := 1096) (by decide +kernel)⟩
theorem lw_p62 : lw_okq (⟨"BilineariumModel", "numbers", "(III)I"⟩, 19) := ⟨⟨by decide +kernel, by decide +kernel⟩, List.mem_of_getElem? (i := 814) (by decide +kernel), List.mem_of_getElem? (i := 1099) (by decide +kernel), List.mem_of_getElem? (i := 1100) (by decide +kernel)⟩
theorem lw_p63 : lw_okq (⟨"BilineariumModel", "additions", "(IZ)I"⟩, 19) := ⟨⟨by decide +kernel, by decide +kernel⟩, List.mem_of_getElem? (i := 814) (by decide +kernel), List.mem_of_getElem? (i := 1103) (by decide +kernel), List.mem_of_getElem? (i := 1104) (by decide +kernel)⟩
def lw_privs_4 : List (MethodName × Nat) := [(⟨"BilineariumModel", "reducesOnce", "(I)Z"⟩, 19), (⟨"BilineariumModel", "isNothing", "(II)Z"⟩, 19), (⟨"BilineariumModel", "takeOut", "(II)V"⟩, 19), (⟨"BilineariumModel", "third", "(III)I"⟩, 19), (⟨"BilineariumModel", "flat", "(II)I"⟩, 19), (⟨"BilineariumModel", "rank", "(I)I"⟩, 19), (⟨"BilineariumModel", "inverse", "(I)I"⟩, 19), (⟨"BilineariumModel", "leastOf", "(II)I"⟩, 19), (⟨"BilineariumModel", "fewest", "(I)I"⟩, 19), (⟨"BilineariumModel", "single", "(IIII)I"⟩, 19), (⟨"BilineariumModel", "learn", "(II)V"⟩, 19), (⟨"BilineariumModel", "wrong", "(I)I"⟩, 19), (⟨"BilineariumModel", "made", "(II)I"⟩, 19), (⟨"BilineariumModel", "growth", "(I)I"⟩, 19), (⟨"BilineariumModel", "numbers", "(III)I"⟩, 19), (⟨"BilineariumModel", "additions", "(IZ)I"⟩, 19)]
theorem lw_r4 : ∀ q ∈ lw_privs_4, lw_okq q := List.forall_mem_cons.mpr ⟨lw_p48, List.forall_mem_cons.mpr ⟨lw_p49, List.forall_mem_cons.mpr ⟨lw_p50, List.forall_mem_cons.mpr ⟨lw_p51, List.forall_mem_cons.mpr ⟨lw_p52, List.forall_mem_cons.mpr ⟨lw_p53, List.forall_mem_cons.mpr ⟨lw_p54, List.forall_mem_cons.mpr ⟨lw_p55, List.forall_mem_cons.mpr ⟨lw_p56, List.forall_mem_cons.mpr ⟨lw_p57, List.forall_mem_cons.mpr ⟨lw_p58, List.forall_mem_cons.mpr ⟨lw_p59, List.forall_mem_cons.mpr ⟨lw_p60, List.forall_mem_cons.mpr ⟨lw_p61, List.forall_mem_cons.mpr ⟨lw_p62, List.forall_mem_cons.mpr ⟨lw_p63, fun _ h => absurd h List.not_mem_nil⟩⟩⟩⟩⟩⟩⟩⟩⟩⟩⟩⟩⟩⟩⟩⟩
theorem lw_p64 : lw_okq (⟨"BilineariumModel", "laySets", "(II)V"⟩, 19) := ⟨⟨by decide +kernel, by decide +kernel⟩, List.mem_of_getElem? (i := 814) (by decide +kernel), List.mem_of_getElem? (i := 1107) (by decide +kernel), List.mem_of_getElem? (i := 1108) (by decide +kernel)⟩
theorem lw_p65 : lw_okq (⟨"BilineariumModel", "shares", "()Z"⟩, 19) := ⟨⟨by decide +kernel, by decide +kernel⟩, List.mem_of_getElem? (i := 814) (by decide +kernel), List.mem_of_getElem? (i := 1111) (by decide +kernel), List.mem_of_getElem? (i := 1112) (by decide +kernel)⟩
theorem lw_p66 : lw_okq (⟨"BilineariumModel", "common", "(II)I"⟩, 19) := ⟨⟨by decide +kernel, by decide +kernel⟩, List.mem_of_getElem? (i := 814) (by decide +kernel), List.mem_of_getElem? (i := 1115) (by decide +kernel), List.mem_of_getElem? (i := 1116) (by decide +kernel)⟩
theorem lw_p67 : lw_okq (⟨"BilineariumModel", "additionsOf", "()I"⟩, 19) := ⟨⟨by decide +kernel, by decide +kernel⟩, List.mem_of_getElem? (i := 814) (by decide +kernel), List.mem_of_getElem? (i := 1119) (by decide +kernel), List.mem_of_getElem? (i := 1120) (by decide +kernel)⟩
theorem lw_p68 : lw_okq (⟨"BilineariumModel", "canAsk", "(IIII)Z"⟩, 19) := ⟨⟨by decide +kernel, by decide +kernel⟩, List.mem_of_getElem? (i := 814) (by decide +kernel), List.mem_of_getElem? (i := 1131) (by decide +kernel), List.mem_of_getElem? (i := 1132) (by decide +kernel)⟩
theorem lw_p69 : lw_okq (⟨"BilineariumModel", "times", "(IIII)I"⟩, 19) := ⟨⟨by decide +kernel, by decide +kernel⟩, List.mem_of_getElem? (i := 814) (by decide +kernel), List.mem_of_getElem? (i := 1135) (by decide +kernel), List.mem_of_getElem? (i := 1136) (by decide +kernel)⟩
theorem lw_p70 : lw_okq (⟨"BilineariumModel", "digit", "(IIII)I"⟩, 19) := ⟨⟨by decide +kernel, by decide +kernel⟩, List.mem_of_getElem? (i := 814) (by decide +kernel), List.mem_of_getElem? (i := 1139) (by decide +kernel), List.mem_of_getElem? (i := 1140) (by decide +kernel)⟩
def lw_privs_5 : List (MethodName × Nat) := [(⟨"BilineariumModel", "laySets", "(II)V"⟩, 19), (⟨"BilineariumModel", "shares", "()Z"⟩, 19), (⟨"BilineariumModel", "common", "(II)I"⟩, 19), (⟨"BilineariumModel", "additionsOf", "()I"⟩, 19), (⟨"BilineariumModel", "canAsk", "(IIII)Z"⟩, 19), (⟨"BilineariumModel", "times", "(IIII)I"⟩, 19), (⟨"BilineariumModel", "digit", "(IIII)I"⟩, 19)]
theorem lw_r5 : ∀ q ∈ lw_privs_5, lw_okq q := List.forall_mem_cons.mpr ⟨lw_p64, List.forall_mem_cons.mpr ⟨lw_p65, List.forall_mem_cons.mpr ⟨lw_p66, List.forall_mem_cons.mpr ⟨lw_p67, List.forall_mem_cons.mpr ⟨lw_p68, List.forall_mem_cons.mpr ⟨lw_p69, List.forall_mem_cons.mpr ⟨lw_p70, fun _ h => absurd h List.not_mem_nil⟩⟩⟩⟩⟩⟩⟩
def lw_privs : List (MethodName × Nat) := lw_privs_1 ++ (lw_privs_2 ++ (lw_privs_3 ++ (lw_privs_4 ++ (lw_privs_5))))
def lw_tbl : List Cond := k2_sels lw_privs ++ tables_1
theorem lw_privs_ok : ∀ q ∈ lw_privs, lw_okq q := by
  show ∀ q ∈ lw_privs_1 ++ (lw_privs_2 ++ (lw_privs_3 ++ (lw_privs_4 ++ (lw_privs_5)))), lw_okq q
  exact List.forall_mem_append.mpr ⟨lw_r1, List.forall_mem_append.mpr ⟨lw_r2, List.forall_mem_append.mpr ⟨lw_r3, List.forall_mem_append.mpr ⟨lw_r4, lw_r5⟩⟩⟩⟩
/-! ===== BEGIN words of one list among another's, by their places ===== -/
theorem goodIn_r {big : List Cond} (ws : List Cond) (ps : List Nat) (hp : ws = ps.filterMap (fun i => big[i]?)) (h : ws.all goodWord = true) : GoodIn big ws := by
  intro w hw
  have h1 := List.all_eq_true.mp h w hw
  rw [hp] at hw
  obtain ⟨i, -, hi⟩ := List.mem_filterMap.mp hw
  have hm : w ∈ big := by first | exact List.mem_of_getElem? hi | exact List.getElem?_mem hi
  exact ⟨hm, good_of_word h1⟩
theorem goodIn_app {big a b : List Cond} (ha : GoodIn big a) (hb : GoodIn big b) : GoodIn big (a ++ b) := fun w h => (List.mem_append.mp h).elim (ha w) (hb w)
theorem goodIn_ca {big a b : List Cond} {c : Cond} (ha : GoodIn big (c :: a)) (hb : GoodIn big b) : GoodIn big (c :: (a ++ b)) := fun w h => (List.mem_cons.mp h).elim (fun e => ha w (List.mem_cons.mpr (Or.inl e))) (fun h => (List.mem_append.mp h).elim (fun h => ha w (List.mem_cons.mpr (Or.inr h))) (hb w))
theorem goodIn_sub {big ws : List Cond} (hm : ∀ w ∈ ws, w ∈ big) (h : ws.all goodWord = true) : GoodIn big ws := fun w hw => ⟨hm w hw, good_of_word (List.all_eq_true.mp h w hw)⟩
/-! ===== END ===== -/

/-! ===== BEGIN exceptions that leave a method, and their catching by the caller (launches without stack traces) ===== -/
section VXA
/-! The laws vx_back, vx_callV, vx_callS, vx_callSW, vx_throw0, vx_throwS follow proofs of the library, with one case more: JvmDerived/Free/Laws.lean (Back.of_free), Shelf42/LK1.lean (callV, callS), Shelf/KitTraced.lean (throwNew0V, throwNewS). -/
/-- where a method has thrown q: the class by its name, the cell, what was written, the world -/
def vx_T (XC : String → State → State → Prop) (st : State) (q : Addr) (t : State) (mc ms : Nat) (free : Addr → Prop) : Prop :=
  ∃ (E : String) (ce : Cell) (L : List Loc), XC E st t ∧ t.heap[q]? = some ce ∧ ce.vm = .none ∧ st.vm.findClass E = some ce.cls ∧ st.WarmedH t.vm ∧ st.sameButNew ({ t with vm := st.vm } : State) L mc ms ∧ ∀ z ∈ L, free z.base
def vx_Q (Qc : Array Value → State → Outcome → State → Prop) (XC : String → State → State → Prop) (mc ms : Nat) (free : Addr → Prop) : Array Value → State → Outcome → State → Prop := fun a st o t =>
  (Qc a st o t ∧ ∃ L, FrameEnd st o t L mc ms ∧ ∀ q ∈ L, free q.base) ∨ ∃ q, o = .threw q ∧ vx_T XC st q t mc ms free
/-- a callee that returns or throws -/
def vx_Met (l : Launch) (y : MethodName) (ws : List Cond) (rm : Room) (Pc : Array Value → State → Prop) (Qc : Array Value → State → Outcome → State → Prop) (XC : String → State → State → Prop) (mc ms : Nat) (free : Addr → Prop) : Prop :=
  MetFree l y (headSpec ws rm) Pc (fun _ _ _ _ _ => True) (vx_Q Qc XC mc ms free)
def vx_Post (XC : String → State → State → Prop) (mc ms : Nat) (free : Addr → Prop) : Pt → Array Value → Addr → Pt → Prop := fun A a q B =>
  ∃ (g : JFrame) (mk : MethodId) (t : State) (L : List Loc) (E : String) (ce : Cell), B.U.heap = t.heap ∧ B.U.vm = t.vm ∧ XC E (A.U.calling g mk a) t ∧ t.heap[q]? = some ce ∧ ce.vm = .none ∧ A.U.vm.findClass E = some ce.cls ∧ B.locs = A.locs ++ L ∧ (∀ z ∈ L, free z.base) ∧ B.cells = A.cells + mc ∧ B.slots = A.slots + ms
def vx_Back (l : Launch) (R : Room) (p : Program) (e : Env) (below : List Frame) (s : State) (sargs : Array Value) (y : MethodName) (len W9 : Nat)
    (Pre : Pt → Array Value → Prop) (Post : Pt → Array Value → Option Value → Pt → Prop) (PostX : Pt → Array Value → Addr → Pt → Prop) : Prop :=
  ∀ (m : MethodId) (meth : Method) (c : Code) (A : Pt) (g : JFrame) (ig : Instr) (mk : MethodId) (a : Array Value),
    Stand p l e R s m sargs below meth c A.U A.locs A.cells A.slots → g.method = m → g.locals.size = c.maxLocals → decode c.code g.pc = .ok (ig, len) →
    2 * g.monitorRoom + (g.stack.map fun v => v.category).sum ≤ W9 → A.U.methodNamed? y = some mk → Pre A a →
    (∃ (v : Option Value) (B : Pt), Stand p l e R s m sargs below meth c B.U B.locs B.cells B.slots ∧ Post A a v B ∧
      Steps p.tables e below (doInvoke e (A.U.setTop g) [] mk a).1 (B.U.setTop { g with pc := g.pc + len, stack := v.toList ++ g.stack })) ∨
    (∃ (q : Addr) (B : Pt), Stand p l e R s m sargs below meth c B.U B.locs B.cells B.slots ∧ PostX A a q B ∧
      Steps p.tables e below (doInvoke e (A.U.setTop g) [] mk a).1 ((B.U.setTop g).pushFrame (.throwing q)))
section Payer
variable {l : Launch} {R : Room} {p : Program} {e : Env} {below : List Frame} {s : State} {sargs : Array Value} {y : MethodName} {len W9 : Nat}
theorem vx_back {ws : List Cond} {rm : Room} {Pc : Array Value → State → Prop} {Qc : Array Value → State → Outcome → State → Prop} {XC : String → State → State → Prop} {mc ms : Nat} {free : Addr → Prop} {bytes : ByteArray} {maxL : Nat} {ret : Option FieldType}
    (hM : vx_Met l y ws rm Pc Qc XC mc ms free) (hblind : FrameBlind Pc) (hrc : rm.cells = mc) (hrs : rm.slots = ms)
    (hframes : rm.frames + 1 ≤ R.frames) (hlocals : W9 + (maxL + 11) + rm.locals ≤ R.locals)
    (hws : ∀ w ∈ ws, ∀ a' U, s.WarmedH U.vm → w.before a' U = true) (hcode : Cond.code y bytes maxL ret ∈ ws) (hinit : ∀ a' U, s.WarmedH U.vm → (Cond.initialized y.cls).before a' U = true) :
    vx_Back l R p e below s sargs y len W9 (PreOf R mc ms Pc) (PostOf Qc mc ms free) (vx_Post XC mc ms free) := by
  intro m meth c A g ig mk a X hg hsize hdg hW hn hp
  have h1 : (headSpec ws rm).pre.before a A.U = true := atoms_intro fun w hw => hws w hw _ _ X.warmed
  have h2 : (Cond.code y bytes maxL ret).before a A.U = true := hws _ hcode _ _ X.warmed
  have h3 : (Cond.initialized y.cls).before a A.U = true := hinit _ _ X.warmed
  have h4 : A.cells + (headSpec ws rm).room.cells ≤ R.cells := by rw [show (headSpec ws rm).room.cells = mc from hrc]; exact hp.1
  have h5 : A.slots + (headSpec ws rm).room.slots ≤ R.slots := by rw [show (headSpec ws rm).room.slots = ms from hrs]; exact hp.2.1
  have hPc : Pc a (A.U.calling g mk a) := hblind _ _ _ _ hp.2.2
  obtain ⟨U, Ls, c0, s0⟩ := A
  dsimp only [Pt.U, Pt.locs, Pt.cells, Pt.slots] at h1 h2 h3 h4 h5 X hn hPc ⊢
  obtain ⟨methY, cY, hmY, hcY, -, hlY, -, -, -, -⟩ := Cond.code_spec hn h2
  obtain ⟨kY, hkY, -⟩ := className_of_methodNamed hn
  have hinitY : kY.init = .initialized := Cond.initialized_spec (findClass_of_methodNamed hn) hkY h3
  have h : At U g.method c below := by rw [hg]; exact X.here
  have hlocals9 : W9 + (maxL + 11) + (headSpec ws rm).room.locals ≤ R.locals := hlocals
  have happ : (headSpec ws rm).appliesLoose y e.platform (U.calling g mk a) = true :=
    Spec.appliesLoose_calling (g := g) h hdg hn hkY hinitY
      (X.room_calling (g := g) (R' := (headSpec ws rm).room) hsize hmY hcY hframes (by rw [hlY]; omega) h4 h5) h1
  obtain ⟨mid, hmid⟩ := h.above
  have hfr : (U.setTop g).frames = (.java g :: mid) ++ below := by rw [State.frames_setTop' g h.top, hmid]; rfl
  obtain ⟨o, s₂, hsteps, -, hend, hq⟩ := Steps.callFree hM p X.admits X.cas X.clock (acts := []) hfr happ hPc trivial
  have hq' : vx_Q Qc XC mc ms free a (U.calling g mk a) o s₂ := hq
  rw [State.frames_setTop' g h.top] at hend
  obtain ⟨g₀, hg0⟩ := Option.isSome_iff_exists.mp h.top
  obtain ⟨r, hr⟩ := State.topJava?_eq_some.mp hg0
  have hr' : (({ U with heap := s₂.heap, slotsUsed := s₂.slotsUsed } : State).setVm s₂.vm).frames = .java g₀ :: r := hr
  rcases hq' with ⟨hqc, L, hfe, hL⟩ | ⟨q, rfl, E, ce, L, hx, hce, hcv, hcl, hW₂, hsm, hL⟩
  · obtain ⟨⟨v, rfl⟩, hW₂, e2, q2, q3, q4, q5, q6⟩ := id hfe
    have e3 : s₂ = ({ (U.calling g mk a).setFrames s₂.frames with heap := s₂.heap, slotsUsed := s₂.slotsUsed } : State).setVm s₂.vm := by
      have : s₂ = ({ s₂ with vm := (U.calling g mk a).vm } : State).setVm s₂.vm := rfl
      rw [e2] at this
      exact this
    obtain ⟨c₂, i₂, len₂, hc₂, hd₂, hf₂⟩ := hend
    have hW' : U.WarmedH s₂.vm := hW₂
    have hcc : c₂ = c := by
      have h1 : s₂.code? g.method = U.code? g.method := by
        rw [State.code?_eq, State.code?_eq, hW'.alike.method?]
      exact Option.some.inj (hc₂.symm.trans (h1.trans h.code))
    subst hcc
    have hlen : len₂ = len := by rw [hdg] at hd₂; cases hd₂; rfl
    subst hlen
    have hs₂ : s₂ = (({ U with heap := s₂.heap, slotsUsed := s₂.slotsUsed } : State).setVm s₂.vm).setTop { g with pc := g.pc + len₂, stack := v.toList ++ g.stack } := by
      refine e3.trans ?_
      rw [hf₂, State.calling_eq h.top, State.setFrames_setFrames, State.setTop_of_frames _ hr', hr]
      rfl
    have hsame : U.sameButNew ({ U with heap := s₂.heap, slotsUsed := s₂.slotsUsed } : State) L mc ms := by
      refine ⟨?_, q2, q3, q4, q5, q6⟩
      obtain ⟨t, ht, -⟩ := State.frames_cons hr
      show ({ U with heap := s₂.heap, slotsUsed := s₂.slotsUsed } : State) = { U.setFrames U.frames with heap := s₂.heap, slotsUsed := s₂.slotsUsed }
      rw [State.setFrames_self ht]
    subst hg
    refine Or.inl ⟨v, ⟨(({ U with heap := s₂.heap, slotsUsed := s₂.slotsUsed } : State).setVm s₂.vm), Ls ++ L, c0 + mc, s0 + ms⟩,
      ⟨X.admits, X.cas, X.clock, X.frames, X.room, X.hears, X.method, X.code, (X.here.setHeapUsed s₂.heap s₂.slotsUsed).setVm hW'.alike, X.tail, State.WarmedH.trans X.warmed hW', X.limits, X.bytes, X.same.trans (hsame.setVm s.vm)⟩,
      ⟨g, mk, s₂, L, rfl, rfl, hqc, rfl, hL, rfl, rfl⟩, ?_⟩
    show Steps p.tables e below _ ((({ U with heap := s₂.heap, slotsUsed := s₂.slotsUsed } : State).setVm s₂.vm).setTop { g with pc := g.pc + len₂, stack := v.toList ++ g.stack })
    rw [← hs₂]
    exact hsteps
  · obtain ⟨e2, q2, q3, q4, q5, q6⟩ := id hsm
    have e3 : s₂ = ({ (U.calling g mk a).setFrames s₂.frames with heap := s₂.heap, slotsUsed := s₂.slotsUsed } : State).setVm s₂.vm := by
      have : s₂ = ({ s₂ with vm := (U.calling g mk a).vm } : State).setVm s₂.vm := rfl
      rw [e2] at this
      exact this
    have hf₂ : s₂.frames = .throwing q :: .java g :: U.frames.tail := hend
    have hW' : U.WarmedH s₂.vm := hW₂
    have hs₂ : s₂ = ((({ U with heap := s₂.heap, slotsUsed := s₂.slotsUsed } : State).setVm s₂.vm).setTop g).pushFrame (.throwing q) := by
      refine e3.trans ?_
      rw [hf₂, State.calling_eq h.top, State.setFrames_setFrames, State.pushFrame, State.frames_setTop _ hr', State.setTop_of_frames _ hr', State.setFrames_setFrames, hr]
      rfl
    have hsame : U.sameButNew ({ U with heap := s₂.heap, slotsUsed := s₂.slotsUsed } : State) L mc ms := by
      refine ⟨?_, q2, q3, q4, q5, q6⟩
      obtain ⟨t, ht, -⟩ := State.frames_cons hr
      show ({ U with heap := s₂.heap, slotsUsed := s₂.slotsUsed } : State) = { U.setFrames U.frames with heap := s₂.heap, slotsUsed := s₂.slotsUsed }
      rw [State.setFrames_self ht]
    subst hg
    refine Or.inr ⟨q, ⟨(({ U with heap := s₂.heap, slotsUsed := s₂.slotsUsed } : State).setVm s₂.vm), Ls ++ L, c0 + mc, s0 + ms⟩,
      ⟨X.admits, X.cas, X.clock, X.frames, X.room, X.hears, X.method, X.code, (X.here.setHeapUsed s₂.heap s₂.slotsUsed).setVm hW'.alike, X.tail, State.WarmedH.trans X.warmed hW', X.limits, X.bytes, X.same.trans (hsame.setVm s.vm)⟩,
      ⟨g, mk, s₂, L, E, ce, rfl, rfl, hx, hce, hcv, hcl, rfl, hL, rfl, rfl⟩, ?_⟩
    show Steps p.tables e below _ (((({ U with heap := s₂.heap, slotsUsed := s₂.slotsUsed } : State).setVm s₂.vm).setTop g).pushFrame (.throwing q))
    rw [← hs₂]
    exact hsteps
end Payer
section Calls
variable {p : Program} {l : Launch} {e : Env} {R : Room} {s : State} {m : MethodId} {args : Array Value} {below : List Frame} {meth : Method} {c : Code} {T : State} {locs : List Loc} {cells slots : Nat}
theorem vx_callV (X : Stand p l e R s m args below meth c T locs cells slots) (hexec : p.tables.exec = Jvm.exec) {own C : String} {index : Nat} {y : MethodName} {bytes : ByteArray} {maxL : Nat} {ret : Option FieldType}
    (hown : s.vm.findClass own = some m.cls) (hlink : (Cond.methodLink own index y).before args s = true) (hinst : (Cond.instanceMethod y).before args s = true) (hsel : (Cond.selects C y y).before args s = true)
    (hcode : (Cond.code y bytes maxL ret).before args s = true) (hy : y.cls ≠ "java/lang/invoke/MethodHandle" ∧ y.cls ≠ "java/lang/invoke/VarHandle")
    {W9 : Nat} {Pre : Pt → Array Value → Prop} {Post : Pt → Array Value → Option Value → Pt → Prop} {PostX : Pt → Array Value → Addr → Pt → Prop} (hK : vx_Back l R p e below s args y 3 W9 Pre Post PostX)
    {b : Addr} {cellB : Cell} (hcell : T.heap[b]? = some cellB) (hobj : cellB.vm.isStatics = false) (hcls : s.vm.findClass C = some cellB.cls)
    {g : JFrame} (hg : g.method = m) (hsize : g.locals.size = c.maxLocals) {argsL rest : List Value} (hlen : ∀ sig, parseMethodDescriptor y.desc = some sig → argsL.length = sig.parameters.length)
    (hstack : g.stack = argsL.reverse ++ .ref b :: rest) (hW : 2 * g.monitorRoom + (rest.map fun v => v.category).sum ≤ W9) (hdg : decode c.code g.pc = .ok (.invokevirtual index, 3))
    (hpre : ∀ vm₁, s.WarmedH vm₁ → Pre ⟨T.setVm vm₁, locs, cells, slots⟩ (Value.ref b :: argsL).toArray) :
    (∃ (v : Option Value) (vm₁ : Vm) (B : Pt), s.WarmedH vm₁ ∧ Stand p l e R s m args below meth c B.U B.locs B.cells B.slots ∧ Post ⟨T.setVm vm₁, locs, cells, slots⟩ (Value.ref b :: argsL).toArray v B ∧
      ∀ target, Steps p.tables e below (B.U.setTop { g with pc := g.pc + 3, stack := v.toList ++ rest }) target → Steps p.tables e below (T.setTop g) target) ∨
    (∃ (q : Addr) (vm₁ : Vm) (B : Pt), s.WarmedH vm₁ ∧ Stand p l e R s m args below meth c B.U B.locs B.cells B.slots ∧ PostX ⟨T.setVm vm₁, locs, cells, slots⟩ (Value.ref b :: argsL).toArray q B ∧
      Steps p.tables e below (T.setTop g) ((B.U.setTop { g with stack := rest }).pushFrame (.throwing q))) := by
  obtain ⟨mk, methM, hnamed, hmethM, hstM, habM⟩ := Cond.instanceMethod_spec hinst
  obtain ⟨methM', cM, hmethM', -, -, -, -, -, -, hsigM⟩ := Cond.code_spec hnamed hcode
  cases hmethM.symm.trans hmethM'
  obtain ⟨c2, r2, m2, q1, q2, q3, q4, kP, hkP, hkPi⟩ := Cond.selects_spec hsel
  cases hcls.symm.trans q1
  cases (State.methodFound?_of_named hnamed hy).symm.trans q2
  cases hnamed.symm.trans q3
  have hselP : selectMethod e.platform s.vm cellB.cls mk = .method mk := by rw [Launch.admits_selectMethod X.admits]; exact q4
  obtain ⟨vm₁, X₁, hstep₁⟩ := X.invokevirtual hexec hown hlink hnamed hmethM hstM hkP hkPi hy (a := b) (cell := cellB) hcell
    (fun z h => by rw [h] at hobj; cases hobj) hselP hmethM habM hkP hkPi (g := g) hg (argsL := argsL) (rest := rest) (hlen _ hsigM) hstack hdg
  rcases hK m meth c ⟨T.setVm vm₁, locs, cells, slots⟩ { g with stack := rest } (.invokevirtual index) mk (Value.ref b :: argsL).toArray X₁ hg hsize hdg hW (X₁.named hnamed) (hpre vm₁ X₁.warmed) with ⟨v, B, X', hpost, hsteps⟩ | ⟨q, B, X', hpost, hsteps⟩
  · exact Or.inl ⟨v, vm₁, B, X₁.warmed, X', hpost, fun target h => hstep₁ _ fun acts => by rw [doInvoke_state]; exact hsteps.trans h⟩
  · exact Or.inr ⟨q, vm₁, B, X₁.warmed, X', hpost, hstep₁ _ fun acts => by rw [doInvoke_state]; exact hsteps⟩
theorem vx_callS (X : Stand p l e R s m args below meth c T locs cells slots) (hexec : p.tables.exec = Jvm.exec) {own : String} {index : Nat} {y : MethodName} {bytes : ByteArray} {maxL : Nat} {ret : Option FieldType}
    (hown : s.vm.findClass own = some m.cls) (hlink : (Cond.methodLink own index y).before args s = true) (hstat : (Cond.static y).before args s = true) (hinit : (Cond.initialized y.cls).before args s = true)
    (hcode : (Cond.code y bytes maxL ret).before args s = true) (hy : y.cls ≠ "java/lang/invoke/MethodHandle" ∧ y.cls ≠ "java/lang/invoke/VarHandle")
    {W9 : Nat} {Pre : Pt → Array Value → Prop} {Post : Pt → Array Value → Option Value → Pt → Prop} {PostX : Pt → Array Value → Addr → Pt → Prop} (hK : vx_Back l R p e below s args y 3 W9 Pre Post PostX)
    {g : JFrame} (hg : g.method = m) (hsize : g.locals.size = c.maxLocals) {argsL rest : List Value} (hlen : ∀ sig, parseMethodDescriptor y.desc = some sig → argsL.length = sig.parameters.length)
    (hstack : g.stack = argsL.reverse ++ rest) (hW : 2 * g.monitorRoom + (rest.map fun v => v.category).sum ≤ W9) (hdg : decode c.code g.pc = .ok (.invokestatic index, 3))
    (hpre : ∀ vm₁, s.WarmedH vm₁ → Pre ⟨T.setVm vm₁, locs, cells, slots⟩ argsL.toArray) :
    (∃ (v : Option Value) (vm₁ : Vm) (B : Pt), s.WarmedH vm₁ ∧ Stand p l e R s m args below meth c B.U B.locs B.cells B.slots ∧ Post ⟨T.setVm vm₁, locs, cells, slots⟩ argsL.toArray v B ∧
      ∀ target, Steps p.tables e below (B.U.setTop { g with pc := g.pc + 3, stack := v.toList ++ rest }) target → Steps p.tables e below (T.setTop g) target) ∨
    (∃ (q : Addr) (vm₁ : Vm) (B : Pt), s.WarmedH vm₁ ∧ Stand p l e R s m args below meth c B.U B.locs B.cells B.slots ∧ PostX ⟨T.setVm vm₁, locs, cells, slots⟩ argsL.toArray q B ∧
      Steps p.tables e below (T.setTop g) ((B.U.setTop { g with stack := rest }).pushFrame (.throwing q))) := by
  obtain ⟨mk, hnamed⟩ := Cond.code_named hcode
  obtain ⟨methM, cM, hmethM, -, -, -, -, -, -, hsigM⟩ := Cond.code_spec hnamed hcode
  have hstatic : methM.isStatic = true := Cond.static_spec hnamed hmethM hstat
  obtain ⟨kP, hkP, -⟩ := className_of_methodNamed hnamed
  have hinitP : kP.init = .initialized := Cond.initialized_spec (findClass_of_methodNamed hnamed) hkP hinit
  obtain ⟨vm₁, X₁, hstep₁⟩ := X.invokestatic hexec hown hlink hnamed hmethM hstatic hkP hinitP hy (g := g) hg (argsL := argsL) (rest := rest) (hlen _ hsigM) hstack hdg
  rcases hK m meth c ⟨T.setVm vm₁, locs, cells, slots⟩ { g with stack := rest } (.invokestatic index) mk argsL.toArray X₁ hg hsize hdg hW (X₁.named hnamed) (hpre vm₁ X₁.warmed) with ⟨v, B, X', hpost, hsteps⟩ | ⟨q, B, X', hpost, hsteps⟩
  · exact Or.inl ⟨v, vm₁, B, X₁.warmed, X', hpost, fun target h => hstep₁ _ fun acts => by rw [doInvoke_state]; exact hsteps.trans h⟩
  · exact Or.inr ⟨q, vm₁, B, X₁.warmed, X', hpost, hstep₁ _ fun acts => by rw [doInvoke_state]; exact hsteps⟩
end Calls
theorem vx_cls {s : State} {T : State} {vm₁ : Vm} {E : String} {k : ClassId} (hW : s.WarmedH vm₁) (h : (T.setVm vm₁).vm.findClass E = some k) : s.vm.findClass E = some k := by
  have h1 : vm₁.findClass E = some k := h
  rw [hW.alike.findClass] at h1
  exact h1
/-- the method's frame g, with q thrown over it -/
def vx_W (p : Program) (l : Launch) (e : Env) (R : Room) (s : State) (m : MethodId) (args : Array Value) (below : List Frame) (meth : Method) (c : Code) (H : Heap) (locs : List Loc) (cells slots : Nat) (Q : State → Prop) (g : JFrame) (q : Addr) : Prop :=
  ∀ T : State, T.heap = H → Stand p l e R s m args below meth c T locs cells slots → ∃ t, Steps p.tables e below ((T.setTop g).pushFrame (.throwing q)) t ∧ Q t
def vx_Run (p : Program) (l : Launch) (e : Env) (R : Room) (s : State) (m : MethodId) (args : Array Value) (below : List Frame) (meth : Method) (c : Code) (H : Heap) (locs : List Loc) (cells slots mc ms : Nat) (g : JFrame) (rest : List Value) (Qa : State → Outcome → State → Prop) (XC : String → State → State → Prop) (free : Addr → Prop) : Prop :=
  ∀ T : State, T.heap = H → Stand p l e R s m args below meth c T locs cells slots →
    (∃ (v : Option Value) (st₀ t T' : State) (L : List Loc), st₀.heap = H ∧ Stand p l e R s m args below meth c T' (locs ++ L) (cells + mc) (slots + ms) ∧ (∀ q ∈ L, free q.base) ∧ T'.heap = t.heap ∧ T'.vm = t.vm ∧ Qa st₀ (.returned v) t ∧
      Goes p e below T g T' { g with pc := g.pc + 3, stack := v.toList ++ rest }) ∨
    (∃ (q : Addr) (st₀ t T' : State) (L : List Loc) (E : String) (ce : Cell), st₀.heap = H ∧ Stand p l e R s m args below meth c T' (locs ++ L) (cells + mc) (slots + ms) ∧ (∀ z ∈ L, free z.base) ∧ T'.heap = t.heap ∧ T'.vm = t.vm ∧ XC E st₀ t ∧ t.heap[q]? = some ce ∧ ce.vm = .none ∧ s.vm.findClass E = some ce.cls ∧
      Steps p.tables e below (T.setTop g) ((T'.setTop { g with stack := rest }).pushFrame (.throwing q)))
def vx_X {S : Type} (px : S → Prop) (B : String → S → State → Prop) (A : Nat → Prop) : String → State → State → Prop := fun E st t => ∃ u : S, px u ∧ B E u t ∧ va_F A st t
section Runs
variable {p : Program} {l : Launch} {e : Env} {R : Room} {s : State} {m : MethodId} {args : Array Value} {below : List Frame} {meth : Method} {c : Code} {H : Heap} {locs : List Loc} {cells slots : Nat}
variable {y : MethodName} {bytes cc : ByteArray} {maxL nL mc ms n index : Nat} {ret : Option FieldType} {ws : List Cond} {rm : Room} {Pc : Array Value → State → Prop} {Qc : Array Value → State → Outcome → State → Prop} {XC : String → State → State → Prop} {free : Addr → Prop} {Ts : List Cond} {own C : String} {b : Addr} {As rest : List Value} {g : JFrame}
theorem vx_callBack (cb : CallB R s args own index y bytes maxL ret ws rm mc ms n) (hM : vx_Met l y ws rm Pc Qc XC mc ms free) (hbl : FrameBlind Pc) : vx_Back l R p e below s args y 3 8 (PreOf R mc ms Pc) (PostOf Qc mc ms free) (vx_Post XC mc ms free) := by
  obtain ⟨hrc, hrs, hfr, hlo, hws, hcw, -, hini, -⟩ := cb
  exact vx_back (bytes := bytes) (maxL := maxL) (ret := ret) hM hbl hrc hrs hfr hlo hws hcw (fun a' U hW => word_at hW (Or.inl (by first | rfl | simp [Cond.onTables, Cond.keeps, Cond.steady])) hini)
theorem vx_runV (S : CallFix p m c cc nL s args Ts own) (hM : vx_Met l y ws rm Pc Qc XC mc ms free) (cw : CallW R s args own C index y bytes maxL ret ws rm mc ms n) (hp : PreV s H C b Pc As)
    (hg : g.method = m) (hn : As.length = n) (hsize : g.locals.size = nL) (hstack : g.stack = As.reverse ++ .ref b :: rest) (hW : 2 * g.monitorRoom + (rest.map fun v => v.category).sum ≤ 8) (hdg : decode cc g.pc = .ok (.invokevirtual index, 3)) (hf : cells + mc ≤ R.cells ∧ slots + ms ≤ R.slots) :
    vx_Run p l e R s m args below meth c H locs cells slots mc ms g rest (Qc (Value.ref b :: As).toArray) XC free := by
  have hK : vx_Back l R p e below s args y 3 8 (PreOf R mc ms Pc) (PostOf Qc mc ms free) (vx_Post XC mc ms free) := vx_callBack cw.1 hM hp.1
  obtain ⟨⟨-, -, -, -, -, -, hcode, -, hy, hlen, hl⟩, hin, hse⟩ := cw
  obtain ⟨hx, hb, hml, ho, -⟩ := S
  obtain ⟨-, ⟨cellB, hcB, hoB, hclB⟩, hPc⟩ := hp
  intro T hT X
  rcases vx_callV X hx (C := C) (bytes := bytes) (maxL := maxL) (ret := ret) ho hl hin hse hcode hy hK (by rw [hT]; exact hcB) hoB hclB hg (hsize.trans hml.symm) (argsL := As) (rest := rest) (fun sig h => hn.trans (hlen sig h)) hstack hW (by rw [hb]; exact hdg)
    (fun vm₁ hW₁ => ⟨hf.1, hf.2, hPc (T.setVm vm₁) hT hW₁⟩) with ⟨v, vm₁, ⟨U', l2, c2, s2⟩, hW₁, X', ⟨g', mk, t, L, e1, e2, hq, h1, hL, h2, h3⟩, st⟩ | ⟨q, vm₁, ⟨U', l2, c2, s2⟩, hW₁, X', ⟨g', mk, t, L, E, ce, e1, e2, hq, hce, hcv, hcl, h1, hL, h2, h3⟩, st⟩
  · dsimp only [Pt.U, Pt.locs, Pt.cells, Pt.slots] at X' e1 e2 h1 h2 h3 st
    subst h1; subst h2; subst h3
    exact Or.inl ⟨v, (T.setVm vm₁).calling g' mk (Value.ref b :: As).toArray, t, U', L, hT, X', hL, e1, e2, hq, st⟩
  · dsimp only [Pt.U, Pt.locs, Pt.cells, Pt.slots] at X' e1 e2 h1 h2 h3 st hcl
    subst h1; subst h2; subst h3
    exact Or.inr ⟨q, (T.setVm vm₁).calling g' mk (Value.ref b :: As).toArray, t, U', L, E, ce, hT, X', hL, e1, e2, hq, hce, hcv, vx_cls hW₁ hcl, st⟩
theorem vx_runS (S : CallFix p m c cc nL s args Ts own) (hM : vx_Met l y ws rm Pc Qc XC mc ms free) (cw : CallB R s args own index y bytes maxL ret ws rm mc ms n ∧ (Cond.static y).before args s = true) (hp : PreS s H Pc As)
    (hg : g.method = m) (hn : As.length = n) (hsize : g.locals.size = nL) (hstack : g.stack = As.reverse ++ rest) (hW : 2 * g.monitorRoom + (rest.map fun v => v.category).sum ≤ 8) (hdg : decode cc g.pc = .ok (.invokestatic index, 3)) (hf : cells + mc ≤ R.cells ∧ slots + ms ≤ R.slots) :
    vx_Run p l e R s m args below meth c H locs cells slots mc ms g rest (Qc As.toArray) XC free := by
  have hK : vx_Back l R p e below s args y 3 8 (PreOf R mc ms Pc) (PostOf Qc mc ms free) (vx_Post XC mc ms free) := vx_callBack cw.1 hM hp.1
  obtain ⟨⟨-, -, -, -, -, -, hcode, hini, hy, hlen, hl⟩, hstt⟩ := cw
  obtain ⟨hx, hb, hml, ho, -⟩ := S
  intro T hT X
  rcases vx_callS X hx (bytes := bytes) (maxL := maxL) (ret := ret) ho hl hstt hini hcode hy hK hg (hsize.trans hml.symm) (argsL := As) (rest := rest) (fun sig h => hn.trans (hlen sig h)) hstack hW (by rw [hb]; exact hdg)
    (fun vm₁ hW₁ => ⟨hf.1, hf.2, hp.2 (T.setVm vm₁) hT hW₁⟩) with ⟨v, vm₁, ⟨U', l2, c2, s2⟩, hW₁, X', ⟨g', mk, t, L, e1, e2, hq, h1, hL, h2, h3⟩, st⟩ | ⟨q, vm₁, ⟨U', l2, c2, s2⟩, hW₁, X', ⟨g', mk, t, L, E, ce, e1, e2, hq, hce, hcv, hcl, h1, hL, h2, h3⟩, st⟩
  · dsimp only [Pt.U, Pt.locs, Pt.cells, Pt.slots] at X' e1 e2 h1 h2 h3 st
    subst h1; subst h2; subst h3
    exact Or.inl ⟨v, (T.setVm vm₁).calling g' mk As.toArray, t, U', L, hT, X', hL, e1, e2, hq, st⟩
  · dsimp only [Pt.U, Pt.locs, Pt.cells, Pt.slots] at X' e1 e2 h1 h2 h3 st hcl
    subst h1; subst h2; subst h3
    exact Or.inr ⟨q, (T.setVm vm₁).calling g' mk As.toArray, t, U', L, E, ce, hT, X', hL, e1, e2, hq, hce, hcv, vx_cls hW₁ hcl, st⟩
end Runs
section Rows
variable {p : Program} {l : Launch} {e : Env} {R : Room} {s : State} {m : MethodId} {args : Array Value} {below : List Frame} {meth : Method} {c : Code} {H : Heap} {locs : List Loc} {cells slots : Nat} {Q : State → Prop}
variable {mc ms : Nat} {free : Addr → Prop} {A0 A1 : Nat → Prop} {H0 : Heap} {a : Array Value} {pc : Nat} {ls : Array Slot} {st0 rest : List Value}
theorem vx_keep {st₀ t T' : State} {L : List Loc} (h0 : st₀.heap = H) (e1 : T'.heap = t.heap) (hS : va_S A0 H0 H locs) (hA : ∀ q, q < H.size → A1 q → A0 q) (hf : ∀ q, free q → A0 q) (hL : ∀ q ∈ L, free q.base) (hF : va_F A1 st₀ t) :
    H.size ≤ T'.heap.size ∧ (∀ q : Nat, q < H.size → ¬ A1 q → T'.heap[q]? = H[q]?) ∧ va_S A0 H0 T'.heap (locs ++ L) := by
  obtain ⟨hz, hk⟩ := hF
  rw [h0] at hz hk
  exact ⟨by rw [e1]; exact hz, fun q h1 h2 => by rw [e1]; exact hk q h1 h2,
    ⟨Nat.le_trans hS.1 (by rw [e1]; exact hz), fun q h1 h2 => by rw [e1, hk q (Nat.lt_of_lt_of_le h1 hS.1) (fun z => h2 (hA q (Nat.lt_of_lt_of_le h1 hS.1) z))]; exact hS.2.1 q h1 h2, fun q hq => by
      rcases List.mem_append.mp hq with h | h
      · exact hS.2.2 q h
      · exact hf _ (hL q h)⟩⟩
theorem vx_calli {S SX : Type} {post : Int32 → S → Prop} {px : SX → Prop} {B : S → State → Prop} {BX : String → SX → State → Prop} {AX : Nat → Prop} (hr : vx_Run p l e R s m args below meth c H locs cells slots mc ms (F0 m pc ls st0) rest (va_Qi post B A1 a) (vx_X px BX AX) free) (hS : va_S A0 H0 H locs) (hA : ∀ q, q < H.size → A1 q → A0 q) (hf : ∀ q, free q → A0 q) (hAX : ∀ q, q < H.size → AX q → A0 q)
    (kx : ∀ (E : String) (ce : Cell) (q9 : Addr) (u : SX) (t : State) (H1 : Heap) (locs1 : List Loc), t.heap = H1 → s.vm.Alike t.vm → px u → BX E u t → H.size ≤ H1.size → (∀ q : Nat, q < H.size → ¬ AX q → H1[q]? = H[q]?) → va_S A0 H0 H1 locs1 → H1[q9]? = some ce → ce.vm = .none → s.vm.findClass E = some ce.cls → vx_W p l e R s m args below meth c H1 locs1 (cells + mc) (slots + ms) Q (F0 m pc ls rest) q9)
    (kk : ∀ (r : Int32) (u : S) (t : State) (H1 : Heap) (locs1 : List Loc), t.heap = H1 → s.vm.Alike t.vm → post r u → B u t → H.size ≤ H1.size → (∀ q : Nat, q < H.size → ¬ A1 q → H1[q]? = H[q]?) → va_S A0 H0 H1 locs1 → W p l e R s m args below meth c H1 locs1 (cells + mc) (slots + ms) Q (F0 m (pc + 3) ls (.int r :: rest))) : W p l e R s m args below meth c H locs cells slots Q (F0 m pc ls st0) := by
  intro T hT X
  rcases hr T hT X with ⟨v, st₀, t, T', L, h0, X', hL, e1, e2, ⟨⟨r, u, hv, hp, hb⟩, hF⟩, st⟩ | ⟨q, st₀, t, T', L, E, ce, h0, X', hL, e1, e2, ⟨u, hp, hb, hF⟩, hce, hcv, hcl, st⟩
  · cases hv
    obtain ⟨k1, k2, k3⟩ := vx_keep h0 e1 hS hA hf hL hF
    obtain ⟨t2, a1, b1⟩ := kk r u t T'.heap (locs ++ L) e1.symm (by rw [← e2]; exact X'.warmed.alike) hp hb k1 k2 k3 T' rfl X'
    exact ⟨t2, st t2 a1, b1⟩
  · obtain ⟨k1, k2, k3⟩ := vx_keep h0 e1 hS hAX hf hL hF
    obtain ⟨t2, a1, b1⟩ := kx E ce q u t T'.heap (locs ++ L) e1.symm (by rw [← e2]; exact X'.warmed.alike) hp hb k1 k2 k3 (by rw [e1]; exact hce) hcv hcl T' rfl X'
    exact ⟨t2, st.trans a1, b1⟩
theorem vx_calll {S SX : Type} {post : Int64 → S → Prop} {px : SX → Prop} {B : S → State → Prop} {BX : String → SX → State → Prop} {AX : Nat → Prop} (hr : vx_Run p l e R s m args below meth c H locs cells slots mc ms (F0 m pc ls st0) rest (va_Ql post B A1 a) (vx_X px BX AX) free) (hS : va_S A0 H0 H locs) (hA : ∀ q, q < H.size → A1 q → A0 q) (hf : ∀ q, free q → A0 q) (hAX : ∀ q, q < H.size → AX q → A0 q)
    (kx : ∀ (E : String) (ce : Cell) (q9 : Addr) (u : SX) (t : State) (H1 : Heap) (locs1 : List Loc), t.heap = H1 → s.vm.Alike t.vm → px u → BX E u t → H.size ≤ H1.size → (∀ q : Nat, q < H.size → ¬ AX q → H1[q]? = H[q]?) → va_S A0 H0 H1 locs1 → H1[q9]? = some ce → ce.vm = .none → s.vm.findClass E = some ce.cls → vx_W p l e R s m args below meth c H1 locs1 (cells + mc) (slots + ms) Q (F0 m pc ls rest) q9)
    (kk : ∀ (r : Int64) (u : S) (t : State) (H1 : Heap) (locs1 : List Loc), t.heap = H1 → s.vm.Alike t.vm → post r u → B u t → H.size ≤ H1.size → (∀ q : Nat, q < H.size → ¬ A1 q → H1[q]? = H[q]?) → va_S A0 H0 H1 locs1 → W p l e R s m args below meth c H1 locs1 (cells + mc) (slots + ms) Q (F0 m (pc + 3) ls (.long r :: rest))) : W p l e R s m args below meth c H locs cells slots Q (F0 m pc ls st0) := by
  intro T hT X
  rcases hr T hT X with ⟨v, st₀, t, T', L, h0, X', hL, e1, e2, ⟨⟨r, u, hv, hp, hb⟩, hF⟩, st⟩ | ⟨q, st₀, t, T', L, E, ce, h0, X', hL, e1, e2, ⟨u, hp, hb, hF⟩, hce, hcv, hcl, st⟩
  · cases hv
    obtain ⟨k1, k2, k3⟩ := vx_keep h0 e1 hS hA hf hL hF
    obtain ⟨t2, a1, b1⟩ := kk r u t T'.heap (locs ++ L) e1.symm (by rw [← e2]; exact X'.warmed.alike) hp hb k1 k2 k3 T' rfl X'
    exact ⟨t2, st t2 a1, b1⟩
  · obtain ⟨k1, k2, k3⟩ := vx_keep h0 e1 hS hAX hf hL hF
    obtain ⟨t2, a1, b1⟩ := kx E ce q u t T'.heap (locs ++ L) e1.symm (by rw [← e2]; exact X'.warmed.alike) hp hb k1 k2 k3 (by rw [e1]; exact hce) hcv hcl T' rfl X'
    exact ⟨t2, st.trans a1, b1⟩
theorem vx_callf {S SX : Type} {post : UInt32 → S → Prop} {px : SX → Prop} {B : S → State → Prop} {BX : String → SX → State → Prop} {AX : Nat → Prop} (hr : vx_Run p l e R s m args below meth c H locs cells slots mc ms (F0 m pc ls st0) rest (va_Qf post B A1 a) (vx_X px BX AX) free) (hS : va_S A0 H0 H locs) (hA : ∀ q, q < H.size → A1 q → A0 q) (hf : ∀ q, free q → A0 q) (hAX : ∀ q, q < H.size → AX q → A0 q)
    (kx : ∀ (E : String) (ce : Cell) (q9 : Addr) (u : SX) (t : State) (H1 : Heap) (locs1 : List Loc), t.heap = H1 → s.vm.Alike t.vm → px u → BX E u t → H.size ≤ H1.size → (∀ q : Nat, q < H.size → ¬ AX q → H1[q]? = H[q]?) → va_S A0 H0 H1 locs1 → H1[q9]? = some ce → ce.vm = .none → s.vm.findClass E = some ce.cls → vx_W p l e R s m args below meth c H1 locs1 (cells + mc) (slots + ms) Q (F0 m pc ls rest) q9)
    (kk : ∀ (r : UInt32) (u : S) (t : State) (H1 : Heap) (locs1 : List Loc), t.heap = H1 → s.vm.Alike t.vm → post r u → B u t → H.size ≤ H1.size → (∀ q : Nat, q < H.size → ¬ A1 q → H1[q]? = H[q]?) → va_S A0 H0 H1 locs1 → W p l e R s m args below meth c H1 locs1 (cells + mc) (slots + ms) Q (F0 m (pc + 3) ls (.float r :: rest))) : W p l e R s m args below meth c H locs cells slots Q (F0 m pc ls st0) := by
  intro T hT X
  rcases hr T hT X with ⟨v, st₀, t, T', L, h0, X', hL, e1, e2, ⟨⟨r, u, hv, hp, hb⟩, hF⟩, st⟩ | ⟨q, st₀, t, T', L, E, ce, h0, X', hL, e1, e2, ⟨u, hp, hb, hF⟩, hce, hcv, hcl, st⟩
  · cases hv
    obtain ⟨k1, k2, k3⟩ := vx_keep h0 e1 hS hA hf hL hF
    obtain ⟨t2, a1, b1⟩ := kk r u t T'.heap (locs ++ L) e1.symm (by rw [← e2]; exact X'.warmed.alike) hp hb k1 k2 k3 T' rfl X'
    exact ⟨t2, st t2 a1, b1⟩
  · obtain ⟨k1, k2, k3⟩ := vx_keep h0 e1 hS hAX hf hL hF
    obtain ⟨t2, a1, b1⟩ := kx E ce q u t T'.heap (locs ++ L) e1.symm (by rw [← e2]; exact X'.warmed.alike) hp hb k1 k2 k3 (by rw [e1]; exact hce) hcv hcl T' rfl X'
    exact ⟨t2, st.trans a1, b1⟩
theorem vx_calld {S SX : Type} {post : UInt64 → S → Prop} {px : SX → Prop} {B : S → State → Prop} {BX : String → SX → State → Prop} {AX : Nat → Prop} (hr : vx_Run p l e R s m args below meth c H locs cells slots mc ms (F0 m pc ls st0) rest (va_Qd post B A1 a) (vx_X px BX AX) free) (hS : va_S A0 H0 H locs) (hA : ∀ q, q < H.size → A1 q → A0 q) (hf : ∀ q, free q → A0 q) (hAX : ∀ q, q < H.size → AX q → A0 q)
    (kx : ∀ (E : String) (ce : Cell) (q9 : Addr) (u : SX) (t : State) (H1 : Heap) (locs1 : List Loc), t.heap = H1 → s.vm.Alike t.vm → px u → BX E u t → H.size ≤ H1.size → (∀ q : Nat, q < H.size → ¬ AX q → H1[q]? = H[q]?) → va_S A0 H0 H1 locs1 → H1[q9]? = some ce → ce.vm = .none → s.vm.findClass E = some ce.cls → vx_W p l e R s m args below meth c H1 locs1 (cells + mc) (slots + ms) Q (F0 m pc ls rest) q9)
    (kk : ∀ (r : UInt64) (u : S) (t : State) (H1 : Heap) (locs1 : List Loc), t.heap = H1 → s.vm.Alike t.vm → post r u → B u t → H.size ≤ H1.size → (∀ q : Nat, q < H.size → ¬ A1 q → H1[q]? = H[q]?) → va_S A0 H0 H1 locs1 → W p l e R s m args below meth c H1 locs1 (cells + mc) (slots + ms) Q (F0 m (pc + 3) ls (.double r :: rest))) : W p l e R s m args below meth c H locs cells slots Q (F0 m pc ls st0) := by
  intro T hT X
  rcases hr T hT X with ⟨v, st₀, t, T', L, h0, X', hL, e1, e2, ⟨⟨r, u, hv, hp, hb⟩, hF⟩, st⟩ | ⟨q, st₀, t, T', L, E, ce, h0, X', hL, e1, e2, ⟨u, hp, hb, hF⟩, hce, hcv, hcl, st⟩
  · cases hv
    obtain ⟨k1, k2, k3⟩ := vx_keep h0 e1 hS hA hf hL hF
    obtain ⟨t2, a1, b1⟩ := kk r u t T'.heap (locs ++ L) e1.symm (by rw [← e2]; exact X'.warmed.alike) hp hb k1 k2 k3 T' rfl X'
    exact ⟨t2, st t2 a1, b1⟩
  · obtain ⟨k1, k2, k3⟩ := vx_keep h0 e1 hS hAX hf hL hF
    obtain ⟨t2, a1, b1⟩ := kx E ce q u t T'.heap (locs ++ L) e1.symm (by rw [← e2]; exact X'.warmed.alike) hp hb k1 k2 k3 (by rw [e1]; exact hce) hcv hcl T' rfl X'
    exact ⟨t2, st.trans a1, b1⟩
theorem vx_callv {S SX : Type} {post : S → Prop} {px : SX → Prop} {B : S → State → Prop} {BX : String → SX → State → Prop} {AX : Nat → Prop} (hr : vx_Run p l e R s m args below meth c H locs cells slots mc ms (F0 m pc ls st0) rest (va_Qv post B A1 a) (vx_X px BX AX) free) (hS : va_S A0 H0 H locs) (hA : ∀ q, q < H.size → A1 q → A0 q) (hf : ∀ q, free q → A0 q) (hAX : ∀ q, q < H.size → AX q → A0 q)
    (kx : ∀ (E : String) (ce : Cell) (q9 : Addr) (u : SX) (t : State) (H1 : Heap) (locs1 : List Loc), t.heap = H1 → s.vm.Alike t.vm → px u → BX E u t → H.size ≤ H1.size → (∀ q : Nat, q < H.size → ¬ AX q → H1[q]? = H[q]?) → va_S A0 H0 H1 locs1 → H1[q9]? = some ce → ce.vm = .none → s.vm.findClass E = some ce.cls → vx_W p l e R s m args below meth c H1 locs1 (cells + mc) (slots + ms) Q (F0 m pc ls rest) q9)
    (kk : ∀ (u : S) (t : State) (H1 : Heap) (locs1 : List Loc), t.heap = H1 → s.vm.Alike t.vm → post u → B u t → H.size ≤ H1.size → (∀ q : Nat, q < H.size → ¬ A1 q → H1[q]? = H[q]?) → va_S A0 H0 H1 locs1 → W p l e R s m args below meth c H1 locs1 (cells + mc) (slots + ms) Q (F0 m (pc + 3) ls (rest))) : W p l e R s m args below meth c H locs cells slots Q (F0 m pc ls st0) := by
  intro T hT X
  rcases hr T hT X with ⟨v, st₀, t, T', L, h0, X', hL, e1, e2, ⟨⟨u, hv, hp, hb⟩, hF⟩, st⟩ | ⟨q, st₀, t, T', L, E, ce, h0, X', hL, e1, e2, ⟨u, hp, hb, hF⟩, hce, hcv, hcl, st⟩
  · cases hv
    obtain ⟨k1, k2, k3⟩ := vx_keep h0 e1 hS hA hf hL hF
    obtain ⟨t2, a1, b1⟩ := kk u t T'.heap (locs ++ L) e1.symm (by rw [← e2]; exact X'.warmed.alike) hp hb k1 k2 k3 T' rfl X'
    exact ⟨t2, st t2 a1, b1⟩
  · obtain ⟨k1, k2, k3⟩ := vx_keep h0 e1 hS hAX hf hL hF
    obtain ⟨t2, a1, b1⟩ := kx E ce q u t T'.heap (locs ++ L) e1.symm (by rw [← e2]; exact X'.warmed.alike) hp hb k1 k2 k3 (by rw [e1]; exact hce) hcv hcl T' rfl X'
    exact ⟨t2, st.trans a1, b1⟩
/-- caught by the row x of this method's table; the rows ahead don't take it -/
theorem vx_catch {own name : String} {E : String} {ce : Cell} {q : Addr} (hown : s.vm.findClass own = some m.cls) (pre : List ExceptionTableEntry) (x : ExceptionTableEntry) (suf : List ExceptionTableEntry) (hsplit : c.exceptionTable.toList = pre ++ x :: suf)
    (hpass : ∀ z ∈ pre, covers z pc = false ∨ (z.catchType ≠ 0 ∧ ∃ nm : String, (Cond.classLink own z.catchType nm).before args s = true ∧ va_Nc E nm s)) (hx : covers x pc = true) (h0 : x.catchType ≠ 0)
    (hlink : (Cond.classLink own x.catchType name).before args s = true) (hcast : (Cond.castable E name).before args s = true) (hcell : H[q]? = some ce) (hv : ce.vm = .none) (hcl : s.vm.findClass E = some ce.cls)
    (kk : W p l e R s m args below meth c H locs cells slots Q (F0 m x.handlerPc ls [.ref q])) : vx_W p l e R s m args below meth c H locs cells slots Q (F0 m pc ls rest) q := by
  intro T hT X
  have hpl : e.platform.magicAccessors = ({} : Platform).magicAccessors := by rw [X.admits.platform]
  obtain ⟨c3, c4, hc3, hc4, hasg⟩ := Cond.castable_spec hcast
  cases Option.some.inj (hc3.symm.trans hcl)
  obtain ⟨c5, hc5, hcl5⟩ := Cond.classLink_spec hown hlink e.platform hpl
  cases Option.some.inj (hc4.symm.trans hc5)
  obtain ⟨vm', X', st⟩ := X.thenCaughtThrough q (g := F0 m pc ls rest) rfl (Steps.refl _) (by rw [hT]; exact hcell) (by rw [hv]; rfl) (by obtain ⟨k9, h9, -⟩ := Vm.findClass_spec hcl; exact ⟨k9, h9⟩) pre x suf hsplit
    (fun z hz => by
      rcases hpass z hz with h | ⟨hz0, nm, hl1, hn1⟩
      · exact Or.inl h
      · obtain ⟨c6, hc6, hcl6⟩ := Cond.classLink_spec hown hl1 e.platform hpl
        obtain ⟨a8, b8, h1, h2, h3⟩ := hn1
        cases Option.some.inj (h1.symm.trans hcl)
        cases Option.some.inj (h2.symm.trans hc6)
        exact Or.inr ⟨hz0, _, hcl6, h3⟩) hx (Or.inr ⟨h0, c4, hcl5, hasg⟩)
  obtain ⟨t, a1, b1⟩ := kk (T.setVm vm') hT X'
  exact ⟨t, st.trans a1, b1⟩
end Rows
section Ends
variable {p : Program} {l : Launch} {e : Env} {R : Room} {s : State} {m : MethodId} {args : Array Value} {below : List Frame} {meth : Method} {c : Code} {H : Heap} {locs : List Loc} {cells slots : Nat} {Q : State → Prop}
variable {mc ms : Nat} {free : Addr → Prop} {A0 A1 : Nat → Prop} {H0 : Heap} {a : Array Value} {ls : Array Slot} {st0 rest : List Value}
variable {Qc : Array Value → State → Outcome → State → Prop} {XC : String → State → State → Prop}
/-- what a body that may throw owes at its end -/
def vx_MQ (below : List Frame) (Qc : Array Value → State → Outcome → State → Prop) (XC : String → State → State → Prop) (a : Array Value) (s : State) (mc ms : Nat) (free : Addr → Prop) : State → Prop := fun t =>
  ∃ o, t.status = .running ∧ Ended t below o ∧ vx_Q Qc XC mc ms free a s o t
theorem vx_ret {g : JFrame} {mc ms : Nat} (k : W p l e R s m args below meth c H locs cells slots (MQ below Qc args s mc ms free) g) : W p l e R s m args below meth c H locs cells slots (vx_MQ below Qc XC args s mc ms free) g := by
  intro T hT X
  obtain ⟨t, a1, o, b1, b2, b3, b4⟩ := k T hT X
  exact ⟨t, a1, o, b1, b2, Or.inl ⟨b3, b4⟩⟩
/-- not caught here: it goes on to the caller -/
theorem vx_widen {g : JFrame} {q : Addr} {k n : Nat} (h1 : cells ≤ k) (h2 : slots ≤ n) (kk : vx_W p l e R s m args below meth c H locs k n Q g q) : vx_W p l e R s m args below meth c H locs cells slots Q g q := fun T hT X => kk T hT (stand_widen X h1 h2)
theorem vx_out {pc : Nat} {E : String} {ce : Cell} {q : Addr} {mc ms : Nat} (hout : ∀ x ∈ c.exceptionTable.toList, covers x pc = false) (hlocks : meth.locks = false) (hcell : H[q]? = some ce) (hv : ce.vm = .none) (hcl : s.vm.findClass E = some ce.cls)
    (hx : ∀ t : State, t.heap = H → s.vm.Alike t.vm → XC E s t) (hf : ∀ z ∈ locs, free z.base) (hc : cells ≤ mc) (hs : slots ≤ ms) :
    vx_W p l e R s m args below meth c H locs cells slots (vx_MQ below Qc XC args s mc ms free) (F0 m pc ls rest) q := by
  intro T hT X
  obtain ⟨st1, hrun, hend, hW, hsm⟩ := X.leaveThrown q (g := F0 m pc ls rest) rfl rfl rfl hout hlocks
  have hcell9 : (T.setFrames (.throwing q :: below)).heap[q]? = some ce := by
    show T.heap[q]? = some ce
    rw [hT]; exact hcell
  exact ⟨_, st1, .threw q, hrun, hend, Or.inr ⟨q, rfl, E, ce, locs, hx _ hT hW.alike, hcell9, hv, hcl, hW, hsm.mono hc hs, hf⟩⟩
theorem vx_frame {U : State} {k n : Nat} (h : s.sameButNew ({ U with vm := s.vm } : State) locs k n) : s.heap.size ≤ U.heap.size ∧ ∀ q : Nat, q < s.heap.size → (∀ z ∈ locs, z.base ≠ q) → U.heap[q]? = s.heap[q]? := by
  obtain ⟨-, h2, -, -, -, h6⟩ := h
  refine ⟨h2, fun q hq hz => ?_⟩
  obtain ⟨c9, e1, e2, e3, e4⟩ := h6 q _ (Array.getElem?_eq_getElem hq)
  have hs : c9.slots = (s.heap[q]).slots := Array.ext_getElem? fun i => e4 i fun hm => hz _ hm rfl
  have h9 : c9 = s.heap[q] := by
    rw [hs] at e2
    exact e2
  have e5 : U.heap[q]? = some c9 := e1
  rw [e5, h9, Array.getElem?_eq_getElem hq]
/-- the words of a throw but the four that speak of the heap -/
def vx_no (w : Cond) : Bool := decide (w ≠ .isRef (.static Bundle.tN "UNASSIGNED_STACK" Bundle.steD)) && decide (w ≠ .isRef (.static Bundle.tN "SUPPRESSED_SENTINEL" Bundle.listD)) && decide (w ≠ .laysStatic Bundle.tN "UNASSIGNED_STACK" Bundle.steD) && decide (w ≠ .laysStatic Bundle.tN "SUPPRESSED_SENTINEL" Bundle.listD)
def vx_at0 (own : String) (ic : Nat) (X : String) (names : List String) : List Cond := (Bundle.ownAtoms0 own ic X names).filter vx_no
def vx_atS (own : String) (ic : Nat) (X : String) (names : List String) : List Cond := (Bundle.ownAtoms own ic X names).filter vx_no
/-- a word that the tables alone decide, or a good one -/
def vx_ot (w : Cond) : Bool := w.onTables || goodWord w
theorem vx_ot_at {args a' : Array Value} {s U : State} {w : Cond} (hW : s.WarmedH U.vm) (hvm : s.vm = U.vm) (hg : vx_ot w = true) (h : w.before args s = true) : w.before a' U = true := by
  simp only [vx_ot, Bool.or_eq_true] at hg
  rcases hg with hg | hg
  · exact va_tabs hg hvm h
  · exact word_at hW (good_of_word hg) h
/-- a list's words: the good ones out of the method's own list, the others by premises of their own -/
theorem vx_hat {args : Array Value} {s : State} {L B : List Cond} (h1 : ∀ w ∈ L.filter goodWord, w.before args s = true) (h2 : ∀ w ∈ L.filter (fun w => !goodWord w), w ∈ B) (h3 : ∀ w ∈ B, w.before args s = true) : ∀ w ∈ L, w.before args s = true := by
  intro w hw
  by_cases g : goodWord w = true
  · exact h1 w (List.mem_filter.mpr ⟨hw, g⟩)
  · refine h3 w (h2 w (List.mem_filter.mpr ⟨hw, ?_⟩))
    show (!goodWord w) = true
    cases hgw : goodWord w
    · rfl
    · exact absurd hgw g
theorem vx_c {args : Array Value} {s : State} {w : Cond} {B : List Cond} (h : w.before args s = true) (t : ∀ w ∈ B, w.before args s = true) : ∀ w' ∈ w :: B, w'.before args s = true := fun w' h' => (List.mem_cons.mp h').elim (fun e => by rw [e]; exact h) (t w')
theorem vx_n {args : Array Value} {s : State} : ∀ w ∈ ([] : List Cond), w.before args s = true := fun _ h => nomatch h
theorem vx_own {args : Array Value} {s : State} {L : List Cond} (h1 : ∀ w ∈ L.filter vx_no, w.before args s = true)
    (hU : (Cond.isRef (.static Bundle.tN "UNASSIGNED_STACK" Bundle.steD)).before args s = true) (hN : (Cond.isRef (.static Bundle.tN "SUPPRESSED_SENTINEL" Bundle.listD)).before args s = true)
    (lU : (Cond.laysStatic Bundle.tN "UNASSIGNED_STACK" Bundle.steD).before args s = true) (lN : (Cond.laysStatic Bundle.tN "SUPPRESSED_SENTINEL" Bundle.listD).before args s = true) : ∀ w ∈ L, w.before args s = true := by
  intro w hw
  by_cases e1 : w = .isRef (.static Bundle.tN "UNASSIGNED_STACK" Bundle.steD)
  · rw [e1]; exact hU
  · by_cases e2 : w = .isRef (.static Bundle.tN "SUPPRESSED_SENTINEL" Bundle.listD)
    · rw [e2]; exact hN
    · by_cases e3 : w = .laysStatic Bundle.tN "UNASSIGNED_STACK" Bundle.steD
      · rw [e3]; exact lU
      · by_cases e4 : w = .laysStatic Bundle.tN "SUPPRESSED_SENTINEL" Bundle.listD
        · rw [e4]; exact lN
        · exact h1 w (List.mem_filter.mpr ⟨hw, by unfold vx_no; rw [decide_eq_true e1, decide_eq_true e2, decide_eq_true e3, decide_eq_true e4]; rfl⟩)
/-- where a static field lies, its class's statics cell in H -/
def vx_L (C n d : String) (A : Nat → Prop) (U : State) (H : Heap) : Prop := ∃ (c : ClassId) (k : Class) (i : Nat) (f : Field) (a : Nat) (cell : Cell), U.vm.findClass C = some c ∧ U.fieldFound? C n d = some (c, k, i, f) ∧ f.isStatic = true ∧ k.statics = some a ∧ H[a]? = some cell ∧ cell.vm.isStatics = true ∧ cell.cls = c ∧ f.slot < cell.slots.size ∧ k.staticTypes[f.slot]? = some f.type ∧ ¬ A a
theorem vx_L.moved {C n d : String} {A : Nat → Prop} {u U : State} {H : Heap} (hvm : u.vm.Alike U.vm) (h : vx_L C n d A u H) : vx_L C n d A U H := by
  obtain ⟨c, k, i, f, a, cell, h1, h2, h3, h4, h5, h6, h7, h8, h9, h10⟩ := h
  obtain ⟨k', hi', he⟩ := State.fieldFound?_setVm hvm h2
  exact ⟨c, k', i, f, a, cell, by rw [hvm.findClass]; exact h1, hi', h3, by rw [he]; exact h4, h5, h6, h7, h8, by rw [he]; exact h9, h10⟩
theorem vx_L.kept {C n d : String} {A : Nat → Prop} {U : State} {H H1 : Heap} (h : vx_L C n d A U H) (hq : ∀ a : Nat, a < H.size → ¬ A a → H1[a]? = H[a]?) : vx_L C n d A U H1 := by
  obtain ⟨c, k, i, f, a, cell, h1, h2, h3, h4, h5, h6, h7, h8, h9, h10⟩ := h
  exact ⟨c, k, i, f, a, cell, h1, h2, h3, h4, by rw [hq a (Array.getElem?_eq_some_iff.mp h5).1 h10]; exact h5, h6, h7, h8, h9, h10⟩
theorem vx_L.narrow {C n d : String} {A B : Nat → Prop} {U : State} {H : Heap} (h : vx_L C n d A U H) (hAB : ∀ q, B q → A q) : vx_L C n d B U H := by
  obtain ⟨c, k, i, f, a, cell, h1, h2, h3, h4, h5, h6, h7, h8, h9, h10⟩ := h
  exact ⟨c, k, i, f, a, cell, h1, h2, h3, h4, h5, h6, h7, h8, h9, fun z => h10 (hAB _ z)⟩
theorem vx_L.word {C n d : String} {A : Nat → Prop} {s : State} {args : Array Value} (h : vx_L C n d A s s.heap) : (Cond.laysStatic C n d).before args s = true := by
  obtain ⟨c, k, i, f, a, cell, h1, h2, h3, h4, h5, h6, h7, h8, h9, -⟩ := h
  show (Cond.laysStatic C n d).holds args s none s [] = true
  exact Cond.laysStatic_of h1 h2 h3 h4 h5 h6 h7 h8 h9
/-- .. and what it holds: null or some reference -/
def vx_Zq (C n d : String) (A : Nat → Prop) (U : State) (H : Heap) : Prop := va_Zq C n d A U H ∧ vx_L C n d A U H
theorem vx_Zq.moved {C n d : String} {A : Nat → Prop} {u U : State} {H : Heap} (hvm : u.vm.Alike U.vm) (h : vx_Zq C n d A u H) : vx_Zq C n d A U H := ⟨va_Zq.moved hvm h.1, vx_L.moved hvm h.2⟩
theorem vx_Zq.kept {C n d : String} {A : Nat → Prop} {U : State} {H H1 : Heap} (h : vx_Zq C n d A U H) (hq : ∀ a : Nat, a < H.size → ¬ A a → H1[a]? = H[a]?) : vx_Zq C n d A U H1 := ⟨va_Zq.kept h.1 hq, vx_L.kept h.2 hq⟩
theorem vx_Zq.narrow {C n d : String} {A B : Nat → Prop} {U : State} {H : Heap} (h : vx_Zq C n d A U H) (hAB : ∀ q, B q → A q) : vx_Zq C n d B U H := ⟨va_Zq.narrow h.1 hAB, vx_L.narrow h.2 hAB⟩
theorem vx_Zqof {args : Array Value} {s : State} {C n d : String} {A : Nat → Prop} (hl : (Cond.laysStatic C n d).before args s = true) (hini : (Cond.initialized C).before args s = true) (h : (Cond.isRef (.static C n d)).before args s = true) (hA : ∀ a : Nat, a < s.heap.size → ¬ A a) : vx_Zq C n d A s s.heap := by
  refine ⟨va_Zqof hl hini h hA, ?_⟩
  obtain ⟨c, k, i, f, a, cell, h1, h2, h3, h4, h5, h6, h7, h8, h9⟩ := Cond.laysStatic_spec hl
  exact ⟨c, k, i, f, a, cell, h1, h2, h3, h4, h5, h6, h7, h8, h9, hA a (Array.getElem?_eq_some_iff.mp h5).1⟩
theorem vx_isRef {C n d : String} {v : Value} {A : Nat → Prop} {s : State} {args : Array Value} (h : va_Z C n d v A s s.heap) (hv : v.isRef = true) : (Cond.isRef (.static C n d)).before args s = true := by
  obtain ⟨cf, kf, fi, f, a, cell, h1, h2, h3, h4, h5, h6, h7, -⟩ := h
  have he : (Term.static C n d).eval args s none [] s = some v := by
    simp [Term.eval, State.fieldNamed?, h1, h2, h4, h5, h6, h7]
  simp only [Cond.before, Cond.holds, Cond.value, he]
  cases v <;> simp_all [Value.isRef]
theorem vx_isRefq {C n d : String} {A : Nat → Prop} {s : State} {args : Array Value} (h : va_Zq C n d A s s.heap) : (Cond.isRef (.static C n d)).before args s = true := by
  rcases h with h | ⟨t, h⟩
  · exact vx_isRef h rfl
  · exact vx_isRef h rfl
/-- the same frame, seen from here: as if the method were called anew in this heap -/
theorem vx_rebase {T : State} (X : Stand p l e R s m args below meth c T locs cells slots) {R' : Room} (hf : R'.frames ≤ R.frames) (hl : R'.locals ≤ R.locals) (hc : cells + R'.cells ≤ R.cells) (hs : slots + R'.slots ≤ R.slots) :
    Stand p l e R' ((T.setVm s.vm).setFrames (.invoking m args :: below)) m args below meth c T [] 0 0 := by
  have htop : (T.setVm s.vm).topJava?.isSome := X.here.top
  have hF : ((T.setVm s.vm).setFrames (.invoking m args :: below)).frames = .invoking m args :: below := State.frames_setFrames _ (State.cur_lt_of_top htop)
  obtain ⟨g₀, hg0⟩ := Option.isSome_iff_exists.mp htop
  obtain ⟨r, hr⟩ := State.topJava?_eq_some.mp hg0
  have hl9 : e.platform.stackLimits (T.setVm s.vm).me = e.platform.stackLimits s.me := X.limits
  have hb9 : (T.setVm s.vm).me.stackBytes = s.me.stackBytes := X.bytes
  refine ⟨X.admits, X.cas, X.clock, hF, ?_, X.hears, X.method, X.code, X.here, X.tail, X.warmed, ?_, ?_, ?_⟩
  · have h := X.room
    have hU : ((T.setVm s.vm).setFrames (.invoking m args :: below)).localsInUse = s.localsInUse := by
      rw [State.localsInUse_invoking hF (meth := meth) (c := c) X.method X.code, State.localsInUse_invoking X.frames X.method X.code]
    simp only [State.hasRoom, Bool.and_eq_true, decide_eq_true_eq] at h ⊢
    obtain ⟨⟨⟨⟨h1, h2, h3, h4, h5, h6⟩, h7⟩, h8⟩, h9⟩ := h
    rw [X.frames, List.length_cons] at h2 h3
    have q1 := X.heapSize
    have q2 := X.used
    simp only [hF, hU, List.length_cons, State.stackLimits_setFrames, State.stackBytes_setFrames, hl9, hb9]
    refine ⟨⟨⟨⟨by omega, by omega, by omega, by omega, by omega, h6⟩, ?_⟩, ?_⟩, X.book⟩
    · show T.heap.size + R'.cells ≤ e.platform.maxCells
      omega
    · show T.slotsUsed + R'.slots ≤ e.platform.maxSlots
      omega
  · rw [State.stackLimits_setFrames]; rfl
  · rw [State.stackBytes_setFrames]; rfl
  · refine ⟨?_, Nat.le_refl _, Nat.le_refl _, ?_, ?_, fun a c9 h9 => ⟨c9, h9, rfl, rfl, fun _ _ => rfl⟩⟩
    · obtain ⟨t, ht, -⟩ := State.frames_cons hr
      show T.setVm s.vm = { ((T.setVm s.vm).setFrames (.invoking m args :: below)).setFrames (T.setVm s.vm).frames with heap := T.heap, slotsUsed := T.slotsUsed }
      rw [State.setFrames_setFrames, State.setFrames_self ht]
      rfl
    · show T.slotsUsed = T.slotsUsed + ((T.heap.toList.drop T.heap.size).map (·.slots.size)).sum
      rw [List.drop_eq_nil_of_le (Nat.le_of_eq Array.length_toList)]
      rfl
    · show ((T.heap.toList.drop T.heap.size).map (·.slots.size)).sum ≤ 0
      rw [List.drop_eq_nil_of_le (Nat.le_of_eq Array.length_toList)]
      exact Nat.le_refl _
/-- 'throw new E()': new; dup; invokespecial; athrow -/
theorem vx_throw0 {cc : ByteArray} {pc : Nat} (hexec : p.tables.exec = Jvm.exec) (hb : c.code = cc) (hl : l.stackTraces = false) {own cls : String} {names : List String} {ik ic mc ms : Nat} {A : Nat → Prop}
    (hown : s.vm.findClass own = some m.cls) (hcls : Bundle.fit cls = true) (hnames : ∀ n ∈ names, Bundle.fit n = true)
    (hk : (Cond.classLink own ik cls).before args s = true) (hini : (Cond.initialized cls).before args s = true) (hat : ∀ w ∈ vx_at0 own ic cls names, w.before args s = true)
    (hgood : ∀ w ∈ Cond.classLink own ik cls :: Cond.initialized cls :: vx_at0 own ic cls names, vx_ot w = true)
    (hU : vx_Zq Bundle.tN "UNASSIGNED_STACK" Bundle.steD A s s.heap) (hN : vx_Zq Bundle.tN "SUPPRESSED_SENTINEL" Bundle.listD A s s.heap) (hS : va_S A s.heap H locs) (hsize : ls.size = c.maxLocals)
    (d0 : decode cc pc = .ok (.new ik, 3)) (d3 : decode cc (pc + 3) = .ok (.dup, 1)) (d4 : decode cc (pc + 4) = .ok (.invokespecial ic, 3)) (d7 : decode cc (pc + 7) = .ok (.athrow, 1))
    (hout : ∀ x ∈ c.exceptionTable.toList, covers x (pc + 7) = false)
    (hRframes : names.length + 3 < R.frames) (hRlocals : (rest.map fun v => v.category).sum + (13 * (names.length + 1) + 42) ≤ R.locals) (hRcells : cells + 1 ≤ R.cells) (hRslots : slots + 6 ≤ R.slots) (hlocks : meth.locks = false)
    (hx : ∀ t : State, s.vm.Alike t.vm → H.size ≤ t.heap.size → (∀ q : Nat, q < H.size → t.heap[q]? = H[q]?) → XC cls s t)
    (hf : ∀ z ∈ locs, free z.base) (hc : cells + 1 ≤ mc) (hs : slots + 6 ≤ ms) :
    W p l e R s m args below meth c H locs cells slots (vx_MQ below Qc XC args s mc ms free) (F0 m pc ls rest) := by
  intro T hT X
  have htr : e.platform.stackTraces = false := (show e.platform.stackTraces = l.stackTraces by rw [X.admits.platform]).trans hl
  have Y := vx_rebase X (R' := { frames := R.frames, locals := R.locals, cells := 1, slots := 6 }) (Nat.le_refl _) (Nat.le_refl _) hRcells hRslots
  obtain ⟨s', hA⟩ : ∃ z, z = (T.setVm s.vm).setFrames (.invoking m args :: below) := ⟨_, rfl⟩
  rw [← hA] at Y
  have hvm : s'.vm = s.vm := by rw [hA]; rfl
  have hhp : s'.heap = H := by rw [hA]; exact hT
  have hW0 : s.WarmedH s'.vm := by rw [hvm]; exact State.WarmedH.refl s
  have hat' : ∀ w ∈ vx_at0 own ic cls names, w.before args s' = true := fun w hw => vx_ot_at hW0 hvm.symm (hgood w (List.mem_cons_of_mem _ (List.mem_cons_of_mem _ hw))) (hat w hw)
  have hk' : (Cond.classLink own ik cls).before args s' = true := vx_ot_at hW0 hvm.symm (hgood _ List.mem_cons_self) hk
  have hini' : (Cond.initialized cls).before args s' = true := vx_ot_at hW0 hvm.symm (hgood _ (List.mem_cons_of_mem _ List.mem_cons_self)) hini
  have hU' : vx_Zq Bundle.tN "UNASSIGNED_STACK" Bundle.steD A s' s'.heap := by rw [hhp]; exact vx_Zq.moved hW0.alike (hU.kept hS.2.1)
  have hN' : vx_Zq Bundle.tN "SUPPRESSED_SENTINEL" Bundle.listD A s' s'.heap := by rw [hhp]; exact vx_Zq.moved hW0.alike (hN.kept hS.2.1)
  have h : ∀ w ∈ Bundle.ownAtoms0 own ic cls names, w.before args s' = true := vx_own hat' (vx_isRefq hU'.1) (vx_isRefq hN'.1) hU'.2.word hN'.2.word
  have hown' : s'.vm.findClass own = some m.cls := by rw [hvm]; exact hown
  have hins : (Cond.instantiable cls 6).before args s' = true := h _ (by simp [Bundle.ownAtoms0])
  obtain ⟨vm₁, cX, kX, hfX, hkX, -, -, X₁, st1⟩ := Y.newCold hexec (own := own) (C := cls) (index := ik) (n := 6) hown' hk' hins hini'
    (g := F0 m pc ls rest) rfl (by rw [hb]; exact d0) (Nat.le_refl _) (Nat.le_refl _)
  generalize hT1 : (T.setVm vm₁).pushCell { cls := cX, slots := kX.instanceTypes.map defaultValue, vm := .none } = T1 at X₁ st1
  have hcat : (Value.ref T.heap.size).category = 1 := rfl
  have hcellA : T1.heap[T.heap.size]? = some (freshCell cX kX) := by rw [← hT1]; exact State.heap_pushCell_size _ _
  have d3' : decode c.code (pc + 3) = .ok (.dup, 1) := by rw [hb]; exact d3
  obtain ⟨U, hsteps, hrun, hend, hW, hsame, ce, hce, hO⟩ := X₁.ctorThrow0 hexec htr (own := own) (cls := cls) (names := names) (ic := ic) hown' hcls hnames h (fun x hx => nomatch hx) hfX hkX hcellA (by rw [hhp, hT]; exact Nat.le_refl _)
    (g := { method := m, pc := pc + 4, locals := ls, stack := .ref T.heap.size :: .ref T.heap.size :: rest, locked := none }) rfl hsize rfl rfl (rest := rest) rfl
    (by rw [hb]; exact d4) (by rw [hb]; exact d7) hout hRframes (by simp only [List.map_cons, List.sum_cons, hcat]; omega) hlocks
  obtain ⟨f1, f2⟩ := vx_frame hsame
  rw [hhp] at f1 f2
  have hWs : s.WarmedH U.vm := State.WarmedH.trans hW0 hW
  have hcl : s.vm.findClass cls = some ce.cls := by
    have h9 := hO.cls
    rw [hvm] at h9
    exact h9
  have hall : s.sameButNew ({ U with vm := s.vm } : State) locs mc ms := by
    subst hA
    obtain ⟨e1, e2⟩ := hsame
    rw [State.setFrames_setFrames] at e1
    have h2 : (T.setVm s.vm).sameButNew ({ U with vm := s.vm } : State) [] (0 + 1) (0 + 6) := ⟨e1, e2⟩
    have h3 := X.same.trans h2
    rw [List.append_nil] at h3
    exact h3.mono hc hs
  refine ⟨U, ?_, .threw T.heap.size, hrun, hend, Or.inr ⟨T.heap.size, rfl, cls, ce, locs, hx U hWs.alike f1 (fun q hq => f2 q hq (fun z hz => nomatch hz)), hce, hO.vm, hcl, hWs, hall, hf⟩⟩
  refine st1 _ ?_
  show Steps p.tables e below (T1.setTop { method := m, pc := pc + 3, locals := ls, stack := .ref T.heap.size :: rest, locked := none }) _
  jvm_step X₁.here [X₁.here.top, hexec, d3', Value.category]
  exact hsteps
/-- 'throw new E("text")': new; dup; ldc; invokespecial; athrow -/
theorem vx_throwS {cc : ByteArray} {pc : Nat} (hexec : p.tables.exec = Jvm.exec) (hb : c.code = cc) (hl : l.stackTraces = false) {own cls text : String} {names : List String} {ik is ic mc ms sa : Nat} {A : Nat → Prop}
    (hown : s.vm.findClass own = some m.cls) (hcls : Bundle.fit cls = true) (hnames : ∀ n ∈ names, Bundle.fit n = true)
    (hk : (Cond.classLink own ik cls).before args s = true) (hini : (Cond.initialized cls).before args s = true) (hstr : vk_R own is text sa s) (hat : ∀ w ∈ vx_atS own ic cls names, w.before args s = true)
    (hgood : ∀ w ∈ Cond.classLink own ik cls :: Cond.initialized cls :: vx_atS own ic cls names, vx_ot w = true)
    (hU : vx_Zq Bundle.tN "UNASSIGNED_STACK" Bundle.steD A s s.heap) (hN : vx_Zq Bundle.tN "SUPPRESSED_SENTINEL" Bundle.listD A s s.heap) (hS : va_S A s.heap H locs) (hsize : ls.size = c.maxLocals)
    (d0 : decode cc pc = .ok (.new ik, 3)) (d3 : decode cc (pc + 3) = .ok (.dup, 1)) (d4 : decode cc (pc + 4) = .ok (.ldc is, 2)) (d6 : decode cc (pc + 6) = .ok (.invokespecial ic, 3)) (d9 : decode cc (pc + 9) = .ok (.athrow, 1))
    (hout : ∀ x ∈ c.exceptionTable.toList, covers x (pc + 9) = false)
    (hRframes : names.length + 3 < R.frames) (hRlocals : (rest.map fun v => v.category).sum + (13 * (names.length + 1) + 43) ≤ R.locals) (hRcells : cells + 1 ≤ R.cells) (hRslots : slots + 6 ≤ R.slots) (hlocks : meth.locks = false)
    (hx : ∀ t : State, s.vm.Alike t.vm → H.size ≤ t.heap.size → (∀ q : Nat, q < H.size → t.heap[q]? = H[q]?) → XC cls s t)
    (hf : ∀ z ∈ locs, free z.base) (hc : cells + 1 ≤ mc) (hs : slots + 6 ≤ ms) :
    W p l e R s m args below meth c H locs cells slots (vx_MQ below Qc XC args s mc ms free) (F0 m pc ls rest) := by
  intro T hT X
  have htr : e.platform.stackTraces = false := (show e.platform.stackTraces = l.stackTraces by rw [X.admits.platform]).trans hl
  have Y := vx_rebase X (R' := { frames := R.frames, locals := R.locals, cells := 1, slots := 6 }) (Nat.le_refl _) (Nat.le_refl _) hRcells hRslots
  obtain ⟨s', hA⟩ : ∃ z, z = (T.setVm s.vm).setFrames (.invoking m args :: below) := ⟨_, rfl⟩
  rw [← hA] at Y
  have hvm : s'.vm = s.vm := by rw [hA]; rfl
  have hhp : s'.heap = H := by rw [hA]; exact hT
  have hW0 : s.WarmedH s'.vm := by rw [hvm]; exact State.WarmedH.refl s
  have hat' : ∀ w ∈ vx_atS own ic cls names, w.before args s' = true := fun w hw => vx_ot_at hW0 hvm.symm (hgood w (List.mem_cons_of_mem _ (List.mem_cons_of_mem _ hw))) (hat w hw)
  have hk' : (Cond.classLink own ik cls).before args s' = true := vx_ot_at hW0 hvm.symm (hgood _ List.mem_cons_self) hk
  have hini' : (Cond.initialized cls).before args s' = true := vx_ot_at hW0 hvm.symm (hgood _ (List.mem_cons_of_mem _ List.mem_cons_self)) hini
  have hU' : vx_Zq Bundle.tN "UNASSIGNED_STACK" Bundle.steD A s' s'.heap := by rw [hhp]; exact vx_Zq.moved hW0.alike (hU.kept hS.2.1)
  have hN' : vx_Zq Bundle.tN "SUPPRESSED_SENTINEL" Bundle.listD A s' s'.heap := by rw [hhp]; exact vx_Zq.moved hW0.alike (hN.kept hS.2.1)
  have h : ∀ w ∈ Bundle.ownAtoms own ic cls names, w.before args s' = true := vx_own hat' (vx_isRefq hU'.1) (vx_isRefq hN'.1) hU'.2.word hN'.2.word
  have hown' : s'.vm.findClass own = some m.cls := by rw [hvm]; exact hown
  have hins : (Cond.instantiable cls 6).before args s' = true := h _ (by simp [Bundle.ownAtoms])
  obtain ⟨vm₁, cX, kX, hfX, hkX, -, -, X₁, st1⟩ := Y.newCold hexec (own := own) (C := cls) (index := ik) (n := 6) hown' hk' hins hini'
    (g := F0 m pc ls rest) rfl (by rw [hb]; exact d0) (Nat.le_refl _) (Nat.le_refl _)
  generalize hT1 : (T.setVm vm₁).pushCell { cls := cX, slots := kX.instanceTypes.map defaultValue, vm := .none } = T1 at X₁ st1
  have hcat : (Value.ref T.heap.size).category = 1 := rfl
  have hcellA : T1.heap[T.heap.size]? = some (freshCell cX kX) := by rw [← hT1]; exact State.heap_pushCell_size _ _
  have d3' : decode c.code (pc + 3) = .ok (.dup, 1) := by rw [hb]; exact d3
  have d4' : decode c.code (pc + 4) = .ok (.ldc is, 2) := by rw [hb]; exact d4
  have hstr' : vk_R own is text sa s' := vk_R.warm hW0 hstr
  obtain ⟨U, hsteps, hrun, hend, hW, hsame, ce, hce, hO⟩ := X₁.ctorThrowS hexec htr (own := own) (cls := cls) (names := names) (ic := ic) hown' hcls hnames h (fun x hx => nomatch hx) hfX hkX hcellA (by rw [hhp, hT]; exact Nat.le_refl _) (msg := .ref sa) rfl
    (g := { method := m, pc := pc + 6, locals := ls, stack := .ref sa :: .ref T.heap.size :: .ref T.heap.size :: rest, locked := none }) rfl hsize rfl rfl (rest := rest) rfl
    (by rw [hb]; exact d6) (by rw [hb]; exact d9) hout hRframes (by simp only [List.map_cons, List.sum_cons, hcat]; omega) hlocks
  obtain ⟨f1, f2⟩ := vx_frame hsame
  rw [hhp] at f1 f2
  have hWs : s.WarmedH U.vm := State.WarmedH.trans hW0 hW
  have hcl : s.vm.findClass cls = some ce.cls := by
    have h9 := hO.cls
    rw [hvm] at h9
    exact h9
  have hall : s.sameButNew ({ U with vm := s.vm } : State) locs mc ms := by
    subst hA
    obtain ⟨e1, e2⟩ := hsame
    rw [State.setFrames_setFrames] at e1
    have h2 : (T.setVm s.vm).sameButNew ({ U with vm := s.vm } : State) [] (0 + 1) (0 + 6) := ⟨e1, e2⟩
    have h3 := X.same.trans h2
    rw [List.append_nil] at h3
    exact h3.mono hc hs
  refine ⟨U, ?_, .threw T.heap.size, hrun, hend, Or.inr ⟨T.heap.size, rfl, cls, ce, locs, hx U hWs.alike f1 (fun q hq => f2 q hq (fun z hz => nomatch hz)), hce, hO.vm, hcl, hWs, hall, hf⟩⟩
  refine st1 _ ?_
  show Steps p.tables e below (T1.setTop { method := m, pc := pc + 3, locals := ls, stack := .ref T.heap.size :: rest, locked := none }) _
  jvm_step X₁.here [X₁.here.top, hexec, d3', Value.category]
  exact X₁.ldcString hexec (own := own) (text := text) (index := is) (a := sa) hown' hstr'.1 hstr'.2
    (g := { method := m, pc := pc + 4, locals := ls, stack := .ref T.heap.size :: .ref T.heap.size :: rest, locked := none }) rfl d4' _ hsteps
/-- 'throw new E("text")', the text by a wide index -/
theorem vx_throwSW {cc : ByteArray} {pc : Nat} (hexec : p.tables.exec = Jvm.exec) (hb : c.code = cc) (hl : l.stackTraces = false) {own cls text : String} {names : List String} {ik is ic mc ms sa : Nat} {A : Nat → Prop}
    (hown : s.vm.findClass own = some m.cls) (hcls : Bundle.fit cls = true) (hnames : ∀ n ∈ names, Bundle.fit n = true)
    (hk : (Cond.classLink own ik cls).before args s = true) (hini : (Cond.initialized cls).before args s = true) (hstr : vk_R own is text sa s) (hat : ∀ w ∈ vx_atS own ic cls names, w.before args s = true)
    (hgood : ∀ w ∈ Cond.classLink own ik cls :: Cond.initialized cls :: vx_atS own ic cls names, vx_ot w = true)
    (hU : vx_Zq Bundle.tN "UNASSIGNED_STACK" Bundle.steD A s s.heap) (hN : vx_Zq Bundle.tN "SUPPRESSED_SENTINEL" Bundle.listD A s s.heap) (hS : va_S A s.heap H locs) (hsize : ls.size = c.maxLocals)
    (d0 : decode cc pc = .ok (.new ik, 3)) (d3 : decode cc (pc + 3) = .ok (.dup, 1)) (d4 : decode cc (pc + 4) = .ok (.ldc_w is, 3)) (d7 : decode cc (pc + 7) = .ok (.invokespecial ic, 3)) (d10 : decode cc (pc + 10) = .ok (.athrow, 1))
    (hout : ∀ x ∈ c.exceptionTable.toList, covers x (pc + 10) = false)
    (hRframes : names.length + 3 < R.frames) (hRlocals : (rest.map fun v => v.category).sum + (13 * (names.length + 1) + 43) ≤ R.locals) (hRcells : cells + 1 ≤ R.cells) (hRslots : slots + 6 ≤ R.slots) (hlocks : meth.locks = false)
    (hx : ∀ t : State, s.vm.Alike t.vm → H.size ≤ t.heap.size → (∀ q : Nat, q < H.size → t.heap[q]? = H[q]?) → XC cls s t)
    (hf : ∀ z ∈ locs, free z.base) (hc : cells + 1 ≤ mc) (hs : slots + 6 ≤ ms) :
    W p l e R s m args below meth c H locs cells slots (vx_MQ below Qc XC args s mc ms free) (F0 m pc ls rest) := by
  intro T hT X
  have htr : e.platform.stackTraces = false := (show e.platform.stackTraces = l.stackTraces by rw [X.admits.platform]).trans hl
  have Y := vx_rebase X (R' := { frames := R.frames, locals := R.locals, cells := 1, slots := 6 }) (Nat.le_refl _) (Nat.le_refl _) hRcells hRslots
  obtain ⟨s', hA⟩ : ∃ z, z = (T.setVm s.vm).setFrames (.invoking m args :: below) := ⟨_, rfl⟩
  rw [← hA] at Y
  have hvm : s'.vm = s.vm := by rw [hA]; rfl
  have hhp : s'.heap = H := by rw [hA]; exact hT
  have hW0 : s.WarmedH s'.vm := by rw [hvm]; exact State.WarmedH.refl s
  have hat' : ∀ w ∈ vx_atS own ic cls names, w.before args s' = true := fun w hw => vx_ot_at hW0 hvm.symm (hgood w (List.mem_cons_of_mem _ (List.mem_cons_of_mem _ hw))) (hat w hw)
  have hk' : (Cond.classLink own ik cls).before args s' = true := vx_ot_at hW0 hvm.symm (hgood _ List.mem_cons_self) hk
  have hini' : (Cond.initialized cls).before args s' = true := vx_ot_at hW0 hvm.symm (hgood _ (List.mem_cons_of_mem _ List.mem_cons_self)) hini
  have hU' : vx_Zq Bundle.tN "UNASSIGNED_STACK" Bundle.steD A s' s'.heap := by rw [hhp]; exact vx_Zq.moved hW0.alike (hU.kept hS.2.1)
  have hN' : vx_Zq Bundle.tN "SUPPRESSED_SENTINEL" Bundle.listD A s' s'.heap := by rw [hhp]; exact vx_Zq.moved hW0.alike (hN.kept hS.2.1)
  have h : ∀ w ∈ Bundle.ownAtoms own ic cls names, w.before args s' = true := vx_own hat' (vx_isRefq hU'.1) (vx_isRefq hN'.1) hU'.2.word hN'.2.word
  have hown' : s'.vm.findClass own = some m.cls := by rw [hvm]; exact hown
  have hins : (Cond.instantiable cls 6).before args s' = true := h _ (by simp [Bundle.ownAtoms])
  obtain ⟨vm₁, cX, kX, hfX, hkX, -, -, X₁, st1⟩ := Y.newCold hexec (own := own) (C := cls) (index := ik) (n := 6) hown' hk' hins hini'
    (g := F0 m pc ls rest) rfl (by rw [hb]; exact d0) (Nat.le_refl _) (Nat.le_refl _)
  generalize hT1 : (T.setVm vm₁).pushCell { cls := cX, slots := kX.instanceTypes.map defaultValue, vm := .none } = T1 at X₁ st1
  have hcat : (Value.ref T.heap.size).category = 1 := rfl
  have hcellA : T1.heap[T.heap.size]? = some (freshCell cX kX) := by rw [← hT1]; exact State.heap_pushCell_size _ _
  have d3' : decode c.code (pc + 3) = .ok (.dup, 1) := by rw [hb]; exact d3
  have d4' : decode c.code (pc + 4) = .ok (.ldc_w is, 3) := by rw [hb]; exact d4
  have hstr' : vk_R own is text sa s' := vk_R.warm hW0 hstr
  obtain ⟨U, hsteps, hrun, hend, hW, hsame, ce, hce, hO⟩ := X₁.ctorThrowS hexec htr (own := own) (cls := cls) (names := names) (ic := ic) hown' hcls hnames h (fun x hx => nomatch hx) hfX hkX hcellA (by rw [hhp, hT]; exact Nat.le_refl _) (msg := .ref sa) rfl
    (g := { method := m, pc := pc + 7, locals := ls, stack := .ref sa :: .ref T.heap.size :: .ref T.heap.size :: rest, locked := none }) rfl hsize rfl rfl (rest := rest) rfl
    (by rw [hb]; exact d7) (by rw [hb]; exact d10) hout hRframes (by simp only [List.map_cons, List.sum_cons, hcat]; omega) hlocks
  obtain ⟨f1, f2⟩ := vx_frame hsame
  rw [hhp] at f1 f2
  have hWs : s.WarmedH U.vm := State.WarmedH.trans hW0 hW
  have hcl : s.vm.findClass cls = some ce.cls := by
    have h9 := hO.cls
    rw [hvm] at h9
    exact h9
  have hall : s.sameButNew ({ U with vm := s.vm } : State) locs mc ms := by
    subst hA
    obtain ⟨e1, e2⟩ := hsame
    rw [State.setFrames_setFrames] at e1
    have h2 : (T.setVm s.vm).sameButNew ({ U with vm := s.vm } : State) [] (0 + 1) (0 + 6) := ⟨e1, e2⟩
    have h3 := X.same.trans h2
    rw [List.append_nil] at h3
    exact h3.mono hc hs
  refine ⟨U, ?_, .threw T.heap.size, hrun, hend, Or.inr ⟨T.heap.size, rfl, cls, ce, locs, hx U hWs.alike f1 (fun q hq => f2 q hq (fun z hz => nomatch hz)), hce, hO.vm, hcl, hWs, hall, hf⟩⟩
  refine st1 _ ?_
  show Steps p.tables e below (T1.setTop { method := m, pc := pc + 3, locals := ls, stack := .ref T.heap.size :: rest, locked := none }) _
  jvm_step X₁.here [X₁.here.top, hexec, d3', Value.category]
  exact X₁.ldcStringW hexec (own := own) (text := text) (index := is) (a := sa) hown' hstr'.1 hstr'.2
    (g := { method := m, pc := pc + 4, locals := ls, stack := .ref T.heap.size :: .ref T.heap.size :: rest, locked := none }) rfl d4' _ hsteps
end Ends
section Bodies
variable {l : Launch}
theorem vx_ofW {y : MethodName} {ws ws' : List Cond} {rm : Room} {Pc : Array Value → State → Prop} {Qc : Array Value → State → Outcome → State → Prop} {XC : String → State → State → Prop} {mc ms : Nat} {free : Addr → Prop} {cc : ByteArray} {maxL : Nat} {ret : Option FieldType}
    (hy : plainName y.cls = true) (hw : ws = Cond.code y cc maxL ret :: ws')
    (body : ∀ p e s m args below meth c s₁, BodyLoose p l y (headSpec ws rm) cc maxL ret e s m args below meth c s₁ → c.maxLocals = maxL → (∀ x ∈ c.exceptionTable.toList, False) → Pc args s →
      W p l e (headSpec ws rm).room s m args below meth c s.heap [] 0 0 (vx_MQ below Qc XC args s mc ms free) (entryFrame m args maxL)) : vx_Met l y ws rm Pc Qc XC mc ms free := by
  refine MetFree.of_bodyS (code := cc) (maxLocals := maxL) (ret := ret) hy ?_ ?_
  · intro args s m h hn
    obtain ⟨meth, c, h1, h2, h3, h4, h5, h6, -, -⟩ := Cond.code_spec hn (atoms_spec (ws := ws) h _ (by rw [hw]; exact List.mem_cons_self))
    exact ⟨meth, c, h1, h2, h3, h4, h5, h6⟩
  · intro p e s m args below meth c s₁ B hml hP _
    have hh0 : s₁.heap = s.heap := by rw [B.state]; rfl
    have ht : ∀ x ∈ c.exceptionTable.toList, False := by
      obtain ⟨meth9, c9, h1, h2, -, -, -, -, h7, -⟩ := Cond.code_spec B.named (atoms_spec (ws := ws) B.pre _ (by rw [hw]; exact List.mem_cons_self))
      cases Option.some.inj (h1.symm.trans B.method)
      cases Option.some.inj (h2.symm.trans (Stand.of_body B).code)
      intro x hx
      rw [Array.isEmpty_iff.mp h7] at hx
      cases hx
    obtain ⟨t, a1, o, b1, b2, b3⟩ := body p e s m args below meth c s₁ B hml ht hP s₁ hh0 (Stand.of_body B)
    exact ⟨t, o, a1, b1, b2, b3⟩
/-- the table of a body with handlers -/
theorem vx_table {p : Program} {x y : MethodName} {S : Spec} {cc bytes : ByteArray} {maxL maxL' : Nat} {ret ret' : Option FieldType} {e : Env} {s s₁ : State} {m : MethodId} {args : Array Value} {below : List Frame} {meth : Method} {c : Code} {hh : List (Nat × Nat × Nat × Nat)}
    (B : BodyLoose p l y S cc maxL ret e s m args below meth c s₁) (h : (Cond.codeWith y bytes maxL' ret' hh).before args s = true) : c.exceptionTable.toList = tableOf hh := by
  obtain ⟨m9, meth9, c9, hn9, h1, h2, -, -, h6, -⟩ := Cond.codeWith_spec h
  cases Option.some.inj (hn9.symm.trans B.named)
  cases Option.some.inj (h1.symm.trans B.method)
  cases Option.some.inj (h2.symm.trans (Stand.of_body B).code)
  rw [← h6, table_eq]
end Bodies
end VXA
/-! ===== END ===== -/
/-! ===== BEGIN a static call of a method with an exception table ===== -/
section VXS
variable {p : Program} {l : Launch} {e : Env} {R : Room} {s : State} {m : MethodId} {args : Array Value} {below : List Frame} {meth : Method} {c : Code} {T : State} {H : Heap} {locs : List Loc} {cells slots : Nat}
abbrev vx_CSW (R : Room) (s : State) (args : Array Value) (own : String) (index : Nat) (y : MethodName) (bytes : ByteArray) (maxL : Nat) (ret : Option FieldType) (hh : List (Nat × Nat × Nat × Nat)) (ws : List Cond) (rm : Room) (mc ms n : Nat) : Prop :=
  (rm.cells = mc ∧ rm.slots = ms ∧ rm.frames + 1 ≤ R.frames ∧ 8 + (maxL + 11) + rm.locals ≤ R.locals ∧ (∀ w ∈ ws, ∀ (a' : Array Value) (U : State), s.WarmedH U.vm → w.before a' U = true) ∧ Cond.codeWith y bytes maxL ret hh ∈ ws) ∧
  (Cond.codeWith y bytes maxL ret hh).before args s = true ∧ (Cond.initialized y.cls).before args s = true ∧ (y.cls ≠ "java/lang/invoke/MethodHandle" ∧ y.cls ≠ "java/lang/invoke/VarHandle") ∧
  (∀ sig, parseMethodDescriptor y.desc = some sig → n = sig.parameters.length) ∧ (Cond.methodLink own index y).before args s = true ∧ (Cond.static y).before args s = true
theorem vx_cwSW {own : String} {index maxL mc ms : Nat} {y : MethodName} {bytes : ByteArray} {ret : Option FieldType} {hh : List (Nat × Nat × Nat × Nat)} {Ts ws ws' : List Cond} {rm : Room} (n : Nat) (ht : ∀ w ∈ Ts, w.before args s = true) (hT : GoodIn Ts (va_wsS own index y ws)) (hw : ws = Cond.codeWith y bytes maxL ret hh :: ws') (hrc : rm.cells = mc) (hrs : rm.slots = ms)
    (hd : y.cls ≠ "java/lang/invoke/MethodHandle" ∧ y.cls ≠ "java/lang/invoke/VarHandle" ∧ (parseMethodDescriptor y.desc).map (fun d => d.parameters.length) = some n) (hR : rm.frames + 1 ≤ R.frames ∧ 8 + (maxL + 11) + rm.locals ≤ R.locals) :
    vx_CSW R s args own index y bytes maxL ret hh ws rm mc ms n := by
  have ok : ∀ w ∈ va_wsS own index y ws, w.before args s = true := fun w h => ht w (hT w h).1
  have hG : GoodIn Ts ws := fun w h => hT w (by unfold va_wsS; exact List.mem_append_right _ h)
  have hc : Cond.codeWith y bytes maxL ret hh ∈ ws := by rw [hw]; exact List.mem_cons_self
  refine ⟨⟨hrc, hrs, hR.1, hR.2, pay_in ht hG, hc⟩, ht _ (hG _ hc).1, ok _ (by simp [va_wsS]), ⟨hd.1, hd.2.1⟩, fun sig h => ?_, ok _ (by simp [va_wsS]), ok _ (by simp [va_wsS])⟩
  have h2 := hd.2.2
  rw [h] at h2
  exact (Option.some.inj h2).symm
theorem vx_callSW (X : Stand p l e R s m args below meth c T locs cells slots) (hexec : p.tables.exec = Jvm.exec) {own : String} {index : Nat} {y : MethodName} {bytes : ByteArray} {maxL : Nat} {ret : Option FieldType} {hh : List (Nat × Nat × Nat × Nat)}
    (hown : s.vm.findClass own = some m.cls) (hlink : (Cond.methodLink own index y).before args s = true) (hstat : (Cond.static y).before args s = true) (hinit : (Cond.initialized y.cls).before args s = true)
    (hcode : (Cond.codeWith y bytes maxL ret hh).before args s = true) (hy : y.cls ≠ "java/lang/invoke/MethodHandle" ∧ y.cls ≠ "java/lang/invoke/VarHandle")
    {W9 : Nat} {Pre : Pt → Array Value → Prop} {Post : Pt → Array Value → Option Value → Pt → Prop} (hK : Back l R p e below s args y 3 W9 Pre Post)
    {g : JFrame} (hg : g.method = m) (hsize : g.locals.size = c.maxLocals) {argsL rest : List Value} (hlen : ∀ sig, parseMethodDescriptor y.desc = some sig → argsL.length = sig.parameters.length)
    (hstack : g.stack = argsL.reverse ++ rest) (hW : 2 * g.monitorRoom + (rest.map fun v => v.category).sum ≤ W9) (hdg : decode c.code g.pc = .ok (.invokestatic index, 3))
    (hpre : ∀ vm₁, s.WarmedH vm₁ → Pre ⟨T.setVm vm₁, locs, cells, slots⟩ argsL.toArray) :
    ∃ (v : Option Value) (vm₁ : Vm) (B : Pt), s.WarmedH vm₁ ∧ Stand p l e R s m args below meth c B.U B.locs B.cells B.slots ∧ Post ⟨T.setVm vm₁, locs, cells, slots⟩ argsL.toArray v B ∧
      ∀ target, Steps p.tables e below (B.U.setTop { g with pc := g.pc + 3, stack := v.toList ++ rest }) target → Steps p.tables e below (T.setTop g) target := by
  obtain ⟨mk, methM, cM, hnamed, hmethM, -, -, -, -, -, -, hsigM⟩ := Cond.codeWith_spec hcode
  have hstatic : methM.isStatic = true := Cond.static_spec hnamed hmethM hstat
  obtain ⟨kP, hkP, -⟩ := className_of_methodNamed hnamed
  have hinitP : kP.init = .initialized := Cond.initialized_spec (findClass_of_methodNamed hnamed) hkP hinit
  obtain ⟨vm₁, X₁, hstep₁⟩ := X.invokestatic hexec hown hlink hnamed hmethM hstatic hkP hinitP hy (g := g) hg (argsL := argsL) (rest := rest) (hlen _ hsigM) hstack hdg
  obtain ⟨v, B, X', hpost, hsteps⟩ := hK m meth c ⟨T.setVm vm₁, locs, cells, slots⟩ { g with stack := rest } (.invokestatic index) mk argsL.toArray X₁ hg hsize hdg hW (X₁.named hnamed) (hpre vm₁ X₁.warmed)
  exact ⟨v, vm₁, B, X₁.warmed, X', hpost, fun target h => hstep₁ _ fun acts => by rw [doInvoke_state]; exact hsteps.trans h⟩
theorem vx_runSW {y : MethodName} {bytes cc : ByteArray} {maxL nL mc ms n index : Nat} {ret : Option FieldType} {hh : List (Nat × Nat × Nat × Nat)} {ws : List Cond} {rm : Room} {Pc : Array Value → State → Prop} {Qc : Array Value → State → Outcome → State → Prop} {free : Addr → Prop} {Ts : List Cond} {own : String} {As rest : List Value} {g : JFrame}
    (S : CallFix p m c cc nL s args Ts own) (hM : Met l y ws rm Pc Qc mc ms free) (cw : vx_CSW R s args own index y bytes maxL ret hh ws rm mc ms n) (hp : PreS s H Pc As)
    (hg : g.method = m) (hn : As.length = n) (hsize : g.locals.size = nL) (hstack : g.stack = As.reverse ++ rest) (hW : 2 * g.monitorRoom + (rest.map fun v => v.category).sum ≤ 8) (hdg : decode cc g.pc = .ok (.invokestatic index, 3)) (hf : cells + mc ≤ R.cells ∧ slots + ms ≤ R.slots) :
    va_Run p l e R s m args below meth c H locs cells slots mc ms g rest (Qc As.toArray) (free) := by
  obtain ⟨⟨hrc, hrs, hfr, hlo, hws, hcw⟩, hcode, hini, hy, hlen, hl, hstt⟩ := cw
  have hK : Back l R p e below s args y 3 8 (PreOf R mc ms Pc) (PostOf Qc mc ms free) := va_backW (hh := hh) (bytes := bytes) (maxL := maxL) (ret := ret) hM hp.1 hrc hrs hfr hlo hws hcw (fun a' U hW => word_at hW (Or.inl (by first | rfl | simp [Cond.onTables, Cond.keeps, Cond.steady])) hini)
  obtain ⟨hx, hb, hml, ho, -⟩ := S
  intro T hT X
  obtain ⟨v, vm₁, ⟨U', l2, c2, s2⟩, hW₁, X', ⟨g', mk, t, L, e1, e2, hq, h1, hL, h2, h3⟩, st⟩ := vx_callSW X hx (hh := hh) (bytes := bytes) (maxL := maxL) (ret := ret) ho hl hstt hini hcode hy hK hg (hsize.trans hml.symm) (argsL := As) (rest := rest) (fun sig h => hn.trans (hlen sig h)) hstack hW (by rw [hb]; exact hdg)
    (fun vm₁ hW₁ => ⟨hf.1, hf.2, hp.2 (T.setVm vm₁) hT hW₁⟩)
  dsimp only [Pt.U, Pt.locs, Pt.cells, Pt.slots] at X' e1 e2 h1 h2 h3 st
  subst h1; subst h2; subst h3
  exact ⟨v, (T.setVm vm₁).calling g' mk As.toArray, t, U', L, hT, X', hL, e1, e2, hq, st⟩
/-- not caught here, past rows that name other classes: it goes on to the caller -/
theorem vx_outP {p : Program} {l : Launch} {e : Env} {R : Room} {s : State} {m : MethodId} {args : Array Value} {below : List Frame} {meth : Method} {c : Code} {H : Heap} {locs : List Loc} {cells slots : Nat} {free : Addr → Prop} {ls : Array Slot} {rest : List Value} {Qc : Array Value → State → Outcome → State → Prop} {XC : String → State → State → Prop}
    {pc : Nat} {own E : String} {ce : Cell} {q : Addr} {mc ms : Nat} (hown : s.vm.findClass own = some m.cls) (hlocks : meth.locks = false)
    (hpass : ∀ z ∈ c.exceptionTable.toList, covers z pc = false ∨ (z.catchType ≠ 0 ∧ ∃ nm : String, (Cond.classLink own z.catchType nm).before args s = true ∧ va_Nc E nm s)) (hcell : H[q]? = some ce) (hv : ce.vm = .none) (hcl : s.vm.findClass E = some ce.cls)
    (hx : ∀ t : State, t.heap = H → s.vm.Alike t.vm → XC E s t) (hf : ∀ z ∈ locs, free z.base) (hc : cells ≤ mc) (hs : slots ≤ ms) :
    vx_W p l e R s m args below meth c H locs cells slots (vx_MQ below Qc XC args s mc ms free) (F0 m pc ls rest) q := by
  intro T hT X
  have hpl : e.platform.magicAccessors = ({} : Platform).magicAccessors := by rw [X.admits.platform]
  obtain ⟨vm', hW', X', st⟩ := X.outThrough hlocks q (g := F0 m pc ls rest) rfl rfl rfl (cell := ce) (by rw [hT]; exact hcell) (by rw [hv]; rfl)
    (by obtain ⟨k9, h9, -⟩ := Vm.findClass_spec hcl; exact ⟨k9, h9⟩) (fun z hz => by
      rcases hpass z hz with h | ⟨hz0, nm, hl1, hn1⟩
      · exact Or.inl h
      · obtain ⟨c6, hc6, hcl6⟩ := Cond.classLink_spec hown hl1 e.platform hpl
        obtain ⟨a8, b8, h1, h2, h3⟩ := hn1
        cases Option.some.inj (h1.symm.trans hcl)
        cases Option.some.inj (h2.symm.trans hc6)
        exact Or.inr ⟨hz0, _, hcl6, h3⟩)
  obtain ⟨g₀, hfr⟩ := X'.frames_eq
  have hcell9 : ((T.setVm vm').setFrames (.throwing q :: below)).heap[q]? = some ce := by
    show T.heap[q]? = some ce
    rw [hT]; exact hcell
  have hend : Ended ((T.setVm vm').setFrames (.throwing q :: below)) below (.threw q) := State.frames_setFrames _ (State.cur_lt_of_frames hfr)
  refine ⟨(T.setVm vm').setFrames (.throwing q :: below), ?_, .threw q, X'.here.running, hend, Or.inr ⟨q, rfl, E, ce, locs, hx _ hT (X'.ends _).1.alike, hcell9, hv, hcl, (X'.ends _).1, (X'.ends _).2.mono hc hs, hf⟩⟩
  rw [X.pushThrowing_eq]
  exact st
/-- a thing of a world lies in the heap -/
theorem vx_lt {D : va_G} {cl : List vw_C} {ws : va_W} {H1 : Heap} (h : va_P D cl ws H1) {k : Nat} {q : Nat × va_E} (hk : ws[k]? = some q) : q.1 < H1.size := (h k q hk).lt
end VXS
/-! ===== END ===== -/
/-! ===== BEGIN methods with a table of their own: called by a name, returning or throwing ===== -/
section VXH
/-! vx_backW, vx_callVX, vx_callSX, vx_callVW, vx_runVW, vx_runVX, vx_runSX, vx_ofWH follow the same proofs as their sisters above (Free/Laws.lean, Shelf42/LK1.lean); vx_outP calls Shelf42/NT130.lean (outThrough). -/
section
variable {l : Launch} {R : Room} {p : Program} {e : Env} {below : List Frame} {s : State} {sargs : Array Value} {y : MethodName} {len W9 : Nat}
theorem vx_backW {ws : List Cond} {rm : Room} {Pc : Array Value → State → Prop} {Qc : Array Value → State → Outcome → State → Prop} {XC : String → State → State → Prop} {mc ms : Nat} {free : Addr → Prop} {bytes : ByteArray} {maxL : Nat} {ret : Option FieldType} {hh : List (Nat × Nat × Nat × Nat)}
    (hM : vx_Met l y ws rm Pc Qc XC mc ms free) (hblind : FrameBlind Pc) (hrc : rm.cells = mc) (hrs : rm.slots = ms)
    (hframes : rm.frames + 1 ≤ R.frames) (hlocals : W9 + (maxL + 11) + rm.locals ≤ R.locals)
    (hws : ∀ w ∈ ws, ∀ a' U, s.WarmedH U.vm → w.before a' U = true) (hcode : Cond.codeWith y bytes maxL ret hh ∈ ws) (hinit : ∀ a' U, s.WarmedH U.vm → (Cond.initialized y.cls).before a' U = true) :
    vx_Back l R p e below s sargs y len W9 (PreOf R mc ms Pc) (PostOf Qc mc ms free) (vx_Post XC mc ms free) := by
  intro m meth c A g ig mk a X hg hsize hdg hW hn hp
  have h1 : (headSpec ws rm).pre.before a A.U = true := atoms_intro fun w hw => hws w hw _ _ X.warmed
  have h2 : (Cond.codeWith y bytes maxL ret hh).before a A.U = true := hws _ hcode _ _ X.warmed
  have h3 : (Cond.initialized y.cls).before a A.U = true := hinit _ _ X.warmed
  have h4 : A.cells + (headSpec ws rm).room.cells ≤ R.cells := by rw [show (headSpec ws rm).room.cells = mc from hrc]; exact hp.1
  have h5 : A.slots + (headSpec ws rm).room.slots ≤ R.slots := by rw [show (headSpec ws rm).room.slots = ms from hrs]; exact hp.2.1
  have hPc : Pc a (A.U.calling g mk a) := hblind _ _ _ _ hp.2.2
  obtain ⟨U, Ls, c0, s0⟩ := A
  dsimp only [Pt.U, Pt.locs, Pt.cells, Pt.slots] at h1 h2 h3 h4 h5 X hn hPc ⊢
  obtain ⟨m9, methY, cY, hn9, hmY, hcY, -, hlY, -⟩ := Cond.codeWith_spec h2
  cases Option.some.inj (hn9.symm.trans hn)
  obtain ⟨kY, hkY, -⟩ := className_of_methodNamed hn
  have hinitY : kY.init = .initialized := Cond.initialized_spec (findClass_of_methodNamed hn) hkY h3
  have h : At U g.method c below := by rw [hg]; exact X.here
  have hlocals9 : W9 + (maxL + 11) + (headSpec ws rm).room.locals ≤ R.locals := hlocals
  have happ : (headSpec ws rm).appliesLoose y e.platform (U.calling g mk a) = true :=
    Spec.appliesLoose_calling (g := g) h hdg hn hkY hinitY
      (X.room_calling (g := g) (R' := (headSpec ws rm).room) hsize hmY hcY hframes (by rw [hlY]; omega) h4 h5) h1
  obtain ⟨mid, hmid⟩ := h.above
  have hfr : (U.setTop g).frames = (.java g :: mid) ++ below := by rw [State.frames_setTop' g h.top, hmid]; rfl
  obtain ⟨o, s₂, hsteps, -, hend, hq⟩ := Steps.callFree hM p X.admits X.cas X.clock (acts := []) hfr happ hPc trivial
  have hq' : vx_Q Qc XC mc ms free a (U.calling g mk a) o s₂ := hq
  rw [State.frames_setTop' g h.top] at hend
  obtain ⟨g₀, hg0⟩ := Option.isSome_iff_exists.mp h.top
  obtain ⟨r, hr⟩ := State.topJava?_eq_some.mp hg0
  have hr' : (({ U with heap := s₂.heap, slotsUsed := s₂.slotsUsed } : State).setVm s₂.vm).frames = .java g₀ :: r := hr
  rcases hq' with ⟨hqc, L, hfe, hL⟩ | ⟨q, rfl, E, ce, L, hx, hce, hcv, hcl, hW₂, hsm, hL⟩
  · obtain ⟨⟨v, rfl⟩, hW₂, e2, q2, q3, q4, q5, q6⟩ := id hfe
    have e3 : s₂ = ({ (U.calling g mk a).setFrames s₂.frames with heap := s₂.heap, slotsUsed := s₂.slotsUsed } : State).setVm s₂.vm := by
      have : s₂ = ({ s₂ with vm := (U.calling g mk a).vm } : State).setVm s₂.vm := rfl
      rw [e2] at this
      exact this
    obtain ⟨c₂, i₂, len₂, hc₂, hd₂, hf₂⟩ := hend
    have hW' : U.WarmedH s₂.vm := hW₂
    have hcc : c₂ = c := by
      have h1 : s₂.code? g.method = U.code? g.method := by
        rw [State.code?_eq, State.code?_eq, hW'.alike.method?]
      exact Option.some.inj (hc₂.symm.trans (h1.trans h.code))
    subst hcc
    have hlen : len₂ = len := by rw [hdg] at hd₂; cases hd₂; rfl
    subst hlen
    have hs₂ : s₂ = (({ U with heap := s₂.heap, slotsUsed := s₂.slotsUsed } : State).setVm s₂.vm).setTop { g with pc := g.pc + len₂, stack := v.toList ++ g.stack } := by
      refine e3.trans ?_
      rw [hf₂, State.calling_eq h.top, State.setFrames_setFrames, State.setTop_of_frames _ hr', hr]
      rfl
    have hsame : U.sameButNew ({ U with heap := s₂.heap, slotsUsed := s₂.slotsUsed } : State) L mc ms := by
      refine ⟨?_, q2, q3, q4, q5, q6⟩
      obtain ⟨t, ht, -⟩ := State.frames_cons hr
      show ({ U with heap := s₂.heap, slotsUsed := s₂.slotsUsed } : State) = { U.setFrames U.frames with heap := s₂.heap, slotsUsed := s₂.slotsUsed }
      rw [State.setFrames_self ht]
    subst hg
    refine Or.inl ⟨v, ⟨(({ U with heap := s₂.heap, slotsUsed := s₂.slotsUsed } : State).setVm s₂.vm), Ls ++ L, c0 + mc, s0 + ms⟩,
      ⟨X.admits, X.cas, X.clock, X.frames, X.room, X.hears, X.method, X.code, (X.here.setHeapUsed s₂.heap s₂.slotsUsed).setVm hW'.alike, X.tail, State.WarmedH.trans X.warmed hW', X.limits, X.bytes, X.same.trans (hsame.setVm s.vm)⟩,
      ⟨g, mk, s₂, L, rfl, rfl, hqc, rfl, hL, rfl, rfl⟩, ?_⟩
    show Steps p.tables e below _ ((({ U with heap := s₂.heap, slotsUsed := s₂.slotsUsed } : State).setVm s₂.vm).setTop { g with pc := g.pc + len₂, stack := v.toList ++ g.stack })
    rw [← hs₂]
    exact hsteps
  · obtain ⟨e2, q2, q3, q4, q5, q6⟩ := id hsm
    have e3 : s₂ = ({ (U.calling g mk a).setFrames s₂.frames with heap := s₂.heap, slotsUsed := s₂.slotsUsed } : State).setVm s₂.vm := by
      have : s₂ = ({ s₂ with vm := (U.calling g mk a).vm } : State).setVm s₂.vm := rfl
      rw [e2] at this
      exact this
    have hf₂ : s₂.frames = .throwing q :: .java g :: U.frames.tail := hend
    have hW' : U.WarmedH s₂.vm := hW₂
    have hs₂ : s₂ = ((({ U with heap := s₂.heap, slotsUsed := s₂.slotsUsed } : State).setVm s₂.vm).setTop g).pushFrame (.throwing q) := by
      refine e3.trans ?_
      rw [hf₂, State.calling_eq h.top, State.setFrames_setFrames, State.pushFrame, State.frames_setTop _ hr', State.setTop_of_frames _ hr', State.setFrames_setFrames, hr]
      rfl
    have hsame : U.sameButNew ({ U with heap := s₂.heap, slotsUsed := s₂.slotsUsed } : State) L mc ms := by
      refine ⟨?_, q2, q3, q4, q5, q6⟩
      obtain ⟨t, ht, -⟩ := State.frames_cons hr
      show ({ U with heap := s₂.heap, slotsUsed := s₂.slotsUsed } : State) = { U.setFrames U.frames with heap := s₂.heap, slotsUsed := s₂.slotsUsed }
      rw [State.setFrames_self ht]
    subst hg
    refine Or.inr ⟨q, ⟨(({ U with heap := s₂.heap, slotsUsed := s₂.slotsUsed } : State).setVm s₂.vm), Ls ++ L, c0 + mc, s0 + ms⟩,
      ⟨X.admits, X.cas, X.clock, X.frames, X.room, X.hears, X.method, X.code, (X.here.setHeapUsed s₂.heap s₂.slotsUsed).setVm hW'.alike, X.tail, State.WarmedH.trans X.warmed hW', X.limits, X.bytes, X.same.trans (hsame.setVm s.vm)⟩,
      ⟨g, mk, s₂, L, E, ce, rfl, rfl, hx, hce, hcv, hcl, rfl, hL, rfl, rfl⟩, ?_⟩
    show Steps p.tables e below _ (((({ U with heap := s₂.heap, slotsUsed := s₂.slotsUsed } : State).setVm s₂.vm).setTop g).pushFrame (.throwing q))
    rw [← hs₂]
    exact hsteps
end
variable {p : Program} {l : Launch} {e : Env} {R : Room} {s : State} {m : MethodId} {args : Array Value} {below : List Frame} {meth : Method} {c : Code} {T : State} {H : Heap} {locs : List Loc} {cells slots : Nat}
theorem vx_callVX (X : Stand p l e R s m args below meth c T locs cells slots) (hexec : p.tables.exec = Jvm.exec) {own C : String} {index : Nat} {y : MethodName} {bytes : ByteArray} {maxL : Nat} {ret : Option FieldType} {hh : List (Nat × Nat × Nat × Nat)}
    (hown : s.vm.findClass own = some m.cls) (hlink : (Cond.methodLink own index y).before args s = true) (hinst : (Cond.instanceMethod y).before args s = true) (hsel : (Cond.selects C y y).before args s = true)
    (hcode : (Cond.codeWith y bytes maxL ret hh).before args s = true) (hy : y.cls ≠ "java/lang/invoke/MethodHandle" ∧ y.cls ≠ "java/lang/invoke/VarHandle")
    {W9 : Nat} {Pre : Pt → Array Value → Prop} {Post : Pt → Array Value → Option Value → Pt → Prop} {PostX : Pt → Array Value → Addr → Pt → Prop} (hK : vx_Back l R p e below s args y 3 W9 Pre Post PostX)
    {b : Addr} {cellB : Cell} (hcell : T.heap[b]? = some cellB) (hobj : cellB.vm.isStatics = false) (hcls : s.vm.findClass C = some cellB.cls)
    {g : JFrame} (hg : g.method = m) (hsize : g.locals.size = c.maxLocals) {argsL rest : List Value} (hlen : ∀ sig, parseMethodDescriptor y.desc = some sig → argsL.length = sig.parameters.length)
    (hstack : g.stack = argsL.reverse ++ .ref b :: rest) (hW : 2 * g.monitorRoom + (rest.map fun v => v.category).sum ≤ W9) (hdg : decode c.code g.pc = .ok (.invokevirtual index, 3))
    (hpre : ∀ vm₁, s.WarmedH vm₁ → Pre ⟨T.setVm vm₁, locs, cells, slots⟩ (Value.ref b :: argsL).toArray) :
    (∃ (v : Option Value) (vm₁ : Vm) (B : Pt), s.WarmedH vm₁ ∧ Stand p l e R s m args below meth c B.U B.locs B.cells B.slots ∧ Post ⟨T.setVm vm₁, locs, cells, slots⟩ (Value.ref b :: argsL).toArray v B ∧
      ∀ target, Steps p.tables e below (B.U.setTop { g with pc := g.pc + 3, stack := v.toList ++ rest }) target → Steps p.tables e below (T.setTop g) target) ∨
    (∃ (q : Addr) (vm₁ : Vm) (B : Pt), s.WarmedH vm₁ ∧ Stand p l e R s m args below meth c B.U B.locs B.cells B.slots ∧ PostX ⟨T.setVm vm₁, locs, cells, slots⟩ (Value.ref b :: argsL).toArray q B ∧
      Steps p.tables e below (T.setTop g) ((B.U.setTop { g with stack := rest }).pushFrame (.throwing q))) := by
  obtain ⟨mk, methM, hnamed, hmethM, hstM, habM⟩ := Cond.instanceMethod_spec hinst
  obtain ⟨m8, methM', cM, hn8, hmethM', -, -, -, -, -, -, hsigM⟩ := Cond.codeWith_spec hcode
  cases Option.some.inj (hn8.symm.trans hnamed)
  cases hmethM.symm.trans hmethM'
  obtain ⟨c2, r2, m2, q1, q2, q3, q4, kP, hkP, hkPi⟩ := Cond.selects_spec hsel
  cases hcls.symm.trans q1
  cases (State.methodFound?_of_named hnamed hy).symm.trans q2
  cases hnamed.symm.trans q3
  have hselP : selectMethod e.platform s.vm cellB.cls mk = .method mk := by rw [Launch.admits_selectMethod X.admits]; exact q4
  obtain ⟨vm₁, X₁, hstep₁⟩ := X.invokevirtual hexec hown hlink hnamed hmethM hstM hkP hkPi hy (a := b) (cell := cellB) hcell
    (fun z h => by rw [h] at hobj; cases hobj) hselP hmethM habM hkP hkPi (g := g) hg (argsL := argsL) (rest := rest) (hlen _ hsigM) hstack hdg
  rcases hK m meth c ⟨T.setVm vm₁, locs, cells, slots⟩ { g with stack := rest } (.invokevirtual index) mk (Value.ref b :: argsL).toArray X₁ hg hsize hdg hW (X₁.named hnamed) (hpre vm₁ X₁.warmed) with ⟨v, B, X', hpost, hsteps⟩ | ⟨q, B, X', hpost, hsteps⟩
  · exact Or.inl ⟨v, vm₁, B, X₁.warmed, X', hpost, fun target h => hstep₁ _ fun acts => by rw [doInvoke_state]; exact hsteps.trans h⟩
  · exact Or.inr ⟨q, vm₁, B, X₁.warmed, X', hpost, hstep₁ _ fun acts => by rw [doInvoke_state]; exact hsteps⟩
theorem vx_callSX (X : Stand p l e R s m args below meth c T locs cells slots) (hexec : p.tables.exec = Jvm.exec) {own : String} {index : Nat} {y : MethodName} {bytes : ByteArray} {maxL : Nat} {ret : Option FieldType} {hh : List (Nat × Nat × Nat × Nat)}
    (hown : s.vm.findClass own = some m.cls) (hlink : (Cond.methodLink own index y).before args s = true) (hstat : (Cond.static y).before args s = true) (hinit : (Cond.initialized y.cls).before args s = true)
    (hcode : (Cond.codeWith y bytes maxL ret hh).before args s = true) (hy : y.cls ≠ "java/lang/invoke/MethodHandle" ∧ y.cls ≠ "java/lang/invoke/VarHandle")
    {W9 : Nat} {Pre : Pt → Array Value → Prop} {Post : Pt → Array Value → Option Value → Pt → Prop} {PostX : Pt → Array Value → Addr → Pt → Prop} (hK : vx_Back l R p e below s args y 3 W9 Pre Post PostX)
    {g : JFrame} (hg : g.method = m) (hsize : g.locals.size = c.maxLocals) {argsL rest : List Value} (hlen : ∀ sig, parseMethodDescriptor y.desc = some sig → argsL.length = sig.parameters.length)
    (hstack : g.stack = argsL.reverse ++ rest) (hW : 2 * g.monitorRoom + (rest.map fun v => v.category).sum ≤ W9) (hdg : decode c.code g.pc = .ok (.invokestatic index, 3))
    (hpre : ∀ vm₁, s.WarmedH vm₁ → Pre ⟨T.setVm vm₁, locs, cells, slots⟩ argsL.toArray) :
    (∃ (v : Option Value) (vm₁ : Vm) (B : Pt), s.WarmedH vm₁ ∧ Stand p l e R s m args below meth c B.U B.locs B.cells B.slots ∧ Post ⟨T.setVm vm₁, locs, cells, slots⟩ argsL.toArray v B ∧
      ∀ target, Steps p.tables e below (B.U.setTop { g with pc := g.pc + 3, stack := v.toList ++ rest }) target → Steps p.tables e below (T.setTop g) target) ∨
    (∃ (q : Addr) (vm₁ : Vm) (B : Pt), s.WarmedH vm₁ ∧ Stand p l e R s m args below meth c B.U B.locs B.cells B.slots ∧ PostX ⟨T.setVm vm₁, locs, cells, slots⟩ argsL.toArray q B ∧
      Steps p.tables e below (T.setTop g) ((B.U.setTop { g with stack := rest }).pushFrame (.throwing q))) := by
  obtain ⟨mk, methM, cM, hnamed, hmethM, -, -, -, -, -, -, hsigM⟩ := Cond.codeWith_spec hcode
  have hstatic : methM.isStatic = true := Cond.static_spec hnamed hmethM hstat
  obtain ⟨kP, hkP, -⟩ := className_of_methodNamed hnamed
  have hinitP : kP.init = .initialized := Cond.initialized_spec (findClass_of_methodNamed hnamed) hkP hinit
  obtain ⟨vm₁, X₁, hstep₁⟩ := X.invokestatic hexec hown hlink hnamed hmethM hstatic hkP hinitP hy (g := g) hg (argsL := argsL) (rest := rest) (hlen _ hsigM) hstack hdg
  rcases hK m meth c ⟨T.setVm vm₁, locs, cells, slots⟩ { g with stack := rest } (.invokestatic index) mk argsL.toArray X₁ hg hsize hdg hW (X₁.named hnamed) (hpre vm₁ X₁.warmed) with ⟨v, B, X', hpost, hsteps⟩ | ⟨q, B, X', hpost, hsteps⟩
  · exact Or.inl ⟨v, vm₁, B, X₁.warmed, X', hpost, fun target h => hstep₁ _ fun acts => by rw [doInvoke_state]; exact hsteps.trans h⟩
  · exact Or.inr ⟨q, vm₁, B, X₁.warmed, X', hpost, hstep₁ _ fun acts => by rw [doInvoke_state]; exact hsteps⟩
theorem vx_callVW (X : Stand p l e R s m args below meth c T locs cells slots) (hexec : p.tables.exec = Jvm.exec) {own C : String} {index : Nat} {y : MethodName} {bytes : ByteArray} {maxL : Nat} {ret : Option FieldType} {hh : List (Nat × Nat × Nat × Nat)}
    (hown : s.vm.findClass own = some m.cls) (hlink : (Cond.methodLink own index y).before args s = true) (hinst : (Cond.instanceMethod y).before args s = true) (hsel : (Cond.selects C y y).before args s = true)
    (hcode : (Cond.codeWith y bytes maxL ret hh).before args s = true) (hy : y.cls ≠ "java/lang/invoke/MethodHandle" ∧ y.cls ≠ "java/lang/invoke/VarHandle")
    {W9 : Nat} {Pre : Pt → Array Value → Prop} {Post : Pt → Array Value → Option Value → Pt → Prop} (hK : Back l R p e below s args y 3 W9 Pre Post)
    {b : Addr} {cellB : Cell} (hcell : T.heap[b]? = some cellB) (hobj : cellB.vm.isStatics = false) (hcls : s.vm.findClass C = some cellB.cls)
    {g : JFrame} (hg : g.method = m) (hsize : g.locals.size = c.maxLocals) {argsL rest : List Value} (hlen : ∀ sig, parseMethodDescriptor y.desc = some sig → argsL.length = sig.parameters.length)
    (hstack : g.stack = argsL.reverse ++ .ref b :: rest) (hW : 2 * g.monitorRoom + (rest.map fun v => v.category).sum ≤ W9) (hdg : decode c.code g.pc = .ok (.invokevirtual index, 3))
    (hpre : ∀ vm₁, s.WarmedH vm₁ → Pre ⟨T.setVm vm₁, locs, cells, slots⟩ (Value.ref b :: argsL).toArray) :
    ∃ (v : Option Value) (vm₁ : Vm) (B : Pt), s.WarmedH vm₁ ∧ Stand p l e R s m args below meth c B.U B.locs B.cells B.slots ∧ Post ⟨T.setVm vm₁, locs, cells, slots⟩ (Value.ref b :: argsL).toArray v B ∧
      ∀ target, Steps p.tables e below (B.U.setTop { g with pc := g.pc + 3, stack := v.toList ++ rest }) target → Steps p.tables e below (T.setTop g) target := by
  obtain ⟨mk, methM, hnamed, hmethM, hstM, habM⟩ := Cond.instanceMethod_spec hinst
  obtain ⟨m8, methM', cM, hn8, hmethM', -, -, -, -, -, -, hsigM⟩ := Cond.codeWith_spec hcode
  cases Option.some.inj (hn8.symm.trans hnamed)
  cases hmethM.symm.trans hmethM'
  obtain ⟨c2, r2, m2, q1, q2, q3, q4, kP, hkP, hkPi⟩ := Cond.selects_spec hsel
  cases hcls.symm.trans q1
  cases (State.methodFound?_of_named hnamed hy).symm.trans q2
  cases hnamed.symm.trans q3
  have hselP : selectMethod e.platform s.vm cellB.cls mk = .method mk := by rw [Launch.admits_selectMethod X.admits]; exact q4
  obtain ⟨vm₁, X₁, hstep₁⟩ := X.invokevirtual hexec hown hlink hnamed hmethM hstM hkP hkPi hy (a := b) (cell := cellB) hcell
    (fun z h => by rw [h] at hobj; cases hobj) hselP hmethM habM hkP hkPi (g := g) hg (argsL := argsL) (rest := rest) (hlen _ hsigM) hstack hdg
  obtain ⟨v, B, X', hpost, hsteps⟩ := hK m meth c ⟨T.setVm vm₁, locs, cells, slots⟩ { g with stack := rest } (.invokevirtual index) mk (Value.ref b :: argsL).toArray X₁ hg hsize hdg hW (X₁.named hnamed) (hpre vm₁ X₁.warmed)
  exact ⟨v, vm₁, B, X₁.warmed, X', hpost, fun target h => hstep₁ _ fun acts => by rw [doInvoke_state]; exact hsteps.trans h⟩
abbrev vx_CVW (R : Room) (s : State) (args : Array Value) (own C : String) (index : Nat) (y : MethodName) (bytes : ByteArray) (maxL : Nat) (ret : Option FieldType) (hh : List (Nat × Nat × Nat × Nat)) (ws : List Cond) (rm : Room) (mc ms n : Nat) : Prop :=
  (rm.cells = mc ∧ rm.slots = ms ∧ rm.frames + 1 ≤ R.frames ∧ 8 + (maxL + 11) + rm.locals ≤ R.locals ∧ (∀ w ∈ ws, ∀ (a' : Array Value) (U : State), s.WarmedH U.vm → w.before a' U = true) ∧ Cond.codeWith y bytes maxL ret hh ∈ ws) ∧
  (Cond.codeWith y bytes maxL ret hh).before args s = true ∧ (Cond.initialized y.cls).before args s = true ∧ (y.cls ≠ "java/lang/invoke/MethodHandle" ∧ y.cls ≠ "java/lang/invoke/VarHandle") ∧
  (∀ sig, parseMethodDescriptor y.desc = some sig → n = sig.parameters.length) ∧ (Cond.methodLink own index y).before args s = true ∧ (Cond.instanceMethod y).before args s = true ∧ (Cond.selects C y y).before args s = true
theorem vx_cwVW {own C : String} {index maxL mc ms : Nat} {y : MethodName} {bytes : ByteArray} {ret : Option FieldType} {hh : List (Nat × Nat × Nat × Nat)} {Ts ws ws' : List Cond} {rm : Room} (n : Nat) (ht : ∀ w ∈ Ts, w.before args s = true) (hT : GoodIn Ts (wsV own index C y ws)) (hw : ws = Cond.codeWith y bytes maxL ret hh :: ws') (hrc : rm.cells = mc) (hrs : rm.slots = ms)
    (hd : y.cls = C ∧ y.cls ≠ "java/lang/invoke/MethodHandle" ∧ y.cls ≠ "java/lang/invoke/VarHandle" ∧ (parseMethodDescriptor y.desc).map (fun d => d.parameters.length) = some n) (hR : rm.frames + 1 ≤ R.frames ∧ 8 + (maxL + 11) + rm.locals ≤ R.locals) :
    vx_CVW R s args own C index y bytes maxL ret hh ws rm mc ms n := by
  obtain ⟨hC, hd⟩ := hd
  subst hC
  have ok : ∀ w ∈ wsV own index y.cls y ws, w.before args s = true := fun w h => ht w (hT w h).1
  have hG : GoodIn Ts ws := fun w h => hT w (by unfold wsV; exact List.mem_append_right _ h)
  have hc : Cond.codeWith y bytes maxL ret hh ∈ ws := by rw [hw]; exact List.mem_cons_self
  refine ⟨⟨hrc, hrs, hR.1, hR.2, pay_in ht hG, hc⟩, ht _ (hG _ hc).1, ok _ (by simp [wsV]), ⟨hd.1, hd.2.1⟩, fun sig h => ?_, ok _ (by simp [wsV]), ok _ (by simp [wsV]), ok _ (by simp [wsV])⟩
  have h2 := hd.2.2
  rw [h] at h2
  exact (Option.some.inj h2).symm
theorem vx_runVW {y : MethodName} {bytes cc : ByteArray} {maxL nL mc ms n index : Nat} {ret : Option FieldType} {hh : List (Nat × Nat × Nat × Nat)} {ws : List Cond} {rm : Room} {Pc : Array Value → State → Prop} {Qc : Array Value → State → Outcome → State → Prop} {free : Addr → Prop} {Ts : List Cond} {own C : String} {b : Addr} {As rest : List Value} {g : JFrame}
    (S : CallFix p m c cc nL s args Ts own) (hM : Met l y ws rm Pc Qc mc ms free) (cw : vx_CVW R s args own C index y bytes maxL ret hh ws rm mc ms n) (hp : PreV s H C b Pc As)
    (hg : g.method = m) (hn : As.length = n) (hsize : g.locals.size = nL) (hstack : g.stack = As.reverse ++ .ref b :: rest) (hW : 2 * g.monitorRoom + (rest.map fun v => v.category).sum ≤ 8) (hdg : decode cc g.pc = .ok (.invokevirtual index, 3)) (hf : cells + mc ≤ R.cells ∧ slots + ms ≤ R.slots) :
    va_Run p l e R s m args below meth c H locs cells slots mc ms g rest (Qc (Value.ref b :: As).toArray) free := by
  obtain ⟨⟨hrc, hrs, hfr, hlo, hws, hcw⟩, hcode, hini, hy, hlen, hl, hin, hse⟩ := cw
  have hK : Back l R p e below s args y 3 8 (PreOf R mc ms Pc) (PostOf Qc mc ms free) := va_backW (hh := hh) (bytes := bytes) (maxL := maxL) (ret := ret) hM hp.1 hrc hrs hfr hlo hws hcw (fun a' U hW => word_at hW (Or.inl (by first | rfl | simp [Cond.onTables, Cond.keeps, Cond.steady])) hini)
  obtain ⟨hx, hb, hml, ho, -⟩ := S
  obtain ⟨-, ⟨cellB, hcB, hoB, hclB⟩, hPc⟩ := hp
  intro T hT X
  obtain ⟨v, vm₁, ⟨U', l2, c2, s2⟩, hW₁, X', ⟨g', mk, t, L, e1, e2, hq, h1, hL, h2, h3⟩, st⟩ := vx_callVW X hx (C := C) (hh := hh) (bytes := bytes) (maxL := maxL) (ret := ret) ho hl hin hse hcode hy hK (by rw [hT]; exact hcB) hoB hclB hg (hsize.trans hml.symm) (argsL := As) (rest := rest) (fun sig h => hn.trans (hlen sig h)) hstack hW (by rw [hb]; exact hdg)
    (fun vm₁ hW₁ => ⟨hf.1, hf.2, hPc (T.setVm vm₁) hT hW₁⟩)
  dsimp only [Pt.U, Pt.locs, Pt.cells, Pt.slots] at X' e1 e2 h1 h2 h3 st
  subst h1; subst h2; subst h3
  exact ⟨v, (T.setVm vm₁).calling g' mk (Value.ref b :: As).toArray, t, U', L, hT, X', hL, e1, e2, hq, st⟩
section
variable {y : MethodName} {bytes cc : ByteArray} {maxL nL mc ms n index : Nat} {ret : Option FieldType} {ws : List Cond} {rm : Room} {Pc : Array Value → State → Prop} {Qc : Array Value → State → Outcome → State → Prop} {XC : String → State → State → Prop} {free : Addr → Prop} {Ts : List Cond} {own C : String} {b : Addr} {As rest : List Value} {g : JFrame}
theorem vx_runVX {hh : List (Nat × Nat × Nat × Nat)} (S : CallFix p m c cc nL s args Ts own) (hM : vx_Met l y ws rm Pc Qc XC mc ms free) (cw : vx_CVW R s args own C index y bytes maxL ret hh ws rm mc ms n) (hp : PreV s H C b Pc As)
    (hg : g.method = m) (hn : As.length = n) (hsize : g.locals.size = nL) (hstack : g.stack = As.reverse ++ .ref b :: rest) (hW : 2 * g.monitorRoom + (rest.map fun v => v.category).sum ≤ 8) (hdg : decode cc g.pc = .ok (.invokevirtual index, 3)) (hf : cells + mc ≤ R.cells ∧ slots + ms ≤ R.slots) :
    vx_Run p l e R s m args below meth c H locs cells slots mc ms g rest (Qc (Value.ref b :: As).toArray) XC free := by
  obtain ⟨⟨hrc, hrs, hfr, hlo, hws, hcw⟩, hcode, hini, hy, hlen, hl, hin, hse⟩ := cw
  have hK : vx_Back l R p e below s args y 3 8 (PreOf R mc ms Pc) (PostOf Qc mc ms free) (vx_Post XC mc ms free) := vx_backW (hh := hh) (bytes := bytes) (maxL := maxL) (ret := ret) hM hp.1 hrc hrs hfr hlo hws hcw (fun a' U hW => word_at hW (Or.inl (by first | rfl | simp [Cond.onTables, Cond.keeps, Cond.steady])) hini)
  obtain ⟨hx, hb, hml, ho, -⟩ := S
  obtain ⟨-, ⟨cellB, hcB, hoB, hclB⟩, hPc⟩ := hp
  intro T hT X
  rcases vx_callVX X hx (C := C) (hh := hh) (bytes := bytes) (maxL := maxL) (ret := ret) ho hl hin hse hcode hy hK (by rw [hT]; exact hcB) hoB hclB hg (hsize.trans hml.symm) (argsL := As) (rest := rest) (fun sig h => hn.trans (hlen sig h)) hstack hW (by rw [hb]; exact hdg)
    (fun vm₁ hW₁ => ⟨hf.1, hf.2, hPc (T.setVm vm₁) hT hW₁⟩) with ⟨v, vm₁, ⟨U', l2, c2, s2⟩, hW₁, X', ⟨g', mk, t, L, e1, e2, hq, h1, hL, h2, h3⟩, st⟩ | ⟨q, vm₁, ⟨U', l2, c2, s2⟩, hW₁, X', ⟨g', mk, t, L, E, ce, e1, e2, hq, hce, hcv, hcl, h1, hL, h2, h3⟩, st⟩
  · dsimp only [Pt.U, Pt.locs, Pt.cells, Pt.slots] at X' e1 e2 h1 h2 h3 st
    subst h1; subst h2; subst h3
    exact Or.inl ⟨v, (T.setVm vm₁).calling g' mk (Value.ref b :: As).toArray, t, U', L, hT, X', hL, e1, e2, hq, st⟩
  · dsimp only [Pt.U, Pt.locs, Pt.cells, Pt.slots] at X' e1 e2 h1 h2 h3 st hcl
    subst h1; subst h2; subst h3
    exact Or.inr ⟨q, (T.setVm vm₁).calling g' mk (Value.ref b :: As).toArray, t, U', L, E, ce, hT, X', hL, e1, e2, hq, hce, hcv, vx_cls hW₁ hcl, st⟩
theorem vx_runSX {hh : List (Nat × Nat × Nat × Nat)} (S : CallFix p m c cc nL s args Ts own) (hM : vx_Met l y ws rm Pc Qc XC mc ms free) (cw : vx_CSW R s args own index y bytes maxL ret hh ws rm mc ms n) (hp : PreS s H Pc As)
    (hg : g.method = m) (hn : As.length = n) (hsize : g.locals.size = nL) (hstack : g.stack = As.reverse ++ rest) (hW : 2 * g.monitorRoom + (rest.map fun v => v.category).sum ≤ 8) (hdg : decode cc g.pc = .ok (.invokestatic index, 3)) (hf : cells + mc ≤ R.cells ∧ slots + ms ≤ R.slots) :
    vx_Run p l e R s m args below meth c H locs cells slots mc ms g rest (Qc As.toArray) XC free := by
  obtain ⟨⟨hrc, hrs, hfr, hlo, hws, hcw⟩, hcode, hini, hy, hlen, hl, hstt⟩ := cw
  have hK : vx_Back l R p e below s args y 3 8 (PreOf R mc ms Pc) (PostOf Qc mc ms free) (vx_Post XC mc ms free) := vx_backW (hh := hh) (bytes := bytes) (maxL := maxL) (ret := ret) hM hp.1 hrc hrs hfr hlo hws hcw (fun a' U hW => word_at hW (Or.inl (by first | rfl | simp [Cond.onTables, Cond.keeps, Cond.steady])) hini)
  obtain ⟨hx, hb, hml, ho, -⟩ := S
  intro T hT X
  rcases vx_callSX X hx (hh := hh) (bytes := bytes) (maxL := maxL) (ret := ret) ho hl hstt hini hcode hy hK hg (hsize.trans hml.symm) (argsL := As) (rest := rest) (fun sig h => hn.trans (hlen sig h)) hstack hW (by rw [hb]; exact hdg)
    (fun vm₁ hW₁ => ⟨hf.1, hf.2, hp.2 (T.setVm vm₁) hT hW₁⟩) with ⟨v, vm₁, ⟨U', l2, c2, s2⟩, hW₁, X', ⟨g', mk, t, L, e1, e2, hq, h1, hL, h2, h3⟩, st⟩ | ⟨q, vm₁, ⟨U', l2, c2, s2⟩, hW₁, X', ⟨g', mk, t, L, E, ce, e1, e2, hq, hce, hcv, hcl, h1, hL, h2, h3⟩, st⟩
  · dsimp only [Pt.U, Pt.locs, Pt.cells, Pt.slots] at X' e1 e2 h1 h2 h3 st
    subst h1; subst h2; subst h3
    exact Or.inl ⟨v, (T.setVm vm₁).calling g' mk As.toArray, t, U', L, hT, X', hL, e1, e2, hq, st⟩
  · dsimp only [Pt.U, Pt.locs, Pt.cells, Pt.slots] at X' e1 e2 h1 h2 h3 st hcl
    subst h1; subst h2; subst h3
    exact Or.inr ⟨q, (T.setVm vm₁).calling g' mk As.toArray, t, U', L, E, ce, hT, X', hL, e1, e2, hq, hce, hcv, vx_cls hW₁ hcl, st⟩
end
end VXH
theorem vx_ofWH {l : Launch} {y : MethodName} {ws ws' : List Cond} {rm : Room} {Pc : Array Value → State → Prop} {Qc : Array Value → State → Outcome → State → Prop} {XC : String → State → State → Prop} {mc ms : Nat} {free : Addr → Prop} {cc : ByteArray} {maxL : Nat} {ret : Option FieldType} {hh : List (Nat × Nat × Nat × Nat)}
    (hy : plainName y.cls = true) (hw : ws = Cond.codeWith y cc maxL ret hh :: ws')
    (body : ∀ p e s m args below meth c s₁, BodyLoose p l y (headSpec ws rm) cc maxL ret e s m args below meth c s₁ → c.maxLocals = maxL → Pc args s →
      W p l e (headSpec ws rm).room s m args below meth c s.heap [] 0 0 (vx_MQ below Qc XC args s mc ms free) (entryFrame m args maxL)) : vx_Met l y ws rm Pc Qc XC mc ms free := by
  refine MetFree.of_bodyS (code := cc) (maxLocals := maxL) (ret := ret) hy ?_ ?_
  · intro args s m h hn
    obtain ⟨m9, meth, c, hn9, h1, h2, h3, h4, -, h5, h6, -⟩ := Cond.codeWith_spec (atoms_spec (ws := ws) h _ (by rw [hw]; exact List.mem_cons_self))
    cases hn.symm.trans hn9
    exact ⟨meth, c, h1, h2, h3, h4, h5, h6⟩
  · intro p e s m args below meth c s₁ B hml hP _
    have hh0 : s₁.heap = s.heap := by rw [B.state]; rfl
    obtain ⟨t, a1, o, b1, b2, b3⟩ := body p e s m args below meth c s₁ B hml hP s₁ hh0 (Stand.of_body B)
    exact ⟨t, o, a1, b1, b2, b3⟩
/-! ===== END ===== -/

/-! ===== BEGIN printed: names, fields, word lists, decode rows ===== -/
end
section
def RX0 : String := "Bilinearium$Cube"
def TX0 : u_T := fun k => match k with
  | 0 => ("Bilinearium$Cube", "first", "I", true)
  | 1 => ("Bilinearium$Cube", "second", "I", true)
  | 2 => ("Bilinearium$Cube", "third", "I", true)
  | 3 => ("Bilinearium$Cube", "numbers", "[I", true)
  | _ => ("Bilinearium$Cube", "square", "I", false)
def tyX0 : Nat → FieldType := fun k => match k with
  | 0 => .int
  | 1 => .int
  | 2 => .int
  | 3 => .array .int
  | _ => .int
abbrev wsX00 : List Cond := u_ws RX0 TX0 5
theorem nmX0 : ∀ a, a < 5 → ∀ b, b < 5 → a ≠ b → (TX0 a).2.1 ≠ (TX0 b).2.1 := by decide +kernel
theorem tyX0_ok : ∀ k, k < 5 → parseFieldDescriptor (TX0 k).2.2.1 = some (tyX0 k) := by decide +kernel
abbrev cX0_init : ByteArray := prog_2_method_1_code
def yX0_init : MethodName := ⟨RX0, "<init>", "(III)V"⟩
abbrev cX0_copied : ByteArray := prog_2_method_2_code
def yX0_copied : MethodName := ⟨RX0, "copied", "()LBilinearium$Cube;"⟩
abbrev cX0_sizeOf : ByteArray := prog_2_method_3_code
def yX0_sizeOf : MethodName := ⟨RX0, "sizeOf", "(I)I"⟩
abbrev cX0_isLike : ByteArray := prog_2_method_4_code
def yX0_isLike : MethodName := ⟨RX0, "isLike", "(LBilinearium$Cube;)Z"⟩
abbrev cX0_numberAt : ByteArray := prog_2_method_5_code
def yX0_numberAt : MethodName := ⟨RX0, "numberAt", "(III)I"⟩
abbrev cX0_enter : ByteArray := prog_2_method_6_code
def yX0_enter : MethodName := ⟨RX0, "enter", "(IIII)V"⟩
abbrev cX0_countOthersThanZero : ByteArray := prog_2_method_7_code
def yX0_countOthersThanZero : MethodName := ⟨RX0, "countOthersThanZero", "()I"⟩
abbrev cX0_addSlice : ByteArray := prog_2_method_8_code
def yX0_addSlice : MethodName := ⟨RX0, "addSlice", "(IIIII)V"⟩
abbrev cX0_numberInSlice : ByteArray := prog_2_method_9_code
def yX0_numberInSlice : MethodName := ⟨RX0, "numberInSlice", "(III)I"⟩
abbrev cX0_indexInSlice : ByteArray := prog_2_method_10_code
def yX0_indexInSlice : MethodName := ⟨RX0, "indexInSlice", "(III)I"⟩
abbrev cX0_indexOf : ByteArray := prog_2_method_11_code
def yX0_indexOf : MethodName := ⟨RX0, "indexOf", "(III)I"⟩
def RX1 : String := "Bilinearium$Flat"
def TX1 : u_T := fun k => match k with
  | 0 => ("Bilinearium$Flat", "numbers", "[I", true)
  | 1 => ("Bilinearium$Flat", "rows", "I", false)
  | _ => ("Bilinearium$Flat", "prime", "I", false)
def tyX1 : Nat → FieldType := fun k => match k with
  | 0 => .array .int
  | 1 => .int
  | _ => .int
abbrev wsX10 : List Cond := u_ws RX1 TX1 3
theorem nmX1 : ∀ a, a < 3 → ∀ b, b < 3 → a ≠ b → (TX1 a).2.1 ≠ (TX1 b).2.1 := by decide +kernel
theorem tyX1_ok : ∀ k, k < 3 → parseFieldDescriptor (TX1 k).2.2.1 = some (tyX1 k) := by decide +kernel
abbrev cX1_init : ByteArray := prog_3_method_1_code
def yX1_init : MethodName := ⟨RX1, "<init>", "()V"⟩
abbrev cX1_rankOf : ByteArray := prog_3_method_2_code
def yX1_rankOf : MethodName := ⟨RX1, "rankOf", "(LBilinearium$Cube;II)I"⟩
abbrev cX1_take : ByteArray := prog_3_method_3_code
def yX1_take : MethodName := ⟨RX1, "take", "(LBilinearium$Cube;II)V"⟩
abbrev cX1_number : ByteArray := prog_3_method_4_code
def yX1_number : MethodName := ⟨RX1, "number", "(II)I"⟩
abbrev cX1_enter : ByteArray := prog_3_method_5_code
def yX1_enter : MethodName := ⟨RX1, "enter", "(III)V"⟩
abbrev cX1_rowWithNumber : ByteArray := prog_3_method_6_code
def yX1_rowWithNumber : MethodName := ⟨RX1, "rowWithNumber", "(II)I"⟩
abbrev cX1_swapRows : ByteArray := prog_3_method_7_code
def yX1_swapRows : MethodName := ⟨RX1, "swapRows", "(II)V"⟩
abbrev cX1_clearBelow : ByteArray := prog_3_method_8_code
def yX1_clearBelow : MethodName := ⟨RX1, "clearBelow", "(II)V"⟩
def RX2 : String := "Bilinearium$Search"
def TX2 : u_T := fun k => match k with
  | 0 => ("Bilinearium$Search", "singles", "[I", true)
  | 1 => ("Bilinearium$Search", "marks", "[J", true)
  | _ => ("Bilinearium$Search", "count", "I", false)
def tyX2 : Nat → FieldType := fun k => match k with
  | 0 => .array .int
  | 1 => .array .long
  | _ => .int
abbrev wsX20 : List Cond := u_ws RX2 TX2 3
theorem nmX2 : ∀ a, a < 3 → ∀ b, b < 3 → a ≠ b → (TX2 a).2.1 ≠ (TX2 b).2.1 := by decide +kernel
theorem tyX2_ok : ∀ k, k < 3 → parseFieldDescriptor (TX2 k).2.2.1 = some (tyX2 k) := by decide +kernel
abbrev cX2_init : ByteArray := prog_4_method_1_code
def yX2_init : MethodName := ⟨RX2, "<init>", "()V"⟩
abbrev cX2_fewest : ByteArray := prog_4_method_2_code
def yX2_fewest : MethodName := ⟨RX2, "fewest", "(LBilinearium$Cube;I)I"⟩
abbrev cX2_isMade : ByteArray := prog_4_method_3_code
def yX2_isMade : MethodName := ⟨RX2, "isMade", "(III)Z"⟩
abbrev cX2_isSingle : ByteArray := prog_4_method_4_code
def yX2_isSingle : MethodName := ⟨RX2, "isSingle", "(I)Z"⟩
abbrev cX2_gatherSingles : ByteArray := prog_4_method_5_code
def yX2_gatherSingles : MethodName := ⟨RX2, "gatherSingles", "(LBilinearium$Cube;)V"⟩
abbrev cX2_addSingle : ByteArray := prog_4_method_6_code
def yX2_addSingle : MethodName := ⟨RX2, "addSingle", "(I)V"⟩
abbrev cX2_bitsOfSingle : ByteArray := prog_4_method_7_code
def yX2_bitsOfSingle : MethodName := ⟨RX2, "bitsOfSingle", "(LBilinearium$Cube;III)I"⟩
abbrev cX2_bitsOf : ByteArray := prog_4_method_8_code
def yX2_bitsOf : MethodName := ⟨RX2, "bitsOf", "(LBilinearium$Cube;)I"⟩
def RX3 : String := "Bilinearium$Sums"
def TX3 : u_T := fun k => match k with
  | 0 => ("Bilinearium$Sums", "holders", "[J", true)
  | _ => ("Bilinearium$Sums", "count", "I", false)
def tyX3 : Nat → FieldType := fun k => match k with
  | 0 => .array .long
  | _ => .int
abbrev wsX30 : List Cond := u_ws RX3 TX3 2
theorem nmX3 : ∀ a, a < 2 → ∀ b, b < 2 → a ≠ b → (TX3 a).2.1 ≠ (TX3 b).2.1 := by decide +kernel
theorem tyX3_ok : ∀ k, k < 2 → parseFieldDescriptor (TX3 k).2.2.1 = some (tyX3 k) := by decide +kernel
abbrev cX3_init : ByteArray := prog_5_method_1_code
def yX3_init : MethodName := ⟨RX3, "<init>", "()V"⟩
abbrev cX3_clear : ByteArray := prog_5_method_2_code
def yX3_clear : MethodName := ⟨RX3, "clear", "()V"⟩
abbrev cX3_append : ByteArray := prog_5_method_3_code
def yX3_append : MethodName := ⟨RX3, "append", "(J)V"⟩
abbrev cX3_countAdditions : ByteArray := prog_5_method_4_code
def yX3_countAdditions : MethodName := ⟨RX3, "countAdditions", "()I"⟩
abbrev cX3_sharePairs : ByteArray := prog_5_method_5_code
def yX3_sharePairs : MethodName := ⟨RX3, "sharePairs", "()I"⟩
abbrev cX3_shareBestPair : ByteArray := prog_5_method_6_code
def yX3_shareBestPair : MethodName := ⟨RX3, "shareBestPair", "()Z"⟩
abbrev cX3_replace : ByteArray := prog_5_method_7_code
def yX3_replace : MethodName := ⟨RX3, "replace", "(II)V"⟩
def RX4 : String := "Bilinearium$Way"
def TX4 : u_T := fun k => match k with
  | 0 => ("Bilinearium$Way", "target", "LBilinearium$Cube;", true)
  | 1 => ("Bilinearium$Way", "prime", "I", true)
  | 2 => ("Bilinearium$Way", "triples", "[I", true)
  | _ => ("Bilinearium$Way", "count", "I", false)
def tyX4 : Nat → FieldType := fun k => match k with
  | 0 => .object "Bilinearium$Cube"
  | 1 => .int
  | 2 => .array .int
  | _ => .int
abbrev wsX40 : List Cond := u_ws RX4 TX4 4
theorem nmX4 : ∀ a, a < 4 → ∀ b, b < 4 → a ≠ b → (TX4 a).2.1 ≠ (TX4 b).2.1 := by decide +kernel
theorem tyX4_ok : ∀ k, k < 4 → parseFieldDescriptor (TX4 k).2.2.1 = some (tyX4 k) := by decide +kernel
abbrev cX4_init : ByteArray := prog_6_method_1_code
def yX4_init : MethodName := ⟨RX4, "<init>", "(LBilinearium$Cube;I)V"⟩
abbrev cX4_code : ByteArray := prog_6_method_2_code
def yX4_code : MethodName := ⟨RX4, "code", "(II)I"⟩
abbrev cX4_enterCode : ByteArray := prog_6_method_3_code
def yX4_enterCode : MethodName := ⟨RX4, "enterCode", "(III)V"⟩
abbrev cX4_shiftOf : ByteArray := prog_6_method_4_code
def yX4_shiftOf : MethodName := ⟨RX4, "shiftOf", "(I)I"⟩
abbrev cX4_number : ByteArray := prog_6_method_5_code
def yX4_number : MethodName := ⟨RX4, "number", "(III)I"⟩
abbrev cX4_append : ByteArray := prog_6_method_6_code
def yX4_append : MethodName := ⟨RX4, "append", "(III)V"⟩
abbrev cX4_appendPlaces : ByteArray := prog_6_method_7_code
def yX4_appendPlaces : MethodName := ⟨RX4, "appendPlaces", "()V"⟩
abbrev cX4_isSame : ByteArray := prog_6_method_8_code
def yX4_isSame : MethodName := ⟨RX4, "isSame", "(III)Z"⟩
abbrev cX4_turn : ByteArray := prog_6_method_9_code
def yX4_turn : MethodName := ⟨RX4, "turn", "(III)V"⟩
abbrev cX4_addVector : ByteArray := prog_6_method_10_code
def yX4_addVector : MethodName := ⟨RX4, "addVector", "(IIII)V"⟩
abbrev cX4_shrink : ByteArray := prog_6_method_11_code
def yX4_shrink : MethodName := ⟨RX4, "shrink", "()I"⟩
abbrev cX4_takeOutZeros : ByteArray := prog_6_method_12_code
def yX4_takeOutZeros : MethodName := ⟨RX4, "takeOutZeros", "()Z"⟩
abbrev cX4_joinProducts : ByteArray := prog_6_method_13_code
def yX4_joinProducts : MethodName := ⟨RX4, "joinProducts", "()Z"⟩
abbrev cX4_hasZeros : ByteArray := prog_6_method_14_code
def yX4_hasZeros : MethodName := ⟨RX4, "hasZeros", "(I)Z"⟩
abbrev cX4_sideToJoin : ByteArray := prog_6_method_15_code
def yX4_sideToJoin : MethodName := ⟨RX4, "sideToJoin", "(II)I"⟩
abbrev cX4_takeOut : ByteArray := prog_6_method_16_code
def yX4_takeOut : MethodName := ⟨RX4, "takeOut", "(I)V"⟩
abbrev cX4_wander : ByteArray := prog_6_method_17_code
def yX4_wander : MethodName := ⟨RX4, "wander", "(II)I"⟩
abbrev cX4_draw : ByteArray := prog_6_method_18_code
def yX4_draw : MethodName := ⟨RX4, "draw", "(I)I"⟩
abbrev cX4_isReducible : ByteArray := prog_6_method_19_code
def yX4_isReducible : MethodName := ⟨RX4, "isReducible", "(I)Z"⟩
abbrev cX4_countWrongPlaces : ByteArray := prog_6_method_20_code
def yX4_countWrongPlaces : MethodName := ⟨RX4, "countWrongPlaces", "([I)I"⟩
abbrev cX4_addEntries : ByteArray := prog_6_method_21_code
def yX4_addEntries : MethodName := ⟨RX4, "addEntries", "(I[I)V"⟩
abbrev cX4_tellSums : ByteArray := prog_6_method_22_code
def yX4_tellSums : MethodName := ⟨RX4, "tellSums", "(ILBilinearium$Sums;)V"⟩
abbrev cX4_filledPlaces : ByteArray := prog_6_method_23_code
def yX4_filledPlaces : MethodName := ⟨RX4, "filledPlaces", "(II)J"⟩
abbrev cX4_filledProducts : ByteArray := prog_6_method_24_code
def yX4_filledProducts : MethodName := ⟨RX4, "filledProducts", "(II)J"⟩
abbrev cX4_greatestGrowth : ByteArray := prog_6_method_25_code
def yX4_greatestGrowth : MethodName := ⟨RX4, "greatestGrowth", "()I"⟩
abbrev cX4_growthAt : ByteArray := prog_6_method_26_code
def yX4_growthAt : MethodName := ⟨RX4, "growthAt", "(I)I"⟩
abbrev cX4_multiplied : ByteArray := prog_6_method_27_code
def yX4_multiplied : MethodName := ⟨RX4, "multiplied", "(III)I"⟩
abbrev cX4_multipliedByCube : ByteArray := prog_6_method_28_code
def yX4_multipliedByCube : MethodName := ⟨RX4, "multipliedByCube", "(III)I"⟩
def RX5 : String := "Bilinearium"
def TX5 : u_T := fun k => match k with
  | 0 => ("Bilinearium", "cubes", "[LBilinearium$Cube;", true)
  | 1 => ("Bilinearium", "ways", "[LBilinearium$Way;", true)
  | 2 => ("Bilinearium", "flat", "LBilinearium$Flat;", true)
  | 3 => ("Bilinearium", "search", "LBilinearium$Search;", true)
  | 4 => ("Bilinearium", "sums", "LBilinearium$Sums;", true)
  | 5 => ("Bilinearium", "entries", "[I", true)
  | 6 => ("Bilinearium", "prime", "I", false)
  | 7 => ("Bilinearium", "cubeCount", "I", false)
  | _ => ("Bilinearium", "wayCount", "I", false)
def tyX5 : Nat → FieldType := fun k => match k with
  | 0 => .array (.object "Bilinearium$Cube")
  | 1 => .array (.object "Bilinearium$Way")
  | 2 => .object "Bilinearium$Flat"
  | 3 => .object "Bilinearium$Search"
  | 4 => .object "Bilinearium$Sums"
  | 5 => .array .int
  | 6 => .int
  | 7 => .int
  | _ => .int
abbrev wsX50 : List Cond := u_ws RX5 TX5 9
theorem nmX5 : ∀ a, a < 9 → ∀ b, b < 9 → a ≠ b → (TX5 a).2.1 ≠ (TX5 b).2.1 := by decide +kernel
theorem tyX5_ok : ∀ k, k < 9 → parseFieldDescriptor (TX5 k).2.2.1 = some (tyX5 k) := by decide +kernel
abbrev cX5_init : ByteArray := prog_1_method_1_code
def yX5_init : MethodName := ⟨RX5, "<init>", "()V"⟩
abbrev cX5_prime : ByteArray := prog_1_method_2_code
def yX5_prime : MethodName := ⟨RX5, "prime", "(I)I"⟩
abbrev cX5_cube : ByteArray := prog_1_method_3_code
def yX5_cube : MethodName := ⟨RX5, "cube", "(III)I"⟩
abbrev cX5_matrices : ByteArray := prog_1_method_4_code
def yX5_matrices : MethodName := ⟨RX5, "matrices", "(III)I"⟩
abbrev cX5_polynomials : ByteArray := prog_1_method_5_code
def yX5_polynomials : MethodName := ⟨RX5, "polynomials", "(II)I"⟩
abbrev cX5_group : ByteArray := prog_1_method_6_code
def yX5_group : MethodName := ⟨RX5, "group", "(I)I"⟩
abbrev cX5_set : ByteArray := prog_1_method_7_code
def yX5_set : MethodName := ⟨RX5, "set", "(IIIII)I"⟩
abbrev cX5_move : ByteArray := prog_1_method_8_code
def yX5_move : MethodName := ⟨RX5, "move", "(IIIII)I"⟩
abbrev cX5_sum : ByteArray := prog_1_method_9_code
def yX5_sum : MethodName := ⟨RX5, "sum", "(II)I"⟩
abbrev cX5_product : ByteArray := prog_1_method_10_code
def yX5_product : MethodName := ⟨RX5, "product", "(II)I"⟩
abbrev cX5_way : ByteArray := prog_1_method_11_code
def yX5_way : MethodName := ⟨RX5, "way", "(I)I"⟩
abbrev cX5_multiply : ByteArray := prog_1_method_12_code
def yX5_multiply : MethodName := ⟨RX5, "multiply", "(IIII)I"⟩
abbrev cX5_plain : ByteArray := prog_1_method_13_code
def yX5_plain : MethodName := ⟨RX5, "plain", "(I)I"⟩
abbrev cX5_flip : ByteArray := prog_1_method_14_code
def yX5_flip : MethodName := ⟨RX5, "flip", "(IIII)V"⟩
abbrev cX5_reduce : ByteArray := prog_1_method_15_code
def yX5_reduce : MethodName := ⟨RX5, "reduce", "(I)I"⟩
abbrev cX5_walk : ByteArray := prog_1_method_16_code
def yX5_walk : MethodName := ⟨RX5, "walk", "(III)I"⟩
abbrev cX5_at : ByteArray := prog_1_method_17_code
def yX5_at : MethodName := ⟨RX5, "at", "(IIII)I"⟩
abbrev cX5_flattening : ByteArray := prog_1_method_18_code
def yX5_flattening : MethodName := ⟨RX5, "flattening", "(II)I"⟩
abbrev cX5_bound : ByteArray := prog_1_method_19_code
def yX5_bound : MethodName := ⟨RX5, "bound", "(I)I"⟩
abbrev cX5_least : ByteArray := prog_1_method_20_code
def yX5_least : MethodName := ⟨RX5, "least", "(I)I"⟩
abbrev cX5_leastAnew : ByteArray := prog_1_method_21_code
def yX5_leastAnew : MethodName := ⟨RX5, "leastAnew", "(I)I"⟩
abbrev cX5_ofWay : ByteArray := prog_1_method_22_code
def yX5_ofWay : MethodName := ⟨RX5, "ofWay", "(II)I"⟩
abbrev cX5_vector : ByteArray := prog_1_method_23_code
def yX5_vector : MethodName := ⟨RX5, "vector", "(III)I"⟩
abbrev cX5_result : ByteArray := prog_1_method_24_code
def yX5_result : MethodName := ⟨RX5, "result", "(IIII)I"⟩
abbrev cX5_resultByCube : ByteArray := prog_1_method_25_code
def yX5_resultByCube : MethodName := ⟨RX5, "resultByCube", "(IIII)I"⟩
abbrev cX5_levels : ByteArray := prog_1_method_26_code
def yX5_levels : MethodName := ⟨RX5, "levels", "(IIZ)J"⟩
abbrev cX5_needSize : ByteArray := prog_1_method_27_code
def yX5_needSize : MethodName := ⟨RX5, "needSize", "(I)V"⟩
abbrev cX5_needCube : ByteArray := prog_1_method_28_code
def yX5_needCube : MethodName := ⟨RX5, "needCube", "(I)LBilinearium$Cube;"⟩
abbrev cX5_needWay : ByteArray := prog_1_method_29_code
def yX5_needWay : MethodName := ⟨RX5, "needWay", "(I)LBilinearium$Way;"⟩
abbrev cX5_needPlace : ByteArray := prog_1_method_30_code
def yX5_needPlace : MethodName := ⟨RX5, "needPlace", "(LBilinearium$Cube;III)V"⟩
abbrev cX5_needSide : ByteArray := prog_1_method_31_code
def yX5_needSide : MethodName := ⟨RX5, "needSide", "(I)V"⟩
abbrev cX5_needSlice : ByteArray := prog_1_method_32_code
def yX5_needSlice : MethodName := ⟨RX5, "needSlice", "(LBilinearium$Cube;II)V"⟩
abbrev cX5_needProduct : ByteArray := prog_1_method_33_code
def yX5_needProduct : MethodName := ⟨RX5, "needProduct", "(LBilinearium$Way;I)V"⟩
abbrev cX5_needRoom : ByteArray := prog_1_method_34_code
def yX5_needRoom : MethodName := ⟨RX5, "needRoom", "(LBilinearium$Way;I)V"⟩
abbrev cX5_needCode : ByteArray := prog_1_method_35_code
def yX5_needCode : MethodName := ⟨RX5, "needCode", "(II)V"⟩
abbrev cX5_needFactors : ByteArray := prog_1_method_36_code
def yX5_needFactors : MethodName := ⟨RX5, "needFactors", "(LBilinearium$Way;III)V"⟩
abbrev cX5_needSmall : ByteArray := prog_1_method_37_code
def yX5_needSmall : MethodName := ⟨RX5, "needSmall", "(LBilinearium$Cube;I)V"⟩
abbrev cX5_addCube : ByteArray := prog_1_method_38_code
def yX5_addCube : MethodName := ⟨RX5, "addCube", "(III)LBilinearium$Cube;"⟩
abbrev cX5_numberOfProduct : ByteArray := prog_1_method_39_code
def yX5_numberOfProduct : MethodName := ⟨RX5, "numberOfProduct", "(LBilinearium$Cube;LBilinearium$Cube;III)I"⟩
abbrev cX5_greatestRank : ByteArray := prog_1_method_40_code
def yX5_greatestRank : MethodName := ⟨RX5, "greatestRank", "(LBilinearium$Cube;)I"⟩
abbrev cX5_countAdditions : ByteArray := prog_1_method_41_code
def yX5_countAdditions : MethodName := ⟨RX5, "countAdditions", "(LBilinearium$Way;Z)I"⟩
abbrev cX5_multiplicationsInLevels : ByteArray := prog_1_method_42_code
def yX5_multiplicationsInLevels : MethodName := ⟨RX5, "multiplicationsInLevels", "(LBilinearium$Way;I)J"⟩
abbrev cX5_additionsInLevels : ByteArray := prog_1_method_43_code
def yX5_additionsInLevels : MethodName := ⟨RX5, "additionsInLevels", "(LBilinearium$Way;IJ)J"⟩
abbrev cX5_isBelow : ByteArray := prog_1_method_44_code
def yX5_isBelow : MethodName := ⟨RX5, "isBelow", "(II)Z"⟩
abbrev cX5_quotient : ByteArray := prog_1_method_45_code
def yX5_quotient : MethodName := ⟨RX5, "quotient", "(II)I"⟩
abbrev cX5_remainder : ByteArray := prog_1_method_46_code
def yX5_remainder : MethodName := ⟨RX5, "remainder", "(II)I"⟩
abbrev cX5_power : ByteArray := prog_1_method_47_code
def yX5_power : MethodName := ⟨RX5, "power", "(II)I"⟩
abbrev cX5_get : ByteArray := prog_1_method_48_code
def yX5_get : MethodName := ⟨RX5, "get", "([II)I"⟩
abbrev cX5_put : ByteArray := prog_1_method_49_code
def yX5_put : MethodName := ⟨RX5, "put", "([III)V"⟩
abbrev cX5_getLong : ByteArray := prog_1_method_50_code
def yX5_getLong : MethodName := ⟨RX5, "getLong", "([JI)J"⟩
abbrev cX5_putLong : ByteArray := prog_1_method_51_code
def yX5_putLong : MethodName := ⟨RX5, "putLong", "([JIJ)V"⟩
abbrev cX5_numberIn : ByteArray := prog_1_method_52_code
def yX5_numberIn : MethodName := ⟨RX5, "numberIn", "(IIII)I"⟩
abbrev cX5_codeOf : ByteArray := prog_1_method_53_code
def yX5_codeOf : MethodName := ⟨RX5, "codeOf", "(IIII)I"⟩
abbrev cX5_addedCode : ByteArray := prog_1_method_54_code
def yX5_addedCode : MethodName := ⟨RX5, "addedCode", "(IIIII)I"⟩
abbrev cX5_multipliedCodes : ByteArray := prog_1_method_55_code
def yX5_multipliedCodes : MethodName := ⟨RX5, "multipliedCodes", "(IIII)I"⟩
def RX6 : String := "BilineariumModel"
def TX6 : u_T := fun k => match k with
  | 0 => ("BilineariumModel", "thrown", "I", false)
  | 1 => ("BilineariumModel", "prime", "I", false)
  | 2 => ("BilineariumModel", "cubes", "I", false)
  | 3 => ("BilineariumModel", "size", "[I", true)
  | 4 => ("BilineariumModel", "number", "[I", true)
  | 5 => ("BilineariumModel", "square", "[I", true)
  | 6 => ("BilineariumModel", "ways", "I", false)
  | 7 => ("BilineariumModel", "waySize", "[I", true)
  | 8 => ("BilineariumModel", "wayNumber", "[I", true)
  | 9 => ("BilineariumModel", "waySquare", "[I", true)
  | 10 => ("BilineariumModel", "products", "[I", true)
  | 11 => ("BilineariumModel", "vector", "[I", true)
  | 12 => ("BilineariumModel", "matrix", "[I", true)
  | 13 => ("BilineariumModel", "far", "[I", true)
  | 14 => ("BilineariumModel", "queue", "[I", true)
  | 15 => ("BilineariumModel", "last", "I", false)
  | 16 => ("BilineariumModel", "holds", "[Z", true)
  | 17 => ("BilineariumModel", "sets", "I", false)
  | _ => ("BilineariumModel", "elements", "I", false)
def tyX6 : Nat → FieldType := fun k => match k with
  | 0 => .int
  | 1 => .int
  | 2 => .int
  | 3 => .array .int
  | 4 => .array .int
  | 5 => .array .int
  | 6 => .int
  | 7 => .array .int
  | 8 => .array .int
  | 9 => .array .int
  | 10 => .array .int
  | 11 => .array .int
  | 12 => .array .int
  | 13 => .array .int
  | 14 => .array .int
  | 15 => .int
  | 16 => .array .boolean
  | 17 => .int
  | _ => .int
abbrev wsX60 : List Cond := u_ws RX6 TX6 19
theorem nmX6 : ∀ a, a < 19 → ∀ b, b < 19 → a ≠ b → (TX6 a).2.1 ≠ (TX6 b).2.1 := by decide +kernel
theorem tyX6_ok : ∀ k, k < 19 → parseFieldDescriptor (TX6 k).2.2.1 = some (tyX6 k) := by decide +kernel
abbrev cX6_init : ByteArray := prog_8_method_1_code
def yX6_init : MethodName := ⟨RX6, "<init>", "()V"⟩
abbrev cX6_thrown : ByteArray := prog_8_method_2_code
def yX6_thrown : MethodName := ⟨RX6, "thrown", "()I"⟩
abbrev cX6_goesWell : ByteArray := prog_8_method_3_code
def yX6_goesWell : MethodName := ⟨RX6, "goesWell", "(I)Z"⟩
abbrev cX6_in : ByteArray := prog_8_method_4_code
def yX6_in : MethodName := ⟨RX6, "in", "(III)Z"⟩
abbrev cX6_isCube : ByteArray := prog_8_method_5_code
def yX6_isCube : MethodName := ⟨RX6, "isCube", "(I)Z"⟩
abbrev cX6_isWay : ByteArray := prog_8_method_6_code
def yX6_isWay : MethodName := ⟨RX6, "isWay", "(I)Z"⟩
abbrev cX6_isSide : ByteArray := prog_8_method_7_code
def yX6_isSide : MethodName := ⟨RX6, "isSide", "(I)Z"⟩
abbrev cX6_place : ByteArray := prog_8_method_8_code
def yX6_place : MethodName := ⟨RX6, "place", "(III)I"⟩
abbrev cX6_prime : ByteArray := prog_8_method_9_code
def yX6_prime : MethodName := ⟨RX6, "prime", "(I)I"⟩
abbrev cX6_make : ByteArray := prog_8_method_10_code
def yX6_make : MethodName := ⟨RX6, "make", "(III)I"⟩
abbrev cX6_canMake : ByteArray := prog_8_method_11_code
def yX6_canMake : MethodName := ⟨RX6, "canMake", "(III)Z"⟩
abbrev cX6_cube : ByteArray := prog_8_method_12_code
def yX6_cube : MethodName := ⟨RX6, "cube", "(III)I"⟩
abbrev cX6_matrices : ByteArray := prog_8_method_13_code
def yX6_matrices : MethodName := ⟨RX6, "matrices", "(III)I"⟩
abbrev cX6_polynomials : ByteArray := prog_8_method_14_code
def yX6_polynomials : MethodName := ⟨RX6, "polynomials", "(II)I"⟩
abbrev cX6_group : ByteArray := prog_8_method_15_code
def yX6_group : MethodName := ⟨RX6, "group", "(I)I"⟩
abbrev cX6_isPlace : ByteArray := prog_8_method_16_code
def yX6_isPlace : MethodName := ⟨RX6, "isPlace", "(IIII)Z"⟩
abbrev cX6_set : ByteArray := prog_8_method_17_code
def yX6_set : MethodName := ⟨RX6, "set", "(IIIII)I"⟩
abbrev cX6_placeBy : ByteArray := prog_8_method_18_code
def yX6_placeBy : MethodName := ⟨RX6, "placeBy", "(IIII)I"⟩
abbrev cX6_move : ByteArray := prog_8_method_19_code
def yX6_move : MethodName := ⟨RX6, "move", "(IIIII)I"⟩
abbrev cX6_sum : ByteArray := prog_8_method_20_code
def yX6_sum : MethodName := ⟨RX6, "sum", "(II)I"⟩
abbrev cX6_product : ByteArray := prog_8_method_21_code
def yX6_product : MethodName := ⟨RX6, "product", "(II)I"⟩
abbrev cX6_way : ByteArray := prog_8_method_22_code
def yX6_way : MethodName := ⟨RX6, "way", "(I)I"⟩
abbrev cX6_codes : ByteArray := prog_8_method_23_code
def yX6_codes : MethodName := ⟨RX6, "codes", "(II)I"⟩
abbrev cX6_isCode : ByteArray := prog_8_method_24_code
def yX6_isCode : MethodName := ⟨RX6, "isCode", "(III)Z"⟩
abbrev cX6_from : ByteArray := prog_8_method_25_code
def yX6_from : MethodName := ⟨RX6, "from", "(III)I"⟩
abbrev cX6_decode : ByteArray := prog_8_method_26_code
def yX6_decode : MethodName := ⟨RX6, "decode", "(IIII)V"⟩
abbrev cX6_multiply : ByteArray := prog_8_method_27_code
def yX6_multiply : MethodName := ⟨RX6, "multiply", "(IIII)I"⟩
abbrev cX6_plain : ByteArray := prog_8_method_28_code
def yX6_plain : MethodName := ⟨RX6, "plain", "(I)I"⟩
abbrev cX6_areAlike : ByteArray := prog_8_method_29_code
def yX6_areAlike : MethodName := ⟨RX6, "areAlike", "(IIII)Z"⟩
abbrev cX6_add : ByteArray := prog_8_method_30_code
def yX6_add : MethodName := ⟨RX6, "add", "(IIIII)V"⟩
abbrev cX6_turn : ByteArray := prog_8_method_31_code
def yX6_turn : MethodName := ⟨RX6, "turn", "(IIII)V"⟩
abbrev cX6_isProduct : ByteArray := prog_8_method_32_code
def yX6_isProduct : MethodName := ⟨RX6, "isProduct", "(II)Z"⟩
abbrev cX6_flip : ByteArray := prog_8_method_33_code
def yX6_flip : MethodName := ⟨RX6, "flip", "(IIII)V"⟩
abbrev cX6_isNothing : ByteArray := prog_8_method_34_code
def yX6_isNothing : MethodName := ⟨RX6, "isNothing", "(II)Z"⟩
abbrev cX6_takeOut : ByteArray := prog_8_method_35_code
def yX6_takeOut : MethodName := ⟨RX6, "takeOut", "(II)V"⟩
abbrev cX6_third : ByteArray := prog_8_method_36_code
def yX6_third : MethodName := ⟨RX6, "third", "(III)I"⟩
abbrev cX6_reducesOnce : ByteArray := prog_8_method_37_code
def yX6_reducesOnce : MethodName := ⟨RX6, "reducesOnce", "(I)Z"⟩
abbrev cX6_reduceAll : ByteArray := prog_8_method_38_code
def yX6_reduceAll : MethodName := ⟨RX6, "reduceAll", "(I)I"⟩
abbrev cX6_reduce : ByteArray := prog_8_method_39_code
def yX6_reduce : MethodName := ⟨RX6, "reduce", "(I)I"⟩
abbrev cX6_draw : ByteArray := prog_8_method_40_code
def yX6_draw : MethodName := ⟨RX6, "draw", "(I)I"⟩
abbrev cX6_walk : ByteArray := prog_8_method_41_code
def yX6_walk : MethodName := ⟨RX6, "walk", "(III)I"⟩
abbrev cX6_at : ByteArray := prog_8_method_42_code
def yX6_at : MethodName := ⟨RX6, "at", "(IIII)I"⟩
abbrev cX6_inverse : ByteArray := prog_8_method_43_code
def yX6_inverse : MethodName := ⟨RX6, "inverse", "(I)I"⟩
abbrev cX6_rank : ByteArray := prog_8_method_44_code
def yX6_rank : MethodName := ⟨RX6, "rank", "(I)I"⟩
abbrev cX6_flat : ByteArray := prog_8_method_45_code
def yX6_flat : MethodName := ⟨RX6, "flat", "(II)I"⟩
abbrev cX6_flattening : ByteArray := prog_8_method_46_code
def yX6_flattening : MethodName := ⟨RX6, "flattening", "(II)I"⟩
abbrev cX6_bound : ByteArray := prog_8_method_47_code
def yX6_bound : MethodName := ⟨RX6, "bound", "(I)I"⟩
abbrev cX6_single : ByteArray := prog_8_method_48_code
def yX6_single : MethodName := ⟨RX6, "single", "(IIII)I"⟩
abbrev cX6_learn : ByteArray := prog_8_method_49_code
def yX6_learn : MethodName := ⟨RX6, "learn", "(II)V"⟩
abbrev cX6_fewest : ByteArray := prog_8_method_50_code
def yX6_fewest : MethodName := ⟨RX6, "fewest", "(I)I"⟩
abbrev cX6_leastOf : ByteArray := prog_8_method_51_code
def yX6_leastOf : MethodName := ⟨RX6, "leastOf", "(II)I"⟩
abbrev cX6_least : ByteArray := prog_8_method_52_code
def yX6_least : MethodName := ⟨RX6, "least", "(I)I"⟩
abbrev cX6_leastAnew : ByteArray := prog_8_method_53_code
def yX6_leastAnew : MethodName := ⟨RX6, "leastAnew", "(I)I"⟩
abbrev cX6_made : ByteArray := prog_8_method_54_code
def yX6_made : MethodName := ⟨RX6, "made", "(II)I"⟩
abbrev cX6_wrong : ByteArray := prog_8_method_55_code
def yX6_wrong : MethodName := ⟨RX6, "wrong", "(I)I"⟩
abbrev cX6_laySets : ByteArray := prog_8_method_56_code
def yX6_laySets : MethodName := ⟨RX6, "laySets", "(II)V"⟩
abbrev cX6_additionsOf : ByteArray := prog_8_method_57_code
def yX6_additionsOf : MethodName := ⟨RX6, "additionsOf", "()I"⟩
abbrev cX6_common : ByteArray := prog_8_method_58_code
def yX6_common : MethodName := ⟨RX6, "common", "(II)I"⟩
abbrev cX6_shares : ByteArray := prog_8_method_59_code
def yX6_shares : MethodName := ⟨RX6, "shares", "()Z"⟩
abbrev cX6_additions : ByteArray := prog_8_method_60_code
def yX6_additions : MethodName := ⟨RX6, "additions", "(IZ)I"⟩
abbrev cX6_numbers : ByteArray := prog_8_method_61_code
def yX6_numbers : MethodName := ⟨RX6, "numbers", "(III)I"⟩
abbrev cX6_growth : ByteArray := prog_8_method_62_code
def yX6_growth : MethodName := ⟨RX6, "growth", "(I)I"⟩
abbrev cX6_ofWay : ByteArray := prog_8_method_63_code
def yX6_ofWay : MethodName := ⟨RX6, "ofWay", "(II)I"⟩
abbrev cX6_vector : ByteArray := prog_8_method_64_code
def yX6_vector : MethodName := ⟨RX6, "vector", "(III)I"⟩
abbrev cX6_digit : ByteArray := prog_8_method_65_code
def yX6_digit : MethodName := ⟨RX6, "digit", "(IIII)I"⟩
abbrev cX6_times : ByteArray := prog_8_method_66_code
def yX6_times : MethodName := ⟨RX6, "times", "(IIII)I"⟩
abbrev cX6_canAsk : ByteArray := prog_8_method_67_code
def yX6_canAsk : MethodName := ⟨RX6, "canAsk", "(IIII)Z"⟩
abbrev cX6_result : ByteArray := prog_8_method_68_code
def yX6_result : MethodName := ⟨RX6, "result", "(IIII)I"⟩
abbrev cX6_resultByCube : ByteArray := prog_8_method_69_code
def yX6_resultByCube : MethodName := ⟨RX6, "resultByCube", "(IIII)I"⟩
abbrev cX6_levels : ByteArray := prog_8_method_70_code
def yX6_levels : MethodName := ⟨RX6, "levels", "(IIZ)J"⟩
def RJ13 : String := "java/lang/Long"
def TJ13 : u_T := fun k => match k with
  | _ => ("", "", "", false)
def tyJ13 : Nat → FieldType := fun k => match k with
  | _ => .int
abbrev wsJ130 : List Cond := u_ws RJ13 TJ13 0
theorem nmJ13 : ∀ a, a < 0 → ∀ b, b < 0 → a ≠ b → (TJ13 a).2.1 ≠ (TJ13 b).2.1 := by decide +kernel
theorem tyJ13_ok : ∀ k, k < 0 → parseFieldDescriptor (TJ13 k).2.2.1 = some (tyJ13 k) := by decide +kernel
abbrev cJ13_bitCount_95d88 : ByteArray := prog_13_method_50_code
def yJ13_bitCount_95d88 : MethodName := ⟨RJ13, "bitCount", "(J)I"⟩
def RJ9 : String := "java/lang/Math"
def TJ9 : u_T := fun k => match k with
  | _ => ("", "", "", false)
def tyJ9 : Nat → FieldType := fun k => match k with
  | _ => .int
abbrev wsJ90 : List Cond := u_ws RJ9 TJ9 0
theorem nmJ9 : ∀ a, a < 0 → ∀ b, b < 0 → a ≠ b → (TJ9 a).2.1 ≠ (TJ9 b).2.1 := by decide +kernel
theorem tyJ9_ok : ∀ k, k < 0 → parseFieldDescriptor (TJ9 k).2.2.1 = some (tyJ9 k) := by decide +kernel
abbrev cJ9_max_7cf53 : ByteArray := prog_14_method_65_code
def yJ9_max_7cf53 : MethodName := ⟨RJ9, "max", "(II)I"⟩
def RJ0 : String := "java/lang/String"
def TJ0 : u_T := fun k => match k with
  | _ => ("", "", "", false)
def tyJ0 : Nat → FieldType := fun k => match k with
  | _ => .int
abbrev wsJ00 : List Cond := u_ws RJ0 TJ0 0
theorem nmJ0 : ∀ a, a < 0 → ∀ b, b < 0 → a ≠ b → (TJ0 a).2.1 ≠ (TJ0 b).2.1 := by decide +kernel
theorem tyJ0_ok : ∀ k, k < 0 → parseFieldDescriptor (TJ0 k).2.2.1 = some (tyJ0 k) := by decide +kernel
def RL : String := "BilineariumLaw"
abbrev cL_prime : ByteArray := method_3_code
def yL_prime : MethodName := ⟨RL, "prime", "(LBilinearium;I[J)I"⟩
abbrev cL_cube : ByteArray := method_4_code
def yL_cube : MethodName := ⟨RL, "cube", "(LBilinearium;III[J)I"⟩
abbrev cL_matrices : ByteArray := method_5_code
def yL_matrices : MethodName := ⟨RL, "matrices", "(LBilinearium;III[J)I"⟩
abbrev cL_polynomials : ByteArray := method_6_code
def yL_polynomials : MethodName := ⟨RL, "polynomials", "(LBilinearium;II[J)I"⟩
abbrev cL_group : ByteArray := method_7_code
def yL_group : MethodName := ⟨RL, "group", "(LBilinearium;I[J)I"⟩
abbrev cL_set : ByteArray := method_8_code
def yL_set : MethodName := ⟨RL, "set", "(LBilinearium;IIIII[J)I"⟩
abbrev cL_move : ByteArray := method_9_code
def yL_move : MethodName := ⟨RL, "move", "(LBilinearium;IIIII[J)I"⟩
abbrev cL_sum : ByteArray := method_10_code
def yL_sum : MethodName := ⟨RL, "sum", "(LBilinearium;II[J)I"⟩
abbrev cL_product : ByteArray := method_11_code
def yL_product : MethodName := ⟨RL, "product", "(LBilinearium;II[J)I"⟩
abbrev cL_way : ByteArray := method_12_code
def yL_way : MethodName := ⟨RL, "way", "(LBilinearium;I[J)I"⟩
abbrev cL_multiply : ByteArray := method_13_code
def yL_multiply : MethodName := ⟨RL, "multiply", "(LBilinearium;IIII[J)I"⟩
abbrev cL_plain : ByteArray := method_14_code
def yL_plain : MethodName := ⟨RL, "plain", "(LBilinearium;I[J)I"⟩
abbrev cL_flip : ByteArray := method_15_code
def yL_flip : MethodName := ⟨RL, "flip", "(LBilinearium;IIII)I"⟩
abbrev cL_reduce : ByteArray := method_16_code
def yL_reduce : MethodName := ⟨RL, "reduce", "(LBilinearium;I[J)I"⟩
abbrev cL_walk : ByteArray := method_17_code
def yL_walk : MethodName := ⟨RL, "walk", "(LBilinearium;III[J)I"⟩
abbrev cL_at : ByteArray := method_18_code
def yL_at : MethodName := ⟨RL, "at", "(LBilinearium;IIII[J)I"⟩
abbrev cL_flattening : ByteArray := method_19_code
def yL_flattening : MethodName := ⟨RL, "flattening", "(LBilinearium;II[J)I"⟩
abbrev cL_bound : ByteArray := method_20_code
def yL_bound : MethodName := ⟨RL, "bound", "(LBilinearium;I[J)I"⟩
abbrev cL_least : ByteArray := method_21_code
def yL_least : MethodName := ⟨RL, "least", "(LBilinearium;I[J)I"⟩
abbrev cL_leastAnew : ByteArray := method_22_code
def yL_leastAnew : MethodName := ⟨RL, "leastAnew", "(LBilinearium;I[J)I"⟩
abbrev cL_ofWay : ByteArray := method_23_code
def yL_ofWay : MethodName := ⟨RL, "ofWay", "(LBilinearium;II[J)I"⟩
abbrev cL_vector : ByteArray := method_24_code
def yL_vector : MethodName := ⟨RL, "vector", "(LBilinearium;III[J)I"⟩
abbrev cL_result : ByteArray := method_25_code
def yL_result : MethodName := ⟨RL, "result", "(LBilinearium;IIII[J)I"⟩
abbrev cL_resultByCube : ByteArray := method_26_code
def yL_resultByCube : MethodName := ⟨RL, "resultByCube", "(LBilinearium;IIII[J)I"⟩
abbrev cL_levels : ByteArray := method_27_code
def yL_levels : MethodName := ⟨RL, "levels", "(LBilinearium;IIZ[J)I"⟩
abbrev cL_law : ByteArray := code
def yL_law : MethodName := ⟨RL, "law", "([I)Z"⟩
set_option maxRecDepth 20000 in
abbrev vwCl : List vw_C := [(RX0, TX0, 5), (RX1, TX1, 3), (RX2, TX2, 3), (RX3, TX3, 2), (RX4, TX4, 4), (RX5, TX5, 9), (RX6, TX6, 19)]
-- LISTS
def zNests : List (String × Nat × MethodName × String) := [("Bilinearium", 23, ({ cls := "Bilinearium$Flat", name := "<init>", desc := "()V" } : MethodName), "Bilinearium"), ("Bilinearium", 30, ({ cls := "Bilinearium$Search", name := "<init>", desc := "()V" } : MethodName), "Bilinearium"), ("Bilinearium", 37, ({ cls := "Bilinearium$Sums", name := "<init>", desc := "()V" } : MethodName), "Bilinearium"), ("Bilinearium$Cube", 35, ({ cls := "Bilinearium", name := "put", desc := "([III)V" } : MethodName), "Bilinearium"), ("Bilinearium$Cube", 31, ({ cls := "Bilinearium", name := "get", desc := "([II)I" } : MethodName), "Bilinearium"), ("Bilinearium$Cube", 46, ({ cls := "Bilinearium", name := "remainder", desc := "(II)I" } : MethodName), "Bilinearium"), ("Bilinearium$Way", 34, ({ cls := "Bilinearium", name := "put", desc := "([III)V" } : MethodName), "Bilinearium"), ("Bilinearium$Way", 64, ({ cls := "Bilinearium", name := "codeOf", desc := "(IIII)I" } : MethodName), "Bilinearium"), ("Bilinearium$Way", 26, ({ cls := "Bilinearium", name := "get", desc := "([II)I" } : MethodName), "Bilinearium"), ("Bilinearium$Way", 75, ({ cls := "Bilinearium", name := "addedCode", desc := "(IIIII)I" } : MethodName), "Bilinearium"), ("Bilinearium$Way", 103, ({ cls := "Bilinearium", name := "remainder", desc := "(II)I" } : MethodName), "Bilinearium"), ("Bilinearium$Flat", 55, ({ cls := "Bilinearium", name := "put", desc := "([III)V" } : MethodName), "Bilinearium"), ("Bilinearium$Flat", 51, ({ cls := "Bilinearium", name := "get", desc := "([II)I" } : MethodName), "Bilinearium"), ("Bilinearium$Flat", 62, ({ cls := "Bilinearium", name := "remainder", desc := "(II)I" } : MethodName), "Bilinearium"), ("Bilinearium$Search", 47, ({ cls := "Bilinearium", name := "putLong", desc := "([JIJ)V" } : MethodName), "Bilinearium"), ("Bilinearium$Search", 56, ({ cls := "Bilinearium", name := "power", desc := "(II)I" } : MethodName), "Bilinearium"), ("Bilinearium$Search", 78, ({ cls := "Bilinearium", name := "numberIn", desc := "(IIII)I" } : MethodName), "Bilinearium"), ("Bilinearium$Search", 74, ({ cls := "Bilinearium", name := "put", desc := "([III)V" } : MethodName), "Bilinearium"), ("Bilinearium$Search", 43, ({ cls := "Bilinearium", name := "getLong", desc := "([JI)J" } : MethodName), "Bilinearium"), ("Bilinearium$Search", 39, ({ cls := "Bilinearium", name := "get", desc := "([II)I" } : MethodName), "Bilinearium"), ("Bilinearium$Way", 47, ({ cls := "Bilinearium", name := "numberIn", desc := "(IIII)I" } : MethodName), "Bilinearium"), ("Bilinearium$Sums", 19, ({ cls := "Bilinearium", name := "putLong", desc := "([JIJ)V" } : MethodName), "Bilinearium"), ("Bilinearium$Sums", 23, ({ cls := "Bilinearium", name := "getLong", desc := "([JI)J" } : MethodName), "Bilinearium"), ("Bilinearium$Way", 163, ({ cls := "Bilinearium", name := "multipliedCodes", desc := "(IIII)I" } : MethodName), "Bilinearium")]
def zStrs : List (String × Nat × String) := [("Bilinearium", 58, "the prime is 2, 3 or 5"), ("Bilinearium", 65, "there are cubes"), ("Bilinearium", 252, "a size is out of range"), ("Bilinearium", 286, "there are 16 cubes"), ("Bilinearium", 256, "there is no such cube"), ("Bilinearium", 265, "there is no such place"), ("Bilinearium", 95, "the number is no remainder by the prime"), ("Bilinearium", 267, "there is no such side"), ("Bilinearium", 273, "there is no such slice"), ("Bilinearium", 108, "the slices are the same"), ("Bilinearium", 110, "times is out of range"), ("Bilinearium", 124, "the sizes are unlike"), ("Bilinearium", 139, "there are 16 ways"), ("Bilinearium", 259, "there is no such way"), ("Bilinearium", 282, "there is no vector of such a code"), ("Bilinearium", 277, "a way has up to 40 products"), ("Bilinearium", 275, "there is no such product"), ("Bilinearium", 177, "the products are the same"), ("Bilinearium", 183, "the vectors are unlike"), ("Bilinearium", 192, "the state is out of range"), ("Bilinearium", 194, "the steps are out of range"), ("Bilinearium", 284, "the least is told for the prime 2 and small cubes"), ("Bilinearium", 214, "what is out of range"), ("Bilinearium", 240, "levels is out of range"), ("Bilinearium", 242, "the way is for no product of square matrices")]
def zDecls : List MethodName := [({ cls := "java/lang/RuntimeException", name := "<init>", desc := "()V" } : MethodName), ({ cls := "java/lang/RuntimeException", name := "<init>", desc := "(Ljava/lang/String;)V" } : MethodName), ({ cls := "java/lang/Exception", name := "<init>", desc := "()V" } : MethodName), ({ cls := "java/lang/Exception", name := "<init>", desc := "(Ljava/lang/String;)V" } : MethodName), ({ cls := "java/lang/Throwable", name := "<init>", desc := "()V" } : MethodName), ({ cls := "java/lang/Throwable", name := "<init>", desc := "(Ljava/lang/String;)V" } : MethodName)]
def zExs : List String := ["java/lang/IllegalArgumentException", "java/lang/IllegalStateException", "java/lang/IndexOutOfBoundsException"]
theorem zcl0m : ∀ w ∈ u_ws RX0 TX0 5, w ∈ lw_tbl.filter goodWord := by decide +kernel
theorem zcl1m : ∀ w ∈ u_ws RX1 TX1 3, w ∈ lw_tbl.filter goodWord := by decide +kernel
theorem zcl2m : ∀ w ∈ u_ws RX2 TX2 3, w ∈ lw_tbl.filter goodWord := by decide +kernel
theorem zcl3m : ∀ w ∈ u_ws RX3 TX3 2, w ∈ lw_tbl.filter goodWord := by decide +kernel
theorem zcl4m : ∀ w ∈ u_ws RX4 TX4 4, w ∈ lw_tbl.filter goodWord := by decide +kernel
theorem zcl5m : ∀ w ∈ u_ws RX5 TX5 9, w ∈ lw_tbl.filter goodWord := by decide +kernel
theorem zcl6m : ∀ w ∈ u_ws RX6 TX6 19, w ∈ lw_tbl.filter goodWord := by decide +kernel
end
section
/-! THE WORLD: a heap as a function of addresses; the judgement zV: one instruction a row, the state a value -/
theorem ztbl_dummy : True := trivial
def zTbl : List Cond := lw_tbl.filter goodWord
theorem zin {w : Cond} (h : w ∈ lw_tbl) (g : goodWord w = true) : w ∈ zTbl := List.mem_filter.mpr ⟨h, g⟩
theorem zin_t {w : Cond} (i : Nat) (h : tables_1[i]? = some w) (g : goodWord w = true) : w ∈ zTbl := zin (List.mem_append_right _ (List.mem_of_getElem? h)) g
theorem zin_s {w : Cond} (i : Nat) (h : (k2_sels lw_privs)[i]? = some w) (g : goodWord w = true) : w ∈ zTbl := zin (List.mem_append_left _ (List.mem_of_getElem? h)) g
theorem zgood {c c2 : Cond} (h : c2 ∈ zTbl) : GoodIn (c :: zTbl) (c2 :: zTbl) := by
  have key : ∀ w ∈ zTbl, w ∈ (c :: zTbl) ∧ ((w.onTables && w.keeps) = true ∨ ∃ ty, w = .arrayClass ty) := fun w hw => ⟨List.mem_cons_of_mem _ hw, good_of_word (List.mem_filter.mp hw).2⟩
  intro w hw
  rcases List.mem_cons.mp hw with rfl | hw
  · exact key _ h
  · exact key w hw
abbrev ZE : Type := (Nat × vp_A) ⊕ (Nat × List Value)
abbrev ZH : Type := Nat → Option ZE
abbrev ZS : Type := ZH × Nat
abbrev ZD : Type := (Nat → ClassId) × (Nat → Nat → Nat) × (Nat → ClassId)
def zE (D : ZD) (e : ZE) : va_E := match e with
  | .inl x => .inl (D.2.2 x.1, x.2)
  | .inr o => .inr o
def zG (D : ZD) : va_G := (D.1, D.2.1)
def zP (D : ZD) (S : ZS) (H : Heap) : Prop := (∀ (a : Nat) (e : ZE), S.1 a = some e → va_at (zG D) vwCl (a, zE D e) H) ∧ H.size = S.2
abbrev zTy : List FieldType := [.int, .long, .boolean, .object "Bilinearium$Cube", .object "Bilinearium$Way"]
def zTys (D : ZD) : List (ClassId × FieldType) := [(D.2.2 0, .int), (D.2.2 1, .long), (D.2.2 2, .boolean), (D.2.2 3, .object "Bilinearium$Cube"), (D.2.2 4, .object "Bilinearium$Way")]
theorem zTys_at (D : ZD) {t : Nat} {ty : FieldType} (h : zTy[t]? = some ty) : (zTys D)[t]? = some (D.2.2 t, ty) := by
  match t, h with
  | 0, h => cases h; rfl
  | 1, h => cases h; rfl
  | 2, h => cases h; rfl
  | 3, h => cases h; rfl
  | 4, h => cases h; rfl
  | k + 5, h => simp at h
def zA (z0 : Nat) : Nat → Prop := fun q => z0 ≤ q
def zHp (D : ZD) (z0 : Nat) (S : ZS) (H : Heap) : Prop := zP D S H ∧ (∀ (a : Nat) (e : ZE), S.1 a = some e → z0 ≤ a) ∧ z0 ≤ S.2
theorem zHp.set {D : ZD} {z0 : Nat} {S : ZS} {H H1 : Heap} {a : Nat} {e0 e : ZE} (h : zHp D z0 S H) (ha : S.1 a = some e0) (he : va_at (zG D) vwCl (a, zE D e) H1) (oq : ∀ q : Nat, q ≠ a → H1[q]? = H[q]?) (z : H1.size = H.size) : zHp D z0 (va_up S.1 a (some e), S.2) H1 := by
  obtain ⟨⟨h1, h2⟩, h3, h4⟩ := h
  refine ⟨⟨fun b x hx => ?_, by rw [z]; exact h2⟩, fun b x hx => ?_, h4⟩
  · by_cases hb : b = a
    · subst hb
      simp only [va_up_self] at hx
      cases hx
      exact he
    · simp only [va_up_ne _ _ hb] at hx
      exact (h1 b x hx).kept (oq b hb)
  · by_cases hb : b = a
    · subst hb
      exact h3 b e0 ha
    · simp only [va_up_ne _ _ hb] at hx
      exact h3 b x hx
theorem zHp.none_size {D : ZD} {z0 : Nat} {S : ZS} {H : Heap} (h : zHp D z0 S H) {a : Nat} (ha : S.2 ≤ a) : S.1 a = none := by
  cases hx : S.1 a with
  | none => rfl
  | some e =>
    have hq : a < H.size := (h.1.1 a e hx).lt
    have hz := h.1.2
    exact absurd hq (by omega)
theorem zHp.push {D : ZD} {z0 : Nat} {S : ZS} {H H1 : Heap} {e : ZE} (h : zHp D z0 S H) (he : va_at (zG D) vwCl (S.2, zE D e) H1) (oq : ∀ q : Nat, q < H.size → H1[q]? = H[q]?) (z : H1.size = H.size + 1) : zHp D z0 (va_up S.1 S.2 (some e), S.2 + 1) H1 := by
  have hn := h.none_size (Nat.le_refl _)
  obtain ⟨⟨h1, h2⟩, h3, h4⟩ := h
  refine ⟨⟨fun b x hx => ?_, by rw [z, h2]⟩, fun b x hx => ?_, Nat.le_succ_of_le h4⟩
  · by_cases hb : b = S.2
    · subst hb
      simp only [va_up_self] at hx
      cases hx
      exact he
    · simp only [va_up_ne _ _ hb] at hx
      exact (h1 b x hx).kept (oq b ((h1 b x hx).lt))
  · by_cases hb : b = S.2
    · subst hb
      exact h4
    · simp only [va_up_ne _ _ hb] at hx
      exact h3 b x hx
def zSt (z0 : Nat) (U : State) (H : Heap) : Prop := vx_Zq Bundle.tN "UNASSIGNED_STACK" Bundle.steD (zA z0) U H ∧ vx_Zq Bundle.tN "SUPPRESSED_SENTINEL" Bundle.listD (zA z0) U H
def zVm (D : ZD) (s : State) : Prop := va_K (zG D) vwCl (zTys D) s ∧ (∀ q ∈ zNests, va_Nw (.methodLinkNest q.1 q.2.1 q.2.2.1 q.2.2.2) s) ∧ (va_AO "Bilinearium$Cube" s ∧ va_AO "Bilinearium$Way" s) ∧ (∀ q ∈ zStrs, ∃ sa, vk_R q.1 q.2.1 q.2.2 sa s) ∧ (∀ E ∈ zExs, va_Nw (.castable E E) s) ∧ (∀ E ∈ zExs, ∀ E2 ∈ zExs, E ≠ E2 → va_Nc E E2 s) ∧ (∀ y ∈ zDecls, va_Nw (.declares y) s)
theorem zNw_decl {y : MethodName} {s U : State} (hW : s.WarmedH U.vm) (hZ : va_Nw (.declares y) s) : va_Nw (.declares y) U := va_tabs rfl (rfl : (s.setVm U.vm).vm = U.vm) (by rw [Cond.declares_setVm hW.alike]; exact hZ)
theorem zVm.warm {D : ZD} {s U : State} (hW : s.WarmedH U.vm) (h : zVm D s) : zVm D U := by
  obtain ⟨h1, h2, h3, h4, h5, h6, h7⟩ := h
  exact ⟨va_K.moved hW.alike h1, fun q hq => va_Nw.warmM hW (h2 q hq), ⟨va_AO.moved hW.alike h3.1, va_AO.moved hW.alike h3.2⟩, fun q hq => (h4 q hq).elim fun sa h => ⟨sa, vk_R.warm hW h⟩, fun E hE => va_Nw.warmC hW (h5 E hE), fun E hE E2 hE2 hn => va_Nc.moved hW.alike (h6 E hE E2 hE2 hn), fun y hy => zNw_decl hW (h7 y hy)⟩
theorem zVm.calling {D : ZD} {U : State} {g : JFrame} {mk : MethodId} {a : Array Value} (h : zVm D U) : zVm D (U.calling g mk a) := zVm.warm (s := U) (U := U.calling g mk a) (State.WarmedH.refl U) h
/-- the world of a call: vm, heap, the two statics of Throwable -/
def zW (D : ZD) (z0 : Nat) (S : ZS) (U : State) : Prop := zVm D U ∧ zHp D z0 S U.heap ∧ zSt z0 U U.heap
theorem zSt.kept {z0 : Nat} {s : State} {H : Heap} {locs : List Loc} (h : zSt z0 s s.heap) (hS : va_S (zA z0) s.heap H locs) : zSt z0 s H := ⟨h.1.kept hS.2.1, h.2.kept hS.2.1⟩
theorem zSt.moved {z0 : Nat} {s U : State} {H : Heap} (hvm : s.vm.Alike U.vm) (h : zSt z0 s H) : zSt z0 U H := ⟨vx_Zq.moved hvm h.1, vx_Zq.moved hvm h.2⟩
theorem zW.blind {D : ZD} {z0 : Nat} {S : ZS} {av : List Value} : FrameBlind (va_Pc av (zW D z0 S)) := by
  intro a U g mk h
  obtain ⟨h0, h1, h2, h3⟩ := h
  exact ⟨h0, h1.calling, h2, zSt.moved (s := U) (U := U.calling g mk a) (Vm.Alike.refl U.vm) h3⟩
/-- what a method owes at its end: the answer, the world -/
def zQc (D : ZD) (z0 : Nat) (res : Option Value) (S : ZS) : Array Value → State → Outcome → State → Prop := fun _ st oc t => oc = .returned res ∧ zHp D z0 S t.heap ∧ va_F (zA z0) st t
/-- .. at a throw: the heap, of some size -/
def zXc (D : ZD) (z0 : Nat) (E0 : String) (h : ZH) : String → State → State → Prop := fun E st t => E = E0 ∧ (∃ n : Nat, zHp D z0 (h, n) t.heap) ∧ va_F (zA z0) st t
abbrev zws (y : MethodName) (cc : ByteArray) (nL : Nat) (ret : Option FieldType) : List Cond := Cond.code y cc nL ret :: zTbl
def zMet (l : Launch) (D : ZD) (z0 : Nat) (y : MethodName) (cc : ByteArray) (nL : Nat) (ret : Option FieldType) (rm : Room) (av : List Value) (S : ZS) (res : Option Value) (S' : ZS) : Prop :=
  Met l y (zws y cc nL ret) rm (va_Pc av (zW D z0 S)) (zQc D z0 res S') rm.cells rm.slots (zA z0)
/-- a result that may be a throw: .inl (answer, state) or .inr (class, heap) -/
abbrev ZX : Type := String × ZH
def zMetT (l : Launch) (D : ZD) (z0 : Nat) (y : MethodName) (cc : ByteArray) (nL : Nat) (ret : Option FieldType) (rm : Room) (av : List Value) (S : ZS) (R : (Option Value × ZS) ⊕ ZX) : Prop :=
  vx_Met l y (zws y cc nL ret) rm (va_Pc av (zW D z0 S)) (fun a st oc t => ∃ v S', R = .inl (v, S') ∧ zQc D z0 v S' a st oc t) (fun E st t => ∃ E0 h, R = .inr (E0, h) ∧ zXc D z0 E0 h E st t) rm.cells rm.slots (zA z0)
-- the judgement
abbrev ZG : Type := Program × Launch × Env × Room × State × MethodId × Array Value × List Frame × Method × Code × (State → Prop) × ZD × Nat
def zV (G : ZG) (nL : Nat) (S : ZS) (ce sl pc : Nat) (lv : List (Nat × Value)) (st : List Value) (P : Prop) : Prop := match G with
  | (p, l, e, R, s, m, args, below, meth, c, Q, D, z0) => P → ∀ (H : Heap) (locs : List Loc) (ls : Array Slot), zHp D z0 S H → va_S (zA z0) s.heap H locs → lv_has ls nL lv → W p l e R s m args below meth c H locs ce sl Q (F0 m pc ls st)
def zFix (G : ZG) (cc : ByteArray) (own : String) (nL : Nat) (ret : Option FieldType) (rm : Room) : Prop := match G with
  | (p, l, e, R, s, m, args, below, meth, c, Q, D, z0) => p.tables.exec = Jvm.exec ∧ c.code = cc ∧ c.maxLocals = nL ∧ s.vm.findClass own = some m.cls ∧ (∀ w ∈ zTbl, w.before args s = true) ∧ zVm D s ∧ zSt z0 s s.heap ∧ meth.locks = false ∧ R = rm ∧ meth.sig.returnType = ret ∧ z0 ≤ s.heap.size
/-- what the end of a method needs -/
def zEnd (G : ZG) (res : Option Value) (S : ZS) (rm : Room) : Prop := match G with
  | (p, l, e, R, s, m, args, below, meth, c, Q, D, z0) => ∃ Qc, Q = MQ below Qc args s rm.cells rm.slots (zA z0) ∧ ∀ t, zHp D z0 S t.heap → va_F (zA z0) s t → Qc args s (.returned res) t
def zEndT (G : ZG) (res : Option Value) (S : ZS) (rm : Room) : Prop := match G with
  | (p, l, e, R, s, m, args, below, meth, c, Q, D, z0) => ∃ Qc XC, Q = vx_MQ below Qc XC args s rm.cells rm.slots (zA z0) ∧ ∀ t, zHp D z0 S t.heap → va_F (zA z0) s t → Qc args s (.returned res) t
def zEndX (G : ZG) (E : String) (h : ZH) (rm : Room) : Prop := match G with
  | (p, l, e, R, s, m, args, below, meth, c, Q, D, z0) => ∃ Qc XC, Q = vx_MQ below Qc XC args s rm.cells rm.slots (zA z0) ∧ ∀ t n, zHp D z0 (h, n) t.heap → va_F (zA z0) s t → XC E s t
/-- no table of handlers; the launch is one without stack traces -/
def zNoTab (G : ZG) : Prop := match G with
  | (p, l, e, R, s, m, args, below, meth, c, Q, D, z0) => (∀ x ∈ c.exceptionTable.toList, False) ∧ l.stackTraces = false
-- state readers and writers
def zgI (S : ZS) (a ci k : Nat) : Option Int32 := match S.1 a with
  | some (.inr (c, fs)) => if c = ci then (match fs[k]? with | some (.int v) => some v | _ => none) else none
  | _ => none
def zgR (S : ZS) (a ci k : Nat) : Option Nat := match S.1 a with
  | some (.inr (c, fs)) => if c = ci then (match fs[k]? with | some (.ref v) => some v | _ => none) else none
  | _ => none
def zpF (S : ZS) (a ci k : Nat) (v : Value) : Option ZS := match S.1 a with
  | some (.inr (c, fs)) => if c = ci then (if k < fs.length then some (va_up S.1 a (some (.inr (c, fs.set k v))), S.2) else none) else none
  | _ => none
def zcl {α : Type} (S : ZS) (a ci : Nat) (o : Option α) : Option α := match S.1 a with
  | some (.inr (c, _)) => if c = ci then o else none
  | _ => none
def zaI (S : ZS) (a t : Nat) (i : Int32) : Option Int32 := match S.1 a with
  | some (.inl (u, n, .inl f)) => if u = t ∧ ¬ (i < 0 ∨ n ≤ i.toNatClampNeg) then some (f i.toNatClampNeg) else none
  | _ => none
def zaJ (S : ZS) (a : Nat) (i : Int32) : Option Int64 := match S.1 a with
  | some (.inl (u, n, .inr (.inl f))) => if u = 1 ∧ ¬ (i < 0 ∨ n ≤ i.toNatClampNeg) then some (f i.toNatClampNeg) else none
  | _ => none
def zaQ (S : ZS) (a t : Nat) (i : Int32) : Option (Option Nat) := match S.1 a with
  | some (.inl (u, n, .inr (.inr (.inr (.inr f))))) => if u = t ∧ ¬ (i < 0 ∨ n ≤ i.toNatClampNeg) then some (f i.toNatClampNeg) else none
  | _ => none
def zsI (S : ZS) (a t : Nat) (i : Int32) (x : Int32) : Option ZS := match S.1 a with
  | some (.inl (u, n, .inl f)) => if u = t ∧ ¬ (i < 0 ∨ n ≤ i.toNatClampNeg) then some (va_up S.1 a (some (.inl (u, n, .inl (va_up f i.toNatClampNeg x)))), S.2) else none
  | _ => none
def zsJ (S : ZS) (a : Nat) (i : Int32) (x : Int64) : Option ZS := match S.1 a with
  | some (.inl (u, n, .inr (.inl f))) => if u = 1 ∧ ¬ (i < 0 ∨ n ≤ i.toNatClampNeg) then some (va_up S.1 a (some (.inl (u, n, .inr (.inl (va_up f i.toNatClampNeg x))))), S.2) else none
  | _ => none
def zsQ (S : ZS) (a t ci : Nat) (i : Int32) (x : Nat) : Option ZS := match S.1 a with
  | some (.inl (u, n, .inr (.inr (.inr (.inr f))))) => if u = t ∧ ¬ (i < 0 ∨ n ≤ i.toNatClampNeg) then zcl S x ci (some (va_up S.1 a (some (.inl (u, n, .inr (.inr (.inr (.inr (va_up f i.toNatClampNeg (some x)))))))), S.2)) else none
  | _ => none
def zal (S : ZS) (a : Nat) : Option Int32 := match S.1 a with
  | some (.inl (u, n, _)) => if u < 5 then some (Int32.ofNat n) else none
  | _ => none
abbrev zn0 (t N : Nat) : ZE := match t with
  | 0 => .inl (0, N, .inl (fun _ => 0))
  | 1 => .inl (1, N, .inr (.inl (fun _ => 0)))
  | 2 => .inl (2, N, .inl (fun _ => 0))
  | t => .inl (t, N, .inr (.inr (.inr (.inr (fun _ => none)))))
def zna (S : ZS) (t N : Nat) : ZS := (va_up S.1 S.2 (some (zn0 t N)), S.2 + 1)
def zno (S : ZS) (ci : Nat) (fs : List Value) : ZS := (va_up S.1 S.2 (some (.inr (ci, fs))), S.2 + 1)
def zdiv (a b : Int32) : Option Int32 := if b = 0 then none else some (a / b)
def zrem (a b : Int32) : Option Int32 := if b = 0 then none else some (a % b)
-- loops
def ziter {σ ρ : Type} (body : σ → Option (σ ⊕ ρ)) : Nat → σ → Option ρ
  | 0, _ => none
  | n + 1, x => match body x with
    | none => none
    | some (.inl y) => ziter body n y
    | some (.inr r) => some r
def zcont {σ ρ : Type} (body : σ → Option (σ ⊕ ρ)) (n : Nat) (e : Option (σ ⊕ ρ)) : Option ρ := match e with
    | none => none
    | some (.inl y) => ziter body n y
    | some (.inr r) => some r
def zex {σ ρ : Type} (o : Option ρ) : Option (σ ⊕ ρ) := match o with
  | none => none
  | some r => some (.inr r)
theorem zcont_ex {σ ρ : Type} (body : σ → Option (σ ⊕ ρ)) (n : Nat) (o : Option ρ) : zcont body n (zex o) = o := by cases o <;> rfl
def zF : Nat := 10000
def zbT {α β : Type} (o : Option (α ⊕ ZX)) (k : α → Option (β ⊕ ZX)) : Option (β ⊕ ZX) := match o with
  | none => none
  | some (.inl y) => k y
  | some (.inr z) => some (.inr z)
def zmq {τ : Type} (r : Option Nat) (o1 : Option τ) (o2 : Nat → Option τ) : Option τ := match r with
  | none => o1
  | some a => o2 a
def zIni (G : ZG) : Prop := match G with
  | (p, l, e, R, s, m, args, below, meth, c, Q, D, z0) => meth.name = "<init>"
def zLks (G : ZG) : Prop := match G with
  | (p, l, e, R, s, m, args, below, meth, c, Q, D, z0) => meth.locks = false
def zAOs (CN : String) : Prop := ∀ s : State, (va_AO "Bilinearium$Cube" s ∧ va_AO "Bilinearium$Way" s) → va_AO CN s
end
section
/-! ROWS of zV -/
section
variable {G : ZG} {cc : ByteArray} {own : String} {nL : Nat} {ret : Option FieldType} {rm : Room} {S : ZS} {ce sl pc n : Nat} {lv lv' : List (Nat × Value)} {st : List Value} {P : Prop}
def zlk : List (Nat × Value) → Nat → Option Value
  | [], _ => none
  | q :: r, i => bif Nat.beq q.1 i then some q.2 else zlk r i
theorem zlk_mem : ∀ {l : List (Nat × Value)} {i : Nat} {v : Value}, zlk l i = some v → (i, v) ∈ l
  | q :: r, i, v, h => by
    unfold zlk at h
    cases hb : Nat.beq q.1 i with
    | true =>
      rw [hb] at h
      have h1 := Nat.eq_of_beq_eq_true hb
      have h2 : q.2 = v := Option.some.inj h
      rw [← h1, ← h2]
      exact List.mem_cons_self
    | false =>
      rw [hb] at h
      exact List.mem_cons_of_mem _ (zlk_mem h)
theorem zlk_at {ls : Array Slot} {i : Nat} {v : Value} (h : lv_has ls nL lv) (hk : zlk lv i = some v) : ls[i]? = some (.val v) := h.2.2 (i, v) (zlk_mem hk)
def zins (i : Nat) (v : Value) : List (Nat × Value) → List (Nat × Value)
  | [] => [(i, v)]
  | q :: r => bif Nat.blt i q.1 then (i, v) :: q :: r else q :: zins i v r
theorem zins_mem {i : Nat} {v : Value} : ∀ {l : List (Nat × Value)} {q : Nat × Value}, q ∈ zins i v l → q ∈ (i, v) :: l
  | [], q, h => h
  | x :: r, q, h => by
    unfold zins at h
    cases hb : Nat.blt i x.1 with
    | true => rw [hb] at h; exact h
    | false =>
      rw [hb] at h
      rcases List.mem_cons.mp h with rfl | h
      · exact List.mem_cons_of_mem _ List.mem_cons_self
      · rcases List.mem_cons.mp (zins_mem h) with rfl | h
        · exact List.mem_cons_self
        · exact List.mem_cons_of_mem _ (List.mem_cons_of_mem _ h)
def zset1 (l : List (Nat × Value)) (i : Nat) (v : Value) : List (Nat × Value) := zins i v (l.filter (fun q => !(q.1 == i) && !(q.1 + 1 == i && q.2.category == 2)))
def zset2 (l : List (Nat × Value)) (i : Nat) (v : Value) : List (Nat × Value) := zins i v (l.filter (fun q => !(q.1 == i) && (!(q.1 == i + 1) && !(q.1 + 1 == i && q.2.category == 2))))
theorem zlv_to {ls : Array Slot} {l l' : List (Nat × Value)} (h : lv_has ls nL l) (hm : ∀ q ∈ l', q ∈ l) : lv_has ls nL l' := ⟨h.1, h.2.1, fun q hq => h.2.2 q (hm q hq)⟩
theorem zv_sub (k : zV G nL S ce sl pc lv' st P) (hm : ∀ q ∈ lv', q ∈ lv) : zV G nL S ce sl pc lv st P := by
  obtain ⟨p, l, e, R, s, m, args, below, meth, c, Q, D, z0⟩ := G
  intro hP H locs ls h1 h2 h3
  exact k hP H locs ls h1 h2 (zlv_to h3 hm)
theorem zv_wide {ce' sl' : Nat} (k : zV G nL S ce' sl' pc lv st P) (h1 : ce ≤ ce') (h2 : sl ≤ sl') : zV G nL S ce sl pc lv st P := by
  obtain ⟨p, l, e, R, s, m, args, below, meth, c, Q, D, z0⟩ := G
  intro hP H locs ls a1 a2 a3
  exact W.widen h1 h2 (k hP H locs ls a1 a2 a3)
theorem zv_imp {P' : Prop} (h : P → P') (k : zV G nL S ce sl pc lv st P') : zV G nL S ce sl pc lv st P := by
  obtain ⟨p, l, e, R, s, m, args, below, meth, c, Q, D, z0⟩ := G
  intro hP
  exact k (h hP)
theorem zv_of (hP : P) (k : zV G nL S ce sl pc lv st P) : zV G nL S ce sl pc lv st True := by
  obtain ⟨p, l, e, R, s, m, args, below, meth, c, Q, D, z0⟩ := G
  intro _
  exact k hP
theorem zr_iadd {x y : Int32} (h0 : zFix G cc own nL ret rm)  (d : decode cc pc = .ok (.iadd, 1)) (hn : pc + 1 = n) (k : zV G nL S ce sl n lv (.int (x + y) :: st) P) : zV G nL S ce sl pc lv (.int y :: .int x :: st) P := by
  obtain ⟨p, l, e, R, s, m, args, below, meth, c, Q, D, z0⟩ := G
  obtain ⟨hx, hb, -⟩ := h0
  subst hn
  intro hP H locs ls h1 h2 h3
  exact lv_iadd hx hb d (k hP H locs ls h1 h2 h3)
theorem zr_isub {x y : Int32} (h0 : zFix G cc own nL ret rm)  (d : decode cc pc = .ok (.isub, 1)) (hn : pc + 1 = n) (k : zV G nL S ce sl n lv (.int (x - y) :: st) P) : zV G nL S ce sl pc lv (.int y :: .int x :: st) P := by
  obtain ⟨p, l, e, R, s, m, args, below, meth, c, Q, D, z0⟩ := G
  obtain ⟨hx, hb, -⟩ := h0
  subst hn
  intro hP H locs ls h1 h2 h3
  exact lv_isub hx hb d (k hP H locs ls h1 h2 h3)
theorem zr_imul {x y : Int32} (h0 : zFix G cc own nL ret rm)  (d : decode cc pc = .ok (.imul, 1)) (hn : pc + 1 = n) (k : zV G nL S ce sl n lv (.int (x * y) :: st) P) : zV G nL S ce sl pc lv (.int y :: .int x :: st) P := by
  obtain ⟨p, l, e, R, s, m, args, below, meth, c, Q, D, z0⟩ := G
  obtain ⟨hx, hb, -⟩ := h0
  subst hn
  intro hP H locs ls h1 h2 h3
  exact lv_imul hx hb d (k hP H locs ls h1 h2 h3)
theorem zr_iand {x y : Int32} (h0 : zFix G cc own nL ret rm)  (d : decode cc pc = .ok (.iand, 1)) (hn : pc + 1 = n) (k : zV G nL S ce sl n lv (.int (x &&& y) :: st) P) : zV G nL S ce sl pc lv (.int y :: .int x :: st) P := by
  obtain ⟨p, l, e, R, s, m, args, below, meth, c, Q, D, z0⟩ := G
  obtain ⟨hx, hb, -⟩ := h0
  subst hn
  intro hP H locs ls h1 h2 h3
  exact lv_iand hx hb d (k hP H locs ls h1 h2 h3)
theorem zr_ior {x y : Int32} (h0 : zFix G cc own nL ret rm)  (d : decode cc pc = .ok (.ior, 1)) (hn : pc + 1 = n) (k : zV G nL S ce sl n lv (.int (x ||| y) :: st) P) : zV G nL S ce sl pc lv (.int y :: .int x :: st) P := by
  obtain ⟨p, l, e, R, s, m, args, below, meth, c, Q, D, z0⟩ := G
  obtain ⟨hx, hb, -⟩ := h0
  subst hn
  intro hP H locs ls h1 h2 h3
  exact lv_ior hx hb d (k hP H locs ls h1 h2 h3)
theorem zr_ixor {x y : Int32} (h0 : zFix G cc own nL ret rm)  (d : decode cc pc = .ok (.ixor, 1)) (hn : pc + 1 = n) (k : zV G nL S ce sl n lv (.int (x ^^^ y) :: st) P) : zV G nL S ce sl pc lv (.int y :: .int x :: st) P := by
  obtain ⟨p, l, e, R, s, m, args, below, meth, c, Q, D, z0⟩ := G
  obtain ⟨hx, hb, -⟩ := h0
  subst hn
  intro hP H locs ls h1 h2 h3
  exact lv_ixor hx hb d (k hP H locs ls h1 h2 h3)
theorem zr_ishl {x y : Int32} (h0 : zFix G cc own nL ret rm)  (d : decode cc pc = .ok (.ishl, 1)) (hn : pc + 1 = n) (k : zV G nL S ce sl n lv (.int (x <<< (y &&& 31)) :: st) P) : zV G nL S ce sl pc lv (.int y :: .int x :: st) P := by
  obtain ⟨p, l, e, R, s, m, args, below, meth, c, Q, D, z0⟩ := G
  obtain ⟨hx, hb, -⟩ := h0
  subst hn
  intro hP H locs ls h1 h2 h3
  exact lv_ishl hx hb d (k hP H locs ls h1 h2 h3)
theorem zr_ishr {x y : Int32} (h0 : zFix G cc own nL ret rm)  (d : decode cc pc = .ok (.ishr, 1)) (hn : pc + 1 = n) (k : zV G nL S ce sl n lv (.int (x >>> (y &&& 31)) :: st) P) : zV G nL S ce sl pc lv (.int y :: .int x :: st) P := by
  obtain ⟨p, l, e, R, s, m, args, below, meth, c, Q, D, z0⟩ := G
  obtain ⟨hx, hb, -⟩ := h0
  subst hn
  intro hP H locs ls h1 h2 h3
  exact lv_ishr hx hb d (k hP H locs ls h1 h2 h3)
theorem zr_iushr {x y : Int32} (h0 : zFix G cc own nL ret rm)  (d : decode cc pc = .ok (.iushr, 1)) (hn : pc + 1 = n) (k : zV G nL S ce sl n lv (.int ((x.toUInt32 >>> (y.toUInt32 &&& Int32.toUInt32 31)).toInt32) :: st) P) : zV G nL S ce sl pc lv (.int y :: .int x :: st) P := by
  obtain ⟨p, l, e, R, s, m, args, below, meth, c, Q, D, z0⟩ := G
  obtain ⟨hx, hb, -⟩ := h0
  subst hn
  intro hP H locs ls h1 h2 h3
  exact lv_iushr hx hb d rfl (k hP H locs ls h1 h2 h3)
theorem zr_ladd {x y : Int64} (h0 : zFix G cc own nL ret rm)  (d : decode cc pc = .ok (.ladd, 1)) (hn : pc + 1 = n) (k : zV G nL S ce sl n lv (.long (x + y) :: st) P) : zV G nL S ce sl pc lv (.long y :: .long x :: st) P := by
  obtain ⟨p, l, e, R, s, m, args, below, meth, c, Q, D, z0⟩ := G
  obtain ⟨hx, hb, -⟩ := h0
  subst hn
  intro hP H locs ls h1 h2 h3
  exact lv_ladd hx hb d (k hP H locs ls h1 h2 h3)
theorem zr_lsub {x y : Int64} (h0 : zFix G cc own nL ret rm)  (d : decode cc pc = .ok (.lsub, 1)) (hn : pc + 1 = n) (k : zV G nL S ce sl n lv (.long (x - y) :: st) P) : zV G nL S ce sl pc lv (.long y :: .long x :: st) P := by
  obtain ⟨p, l, e, R, s, m, args, below, meth, c, Q, D, z0⟩ := G
  obtain ⟨hx, hb, -⟩ := h0
  subst hn
  intro hP H locs ls h1 h2 h3
  exact lv_lsub hx hb d (k hP H locs ls h1 h2 h3)
theorem zr_lmul {x y : Int64} (h0 : zFix G cc own nL ret rm)  (d : decode cc pc = .ok (.lmul, 1)) (hn : pc + 1 = n) (k : zV G nL S ce sl n lv (.long (x * y) :: st) P) : zV G nL S ce sl pc lv (.long y :: .long x :: st) P := by
  obtain ⟨p, l, e, R, s, m, args, below, meth, c, Q, D, z0⟩ := G
  obtain ⟨hx, hb, -⟩ := h0
  subst hn
  intro hP H locs ls h1 h2 h3
  exact lv_lmul hx hb d (k hP H locs ls h1 h2 h3)
theorem zr_land {x y : Int64} (h0 : zFix G cc own nL ret rm)  (d : decode cc pc = .ok (.land, 1)) (hn : pc + 1 = n) (k : zV G nL S ce sl n lv (.long (x &&& y) :: st) P) : zV G nL S ce sl pc lv (.long y :: .long x :: st) P := by
  obtain ⟨p, l, e, R, s, m, args, below, meth, c, Q, D, z0⟩ := G
  obtain ⟨hx, hb, -⟩ := h0
  subst hn
  intro hP H locs ls h1 h2 h3
  exact lv_land hx hb d (k hP H locs ls h1 h2 h3)
theorem zr_lor {x y : Int64} (h0 : zFix G cc own nL ret rm)  (d : decode cc pc = .ok (.lor, 1)) (hn : pc + 1 = n) (k : zV G nL S ce sl n lv (.long (x ||| y) :: st) P) : zV G nL S ce sl pc lv (.long y :: .long x :: st) P := by
  obtain ⟨p, l, e, R, s, m, args, below, meth, c, Q, D, z0⟩ := G
  obtain ⟨hx, hb, -⟩ := h0
  subst hn
  intro hP H locs ls h1 h2 h3
  exact lv_lor hx hb d (k hP H locs ls h1 h2 h3)
theorem zr_lxor {x y : Int64} (h0 : zFix G cc own nL ret rm)  (d : decode cc pc = .ok (.lxor, 1)) (hn : pc + 1 = n) (k : zV G nL S ce sl n lv (.long (x ^^^ y) :: st) P) : zV G nL S ce sl pc lv (.long y :: .long x :: st) P := by
  obtain ⟨p, l, e, R, s, m, args, below, meth, c, Q, D, z0⟩ := G
  obtain ⟨hx, hb, -⟩ := h0
  subst hn
  intro hP H locs ls h1 h2 h3
  exact lv_lxor hx hb d (k hP H locs ls h1 h2 h3)
theorem zr_lshl {x : Int64} {y : Int32} (h0 : zFix G cc own nL ret rm)  (d : decode cc pc = .ok (.lshl, 1)) (hn : pc + 1 = n) (k : zV G nL S ce sl n lv (.long (x <<< (y.toInt64 &&& 63)) :: st) P) : zV G nL S ce sl pc lv (.int y :: .long x :: st) P := by
  obtain ⟨p, l, e, R, s, m, args, below, meth, c, Q, D, z0⟩ := G
  obtain ⟨hx, hb, -⟩ := h0
  subst hn
  intro hP H locs ls h1 h2 h3
  exact lv_lshl hx hb d rfl (k hP H locs ls h1 h2 h3)
theorem zr_lushr {x : Int64} {y : Int32} (h0 : zFix G cc own nL ret rm)  (d : decode cc pc = .ok (.lushr, 1)) (hn : pc + 1 = n) (k : zV G nL S ce sl n lv (.long ((x.toUInt64 >>> (y.toInt64.toUInt64 &&& Int64.toUInt64 63)).toInt64) :: st) P) : zV G nL S ce sl pc lv (.int y :: .long x :: st) P := by
  obtain ⟨p, l, e, R, s, m, args, below, meth, c, Q, D, z0⟩ := G
  obtain ⟨hx, hb, -⟩ := h0
  subst hn
  intro hP H locs ls h1 h2 h3
  exact lv_lushr hx hb d rfl (k hP H locs ls h1 h2 h3)
theorem zr_i2l {x : Int32} (h0 : zFix G cc own nL ret rm)  (d : decode cc pc = .ok (.i2l, 1)) (hn : pc + 1 = n) (k : zV G nL S ce sl n lv (.long x.toInt64 :: st) P) : zV G nL S ce sl pc lv (.int x :: st) P := by
  obtain ⟨p, l, e, R, s, m, args, below, meth, c, Q, D, z0⟩ := G
  obtain ⟨hx, hb, -⟩ := h0
  subst hn
  intro hP H locs ls h1 h2 h3
  exact lv_i2l hx hb d rfl (k hP H locs ls h1 h2 h3)
theorem zr_l2i {x : Int64} (h0 : zFix G cc own nL ret rm)  (d : decode cc pc = .ok (.l2i, 1)) (hn : pc + 1 = n) (k : zV G nL S ce sl n lv (.int x.toInt32 :: st) P) : zV G nL S ce sl pc lv (.long x :: st) P := by
  obtain ⟨p, l, e, R, s, m, args, below, meth, c, Q, D, z0⟩ := G
  obtain ⟨hx, hb, -⟩ := h0
  subst hn
  intro hP H locs ls h1 h2 h3
  exact lv_l2i hx hb d rfl (k hP H locs ls h1 h2 h3)
theorem zr_lcmp {x y : Int64} (h0 : zFix G cc own nL ret rm)  (d : decode cc pc = .ok (.lcmp, 1)) (hn : pc + 1 = n) (k : zV G nL S ce sl n lv (.int (lg_cmp x y) :: st) P) : zV G nL S ce sl pc lv (.long y :: .long x :: st) P := by
  obtain ⟨p, l, e, R, s, m, args, below, meth, c, Q, D, z0⟩ := G
  obtain ⟨hx, hb, -⟩ := h0
  subst hn
  intro hP H locs ls h1 h2 h3
  exact W.lcmp hx hb d (k hP H locs ls h1 h2 h3)
theorem zr_iconst {i : Int} (v : Int32) (h0 : zFix G cc own nL ret rm) (hv : Int32.ofInt i = v) (d : decode cc pc = .ok (.iconst i, 1)) (hn : pc + 1 = n) (k : zV G nL S ce sl n lv (.int v :: st) P) : zV G nL S ce sl pc lv (st) P := by
  obtain ⟨p, l, e, R, s, m, args, below, meth, c, Q, D, z0⟩ := G
  obtain ⟨hx, hb, -⟩ := h0
  subst hn
  intro hP H locs ls h1 h2 h3
  exact lv_iconst hx hb d hv (k hP H locs ls h1 h2 h3)
theorem zr_bipush {i : Int} (v : Int32) (h0 : zFix G cc own nL ret rm) (hv : (Int8.ofInt i).toInt32 = v) (d : decode cc pc = .ok (.bipush i, 2)) (hn : pc + 2 = n) (k : zV G nL S ce sl n lv (.int v :: st) P) : zV G nL S ce sl pc lv (st) P := by
  obtain ⟨p, l, e, R, s, m, args, below, meth, c, Q, D, z0⟩ := G
  obtain ⟨hx, hb, -⟩ := h0
  subst hn
  intro hP H locs ls h1 h2 h3
  exact lv_bipush hx hb d hv (k hP H locs ls h1 h2 h3)
theorem zr_sipush {i : Int} (v : Int32) (h0 : zFix G cc own nL ret rm) (hv : (Int16.ofInt i).toInt32 = v) (d : decode cc pc = .ok (.sipush i, 3)) (hn : pc + 3 = n) (k : zV G nL S ce sl n lv (.int v :: st) P) : zV G nL S ce sl pc lv (st) P := by
  obtain ⟨p, l, e, R, s, m, args, below, meth, c, Q, D, z0⟩ := G
  obtain ⟨hx, hb, -⟩ := h0
  subst hn
  intro hP H locs ls h1 h2 h3
  exact lv_sipush hx hb d hv (k hP H locs ls h1 h2 h3)
theorem zr_lconst {i : Fin 2} (v : Int64) (h0 : zFix G cc own nL ret rm) (hv : Int64.ofNat (i : Nat) = v) (d : decode cc pc = .ok (.lconst i, 1)) (hn : pc + 1 = n) (k : zV G nL S ce sl n lv (.long v :: st) P) : zV G nL S ce sl pc lv (st) P := by
  obtain ⟨p, l, e, R, s, m, args, below, meth, c, Q, D, z0⟩ := G
  obtain ⟨hx, hb, -⟩ := h0
  subst hn
  intro hP H locs ls h1 h2 h3
  exact lv_lconst hx hb d hv (k hP H locs ls h1 h2 h3)
theorem zr_null  (h0 : zFix G cc own nL ret rm)  (d : decode cc pc = .ok (.aconst_null, 1)) (hn : pc + 1 = n) (k : zV G nL S ce sl n lv (va_rf none :: st) P) : zV G nL S ce sl pc lv (st) P := by
  obtain ⟨p, l, e, R, s, m, args, below, meth, c, Q, D, z0⟩ := G
  obtain ⟨hx, hb, -⟩ := h0
  subst hn
  intro hP H locs ls h1 h2 h3
  exact lv_null hx hb d (k hP H locs ls h1 h2 h3)
theorem zr_dup {v : Value} (h0 : zFix G cc own nL ret rm) (hc : v.category = 1) (d : decode cc pc = .ok (.dup, 1)) (hn : pc + 1 = n) (k : zV G nL S ce sl n lv (v :: v :: st) P) : zV G nL S ce sl pc lv (v :: st) P := by
  obtain ⟨p, l, e, R, s, m, args, below, meth, c, Q, D, z0⟩ := G
  obtain ⟨hx, hb, -⟩ := h0
  subst hn
  intro hP H locs ls h1 h2 h3
  exact lv_dup hx hb d hc (k hP H locs ls h1 h2 h3)
theorem zr_pop {v : Value} (h0 : zFix G cc own nL ret rm) (hc : v.category = 1) (d : decode cc pc = .ok (.pop, 1)) (hn : pc + 1 = n) (k : zV G nL S ce sl n lv (st) P) : zV G nL S ce sl pc lv (v :: st) P := by
  obtain ⟨p, l, e, R, s, m, args, below, meth, c, Q, D, z0⟩ := G
  obtain ⟨hx, hb, -⟩ := h0
  subst hn
  intro hP H locs ls h1 h2 h3
  exact lv_pop hx hb d hc (k hP H locs ls h1 h2 h3)
theorem zr_dup2 {v u : Value} (h0 : zFix G cc own nL ret rm) (hc : v.category = 1) (hc2 : u.category = 1) (d : decode cc pc = .ok (.dup2, 1)) (hn : pc + 1 = n) (k : zV G nL S ce sl n lv (v :: u :: v :: u :: st) P) : zV G nL S ce sl pc lv (v :: u :: st) P := by
  obtain ⟨p, l, e, R, s, m, args, below, meth, c, Q, D, z0⟩ := G
  obtain ⟨hx, hb, -⟩ := h0
  subst hn
  intro hP H locs ls h1 h2 h3
  exact lv_dup2_11 hx hb d hc hc2 (k hP H locs ls h1 h2 h3)
theorem zr_idivK {x y : Int32} (h0 : zFix G cc own nL ret rm) (hne : ¬ y = 0) (d : decode cc pc = .ok (.idiv, 1)) (hn : pc + 1 = n) (k : zV G nL S ce sl n lv (.int (x / y) :: st) P) : zV G nL S ce sl pc lv (.int y :: .int x :: st) P := by
  obtain ⟨p, l, e, R, s, m, args, below, meth, c, Q, D, z0⟩ := G
  obtain ⟨hx, hb, -⟩ := h0
  subst hn
  intro hP H locs ls h1 h2 h3
  exact lv_idiv hx hb d hne (k hP H locs ls h1 h2 h3)
theorem zr_iremK {x y : Int32} (h0 : zFix G cc own nL ret rm) (hne : ¬ y = 0) (d : decode cc pc = .ok (.irem, 1)) (hn : pc + 1 = n) (k : zV G nL S ce sl n lv (.int (x % y) :: st) P) : zV G nL S ce sl pc lv (.int y :: .int x :: st) P := by
  obtain ⟨p, l, e, R, s, m, args, below, meth, c, Q, D, z0⟩ := G
  obtain ⟨hx, hb, -⟩ := h0
  subst hn
  intro hP H locs ls h1 h2 h3
  refine lv_irem hx hb d hne ?_
  rw [irem_eq_mod]
  exact k hP H locs ls h1 h2 h3
theorem zr_ldc {idx : Nat} {v : Int32} (h0 : zFix G cc own nL ret rm) (hw : Cond.constant own idx v ∈ zTbl) (d : decode cc pc = .ok (.ldc idx, 2)) (hn : pc + 2 = n) (k : zV G nL S ce sl n lv (.int v :: st) P) : zV G nL S ce sl pc lv st P := by
  obtain ⟨p, l, e, R, s, m, args, below, meth, c, Q, D, z0⟩ := G
  obtain ⟨hx, hb, -, hown, hts, -⟩ := h0
  subst hn
  intro hP H locs ls h1 h2 h3
  exact lv_ldc hx hb hown (hts _ hw) d (k hP H locs ls h1 h2 h3)
theorem zr_ldcw {idx : Nat} {v : Int32} (h0 : zFix G cc own nL ret rm) (hw : Cond.constant own idx v ∈ zTbl) (d : decode cc pc = .ok (.ldc_w idx, 3)) (hn : pc + 3 = n) (k : zV G nL S ce sl n lv (.int v :: st) P) : zV G nL S ce sl pc lv st P := by
  obtain ⟨p, l, e, R, s, m, args, below, meth, c, Q, D, z0⟩ := G
  obtain ⟨hx, hb, -, hown, hts, -⟩ := h0
  subst hn
  intro hP H locs ls h1 h2 h3
  exact lv_ldcw hx hb hown (hts _ hw) d (k hP H locs ls h1 h2 h3)
theorem zr_ldc2 {idx : Nat} {v : Int64} (h0 : zFix G cc own nL ret rm) (hw : Cond.constantLong own idx v ∈ zTbl) (d : decode cc pc = .ok (.ldc2_w idx, 3)) (hn : pc + 3 = n) (k : zV G nL S ce sl n lv (.long v :: st) P) : zV G nL S ce sl pc lv st P := by
  obtain ⟨p, l, e, R, s, m, args, below, meth, c, Q, D, z0⟩ := G
  obtain ⟨hx, hb, -, hown, hts, -⟩ := h0
  subst hn
  intro hP H locs ls h1 h2 h3
  exact lv_ldc2 hx hb hown (hts _ hw) d (k hP H locs ls h1 h2 h3)
theorem zr_iload {i : Nat} {x : Int32} (h0 : zFix G cc own nL ret rm) (d : decode cc pc = .ok (.iload i, 2)) (hk : zlk lv i = some (.int x)) (hn : pc + 2 = n) (k : zV G nL S ce sl n lv (.int x :: st) P) : zV G nL S ce sl pc lv st P := by
  obtain ⟨p, l, e, R, s, m, args, below, meth, c, Q, D, z0⟩ := G
  obtain ⟨hx, hb, -⟩ := h0
  subst hn
  intro hP H locs ls h1 h2 h3
  exact lv_iload hx hb d (zlk_at h3 hk) (k hP H locs ls h1 h2 h3)
theorem zr_iload_n {j : Fin 4} {x : Int32} (h0 : zFix G cc own nL ret rm) (d : decode cc pc = .ok (.iload_n j, 1)) (hk : zlk lv j.val = some (.int x)) (hn : pc + 1 = n) (k : zV G nL S ce sl n lv (.int x :: st) P) : zV G nL S ce sl pc lv st P := by
  obtain ⟨p, l, e, R, s, m, args, below, meth, c, Q, D, z0⟩ := G
  obtain ⟨hx, hb, -⟩ := h0
  subst hn
  intro hP H locs ls h1 h2 h3
  exact lv_iload_n hx hb d rfl (zlk_at h3 hk) (k hP H locs ls h1 h2 h3)
theorem zr_lload {i : Nat} {x : Int64} (h0 : zFix G cc own nL ret rm) (d : decode cc pc = .ok (.lload i, 2)) (hk : zlk lv i = some (.long x)) (hn : pc + 2 = n) (k : zV G nL S ce sl n lv (.long x :: st) P) : zV G nL S ce sl pc lv st P := by
  obtain ⟨p, l, e, R, s, m, args, below, meth, c, Q, D, z0⟩ := G
  obtain ⟨hx, hb, -⟩ := h0
  subst hn
  intro hP H locs ls h1 h2 h3
  exact lv_lload hx hb d (zlk_at h3 hk) (k hP H locs ls h1 h2 h3)
theorem zr_lload_n {j : Fin 4} {x : Int64} (h0 : zFix G cc own nL ret rm) (d : decode cc pc = .ok (.lload_n j, 1)) (hk : zlk lv j.val = some (.long x)) (hn : pc + 1 = n) (k : zV G nL S ce sl n lv (.long x :: st) P) : zV G nL S ce sl pc lv st P := by
  obtain ⟨p, l, e, R, s, m, args, below, meth, c, Q, D, z0⟩ := G
  obtain ⟨hx, hb, -⟩ := h0
  subst hn
  intro hP H locs ls h1 h2 h3
  exact lv_lload_n hx hb d rfl (zlk_at h3 hk) (k hP H locs ls h1 h2 h3)
theorem zr_aload {i : Nat} {x : Nat} (h0 : zFix G cc own nL ret rm) (d : decode cc pc = .ok (.aload i, 2)) (hk : zlk lv i = some (.ref x)) (hn : pc + 2 = n) (k : zV G nL S ce sl n lv (.ref x :: st) P) : zV G nL S ce sl pc lv st P := by
  obtain ⟨p, l, e, R, s, m, args, below, meth, c, Q, D, z0⟩ := G
  obtain ⟨hx, hb, -⟩ := h0
  subst hn
  intro hP H locs ls h1 h2 h3
  exact lv_aload hx hb d (zlk_at h3 hk) (k hP H locs ls h1 h2 h3)
theorem zr_aload_n {j : Fin 4} {x : Nat} (h0 : zFix G cc own nL ret rm) (d : decode cc pc = .ok (.aload_n j, 1)) (hk : zlk lv j.val = some (.ref x)) (hn : pc + 1 = n) (k : zV G nL S ce sl n lv (.ref x :: st) P) : zV G nL S ce sl pc lv st P := by
  obtain ⟨p, l, e, R, s, m, args, below, meth, c, Q, D, z0⟩ := G
  obtain ⟨hx, hb, -⟩ := h0
  subst hn
  intro hP H locs ls h1 h2 h3
  exact lv_aload_n hx hb d rfl (zlk_at h3 hk) (k hP H locs ls h1 h2 h3)
theorem zr_aloadQ {i : Nat} {x : Option Nat} (h0 : zFix G cc own nL ret rm) (d : decode cc pc = .ok (.aload i, 2)) (hk : zlk lv i = some (va_rf x)) (hn : pc + 2 = n) (k : zV G nL S ce sl n lv (va_rf x :: st) P) : zV G nL S ce sl pc lv st P := by
  obtain ⟨p, l, e, R, s, m, args, below, meth, c, Q, D, z0⟩ := G
  obtain ⟨hx, hb, -⟩ := h0
  subst hn
  intro hP H locs ls h1 h2 h3
  cases x with
  | none => exact lv_aloadN hx hb d (zlk_at h3 hk) (k hP H locs ls h1 h2 h3)
  | some x => exact lv_aload hx hb d (zlk_at h3 hk) (k hP H locs ls h1 h2 h3)
theorem zr_istore {i : Nat} {x : Int32} (lv2 : List (Nat × Value)) (h0 : zFix G cc own nL ret rm) (d : decode cc pc = .ok (.istore i, 2)) (hi : i < nL) (hl : zset1 lv i (.int x) = lv2) (hn : pc + 2 = n) (k : zV G nL S ce sl n lv2 st P) : zV G nL S ce sl pc lv (.int x :: st) P := by
  obtain ⟨p, l, e, R, s, m, args, below, meth, c, Q, D, z0⟩ := G
  obtain ⟨hx, hb, -⟩ := h0
  subst hn
  subst hl
  intro hP H locs ls h1 h2 h3
  exact lv_istore hx hb d h3 hi rfl (fun ls h3 => k hP H locs ls h1 h2 (zlv_to h3 fun _ h => zins_mem h))
theorem zr_astore {i : Nat} {x : Nat} (lv2 : List (Nat × Value)) (h0 : zFix G cc own nL ret rm) (d : decode cc pc = .ok (.astore i, 2)) (hi : i < nL) (hl : zset1 lv i (.ref x) = lv2) (hn : pc + 2 = n) (k : zV G nL S ce sl n lv2 st P) : zV G nL S ce sl pc lv (.ref x :: st) P := by
  obtain ⟨p, l, e, R, s, m, args, below, meth, c, Q, D, z0⟩ := G
  obtain ⟨hx, hb, -⟩ := h0
  subst hn
  subst hl
  intro hP H locs ls h1 h2 h3
  exact lv_astore hx hb d h3 hi rfl (fun ls h3 => k hP H locs ls h1 h2 (zlv_to h3 fun _ h => zins_mem h))
theorem zr_lstore {i : Nat} {x : Int64} (lv2 : List (Nat × Value)) (h0 : zFix G cc own nL ret rm) (d : decode cc pc = .ok (.lstore i, 2)) (hi : i + 1 < nL) (hl : zset2 lv i (.long x) = lv2) (hn : pc + 2 = n) (k : zV G nL S ce sl n lv2 st P) : zV G nL S ce sl pc lv (.long x :: st) P := by
  obtain ⟨p, l, e, R, s, m, args, below, meth, c, Q, D, z0⟩ := G
  obtain ⟨hx, hb, -⟩ := h0
  subst hn
  subst hl
  intro hP H locs ls h1 h2 h3
  exact lv_lstore hx hb d h3 hi rfl (fun ls h3 => k hP H locs ls h1 h2 (zlv_to h3 fun _ h => zins_mem h))
theorem zr_astoreQ {i : Nat} {x : Option Nat} (lv2 : List (Nat × Value)) (h0 : zFix G cc own nL ret rm) (d : decode cc pc = .ok (.astore i, 2)) (hi : i < nL) (hl : zset1 lv i (va_rf x) = lv2) (hn : pc + 2 = n) (k : zV G nL S ce sl n lv2 st P) : zV G nL S ce sl pc lv (va_rf x :: st) P := by
  obtain ⟨p, l, e, R, s, m, args, below, meth, c, Q, D, z0⟩ := G
  obtain ⟨hx, hb, -⟩ := h0
  subst hn
  subst hl
  intro hP H locs ls h1 h2 h3
  cases x with
  | none => exact lv_astoreN hx hb d h3 hi rfl (fun ls h3 => k hP H locs ls h1 h2 (zlv_to h3 fun _ h => zins_mem h))
  | some x => exact lv_astore hx hb d h3 hi rfl (fun ls h3 => k hP H locs ls h1 h2 (zlv_to h3 fun _ h => zins_mem h))
theorem zr_aloadQ_n {j : Fin 4} {x : Option Nat} (h0 : zFix G cc own nL ret rm) (d : decode cc pc = .ok (.aload_n j, 1)) (hk : zlk lv j.val = some (va_rf x)) (hn : pc + 1 = n) (k : zV G nL S ce sl n lv (va_rf x :: st) P) : zV G nL S ce sl pc lv st P := by
  obtain ⟨p, l, e, R, s, m, args, below, meth, c, Q, D, z0⟩ := G
  obtain ⟨hx, hb, -⟩ := h0
  subst hn
  intro hP H locs ls h1 h2 h3
  cases x with
  | none => exact lv_aload_nN hx hb d rfl (zlk_at h3 hk) (k hP H locs ls h1 h2 h3)
  | some x => exact lv_aload_n hx hb d rfl (zlk_at h3 hk) (k hP H locs ls h1 h2 h3)
theorem zr_istore_n {j : Fin 4} {x : Int32} (lv2 : List (Nat × Value)) (h0 : zFix G cc own nL ret rm) (d : decode cc pc = .ok (.istore_n j, 1)) (hi : j.val < nL) (hl : zset1 lv j.val (.int x) = lv2) (hn : pc + 1 = n) (k : zV G nL S ce sl n lv2 st P) : zV G nL S ce sl pc lv (.int x :: st) P := by
  obtain ⟨p, l, e, R, s, m, args, below, meth, c, Q, D, z0⟩ := G
  obtain ⟨hx, hb, -⟩ := h0
  subst hn
  subst hl
  intro hP H locs ls h1 h2 h3
  exact lv_istore_n hx hb d rfl h3 hi rfl (fun ls h3 => k hP H locs ls h1 h2 (zlv_to h3 fun _ h => zins_mem h))
theorem zr_astore_n {j : Fin 4} {x : Nat} (lv2 : List (Nat × Value)) (h0 : zFix G cc own nL ret rm) (d : decode cc pc = .ok (.astore_n j, 1)) (hi : j.val < nL) (hl : zset1 lv j.val (.ref x) = lv2) (hn : pc + 1 = n) (k : zV G nL S ce sl n lv2 st P) : zV G nL S ce sl pc lv (.ref x :: st) P := by
  obtain ⟨p, l, e, R, s, m, args, below, meth, c, Q, D, z0⟩ := G
  obtain ⟨hx, hb, -⟩ := h0
  subst hn
  subst hl
  intro hP H locs ls h1 h2 h3
  exact lv_astore_n hx hb d rfl h3 hi rfl (fun ls h3 => k hP H locs ls h1 h2 (zlv_to h3 fun _ h => zins_mem h))
theorem zr_lstore_n {j : Fin 4} {x : Int64} (lv2 : List (Nat × Value)) (h0 : zFix G cc own nL ret rm) (d : decode cc pc = .ok (.lstore_n j, 1)) (hi : j.val + 1 < nL) (hl : zset2 lv j.val (.long x) = lv2) (hn : pc + 1 = n) (k : zV G nL S ce sl n lv2 st P) : zV G nL S ce sl pc lv (.long x :: st) P := by
  obtain ⟨p, l, e, R, s, m, args, below, meth, c, Q, D, z0⟩ := G
  obtain ⟨hx, hb, -⟩ := h0
  subst hn
  subst hl
  intro hP H locs ls h1 h2 h3
  exact lv_lstore_n hx hb d rfl h3 hi rfl (fun ls h3 => k hP H locs ls h1 h2 (zlv_to h3 fun _ h => zins_mem h))
theorem zr_astoreQ_n {j : Fin 4} {x : Option Nat} (lv2 : List (Nat × Value)) (h0 : zFix G cc own nL ret rm) (d : decode cc pc = .ok (.astore_n j, 1)) (hi : j.val < nL) (hl : zset1 lv j.val (va_rf x) = lv2) (hn : pc + 1 = n) (k : zV G nL S ce sl n lv2 st P) : zV G nL S ce sl pc lv (va_rf x :: st) P := by
  obtain ⟨p, l, e, R, s, m, args, below, meth, c, Q, D, z0⟩ := G
  obtain ⟨hx, hb, -⟩ := h0
  subst hn
  subst hl
  intro hP H locs ls h1 h2 h3
  cases x with
  | none => exact lv_astore_nN hx hb d rfl h3 hi rfl (fun ls h3 => k hP H locs ls h1 h2 (zlv_to h3 fun _ h => zins_mem h))
  | some x => exact lv_astore_n hx hb d rfl h3 hi rfl (fun ls h3 => k hP H locs ls h1 h2 (zlv_to h3 fun _ h => zins_mem h))
theorem zr_iinc {i : Nat} {z : Int} {x : Int32} (y : Int32) (lv2 : List (Nat × Value)) (h0 : zFix G cc own nL ret rm) (d : decode cc pc = .ok (.iinc i z, 3)) (hk : zlk lv i = some (.int x)) (hi : i < nL) (hy : Int32.ofInt z = y) (hl : zset1 lv i (.int (x + y)) = lv2) (hn : pc + 3 = n) (k : zV G nL S ce sl n lv2 st P) : zV G nL S ce sl pc lv st P := by
  obtain ⟨p, l, e, R, s, m, args, below, meth, c, Q, D, z0⟩ := G
  obtain ⟨hx, hb, -⟩ := h0
  subst hn
  subst hl
  subst hy
  intro hP H locs ls h1 h2 h3
  obtain ⟨kk, hkk⟩ := List.getElem?_of_mem (zlk_mem hk)
  exact lv_iinc hx hb d h3 hkk rfl hi rfl (fun ls h3 => k hP H locs ls h1 h2 (zlv_to h3 fun _ h => zins_mem h))
theorem zr_goto {off : Int} {tgt : Nat} (h0 : zFix G cc own nL ret rm) (d : decode cc pc = .ok (.goto off, 3)) (ht : (pc : Int) + off = (tgt : Int)) (k : zV G nL S ce sl tgt lv st P) : zV G nL S ce sl pc lv st P := by
  obtain ⟨p, l, e, R, s, m, args, below, meth, c, Q, D, z0⟩ := G
  obtain ⟨hx, hb, -⟩ := h0
  intro hP H locs ls h1 h2 h3
  exact lv_goto hx hb d ht (k hP H locs ls h1 h2 h3)
theorem zr_icmp_lt {τ : Type} (C : Option τ → Prop) {o1 o2 : Option τ} {x y : Int32} {off : Int} {tgt : Nat} (h0 : zFix G cc own nL ret rm) (d : decode cc pc = .ok (.if_icmp .lt off, 3)) (ht : (pc : Int) + off = (tgt : Int)) (hn : pc + 3 = n) (kt : zV G nL S ce sl tgt lv st (C o1)) (kf : zV G nL S ce sl n lv st (C o2)) : zV G nL S ce sl pc lv (.int y :: .int x :: st) (C (if x < y then o1 else o2)) := by
  obtain ⟨p, l, e, R, s, m, args, below, meth, c, Q, D, z0⟩ := G
  obtain ⟨hx, hb, -⟩ := h0
  subst hn
  intro hP H locs ls h1 h2 h3
  by_cases hc : x < y
  · rw [if_pos hc] at hP
    exact lv_icmp_lt hx hb d ht (fun _ => kt hP H locs ls h1 h2 h3) (fun h => absurd hc h)
  · rw [if_neg hc] at hP
    exact lv_icmp_lt hx hb d ht (fun h => absurd h hc) (fun _ => kf hP H locs ls h1 h2 h3)
theorem zr_icmp_ge {τ : Type} (C : Option τ → Prop) {o1 o2 : Option τ} {x y : Int32} {off : Int} {tgt : Nat} (h0 : zFix G cc own nL ret rm) (d : decode cc pc = .ok (.if_icmp .ge off, 3)) (ht : (pc : Int) + off = (tgt : Int)) (hn : pc + 3 = n) (kt : zV G nL S ce sl tgt lv st (C o1)) (kf : zV G nL S ce sl n lv st (C o2)) : zV G nL S ce sl pc lv (.int y :: .int x :: st) (C (if y ≤ x then o1 else o2)) := by
  obtain ⟨p, l, e, R, s, m, args, below, meth, c, Q, D, z0⟩ := G
  obtain ⟨hx, hb, -⟩ := h0
  subst hn
  intro hP H locs ls h1 h2 h3
  by_cases hc : y ≤ x
  · rw [if_pos hc] at hP
    exact lv_icmp_ge hx hb d ht (fun _ => kt hP H locs ls h1 h2 h3) (fun h => absurd hc h)
  · rw [if_neg hc] at hP
    exact lv_icmp_ge hx hb d ht (fun h => absurd h hc) (fun _ => kf hP H locs ls h1 h2 h3)
theorem zr_icmp_gt {τ : Type} (C : Option τ → Prop) {o1 o2 : Option τ} {x y : Int32} {off : Int} {tgt : Nat} (h0 : zFix G cc own nL ret rm) (d : decode cc pc = .ok (.if_icmp .gt off, 3)) (ht : (pc : Int) + off = (tgt : Int)) (hn : pc + 3 = n) (kt : zV G nL S ce sl tgt lv st (C o1)) (kf : zV G nL S ce sl n lv st (C o2)) : zV G nL S ce sl pc lv (.int y :: .int x :: st) (C (if y < x then o1 else o2)) := by
  obtain ⟨p, l, e, R, s, m, args, below, meth, c, Q, D, z0⟩ := G
  obtain ⟨hx, hb, -⟩ := h0
  subst hn
  intro hP H locs ls h1 h2 h3
  by_cases hc : y < x
  · rw [if_pos hc] at hP
    exact lv_icmp_gt hx hb d ht (fun _ => kt hP H locs ls h1 h2 h3) (fun h => absurd hc h)
  · rw [if_neg hc] at hP
    exact lv_icmp_gt hx hb d ht (fun h => absurd h hc) (fun _ => kf hP H locs ls h1 h2 h3)
theorem zr_icmp_le {τ : Type} (C : Option τ → Prop) {o1 o2 : Option τ} {x y : Int32} {off : Int} {tgt : Nat} (h0 : zFix G cc own nL ret rm) (d : decode cc pc = .ok (.if_icmp .le off, 3)) (ht : (pc : Int) + off = (tgt : Int)) (hn : pc + 3 = n) (kt : zV G nL S ce sl tgt lv st (C o1)) (kf : zV G nL S ce sl n lv st (C o2)) : zV G nL S ce sl pc lv (.int y :: .int x :: st) (C (if x ≤ y then o1 else o2)) := by
  obtain ⟨p, l, e, R, s, m, args, below, meth, c, Q, D, z0⟩ := G
  obtain ⟨hx, hb, -⟩ := h0
  subst hn
  intro hP H locs ls h1 h2 h3
  by_cases hc : x ≤ y
  · rw [if_pos hc] at hP
    exact lv_icmp_le hx hb d ht (fun _ => kt hP H locs ls h1 h2 h3) (fun h => absurd hc h)
  · rw [if_neg hc] at hP
    exact lv_icmp_le hx hb d ht (fun h => absurd h hc) (fun _ => kf hP H locs ls h1 h2 h3)
theorem zr_icmp_eq {τ : Type} (C : Option τ → Prop) {o1 o2 : Option τ} {x y : Int32} {off : Int} {tgt : Nat} (h0 : zFix G cc own nL ret rm) (d : decode cc pc = .ok (.if_icmp .eq off, 3)) (ht : (pc : Int) + off = (tgt : Int)) (hn : pc + 3 = n) (kt : zV G nL S ce sl tgt lv st (C o1)) (kf : zV G nL S ce sl n lv st (C o2)) : zV G nL S ce sl pc lv (.int y :: .int x :: st) (C (if x = y then o1 else o2)) := by
  obtain ⟨p, l, e, R, s, m, args, below, meth, c, Q, D, z0⟩ := G
  obtain ⟨hx, hb, -⟩ := h0
  subst hn
  intro hP H locs ls h1 h2 h3
  by_cases hc : x = y
  · rw [if_pos hc] at hP
    exact lv_icmp_eq hx hb d ht (fun _ => kt hP H locs ls h1 h2 h3) (fun h => absurd hc h)
  · rw [if_neg hc] at hP
    exact lv_icmp_eq hx hb d ht (fun h => absurd h hc) (fun _ => kf hP H locs ls h1 h2 h3)
theorem zr_icmp_ne {τ : Type} (C : Option τ → Prop) {o1 o2 : Option τ} {x y : Int32} {off : Int} {tgt : Nat} (h0 : zFix G cc own nL ret rm) (d : decode cc pc = .ok (.if_icmp .ne off, 3)) (ht : (pc : Int) + off = (tgt : Int)) (hn : pc + 3 = n) (kt : zV G nL S ce sl n lv st (C o1)) (kf : zV G nL S ce sl tgt lv st (C o2)) : zV G nL S ce sl pc lv (.int y :: .int x :: st) (C (if x = y then o1 else o2)) := by
  obtain ⟨p, l, e, R, s, m, args, below, meth, c, Q, D, z0⟩ := G
  obtain ⟨hx, hb, -⟩ := h0
  subst hn
  intro hP H locs ls h1 h2 h3
  by_cases hc : x = y
  · rw [if_pos hc] at hP
    exact lv_icmp_ne hx hb d ht (fun h => absurd hc h) (fun _ => kt hP H locs ls h1 h2 h3)
  · rw [if_neg hc] at hP
    exact lv_icmp_ne hx hb d ht (fun _ => kf hP H locs ls h1 h2 h3) (fun h => absurd h hc)
theorem zr_if_eq {τ : Type} (C : Option τ → Prop) {o1 o2 : Option τ} {x : Int32} {off : Int} {tgt : Nat} (h0 : zFix G cc own nL ret rm) (d : decode cc pc = .ok (.ifCond .eq off, 3)) (ht : (pc : Int) + off = (tgt : Int)) (hn : pc + 3 = n) (kt : zV G nL S ce sl tgt lv st (C o1)) (kf : zV G nL S ce sl n lv st (C o2)) : zV G nL S ce sl pc lv (.int x :: st) (C (if x = 0 then o1 else o2)) := by
  obtain ⟨p, l, e, R, s, m, args, below, meth, c, Q, D, z0⟩ := G
  obtain ⟨hx, hb, -⟩ := h0
  subst hn
  intro hP H locs ls h1 h2 h3
  by_cases hc : x = 0
  · rw [if_pos hc] at hP
    exact lv_if_eq hx hb d ht (fun _ => kt hP H locs ls h1 h2 h3) (fun h => absurd hc h)
  · rw [if_neg hc] at hP
    exact lv_if_eq hx hb d ht (fun h => absurd h hc) (fun _ => kf hP H locs ls h1 h2 h3)
theorem zr_if_ne {τ : Type} (C : Option τ → Prop) {o1 o2 : Option τ} {x : Int32} {off : Int} {tgt : Nat} (h0 : zFix G cc own nL ret rm) (d : decode cc pc = .ok (.ifCond .ne off, 3)) (ht : (pc : Int) + off = (tgt : Int)) (hn : pc + 3 = n) (kt : zV G nL S ce sl n lv st (C o1)) (kf : zV G nL S ce sl tgt lv st (C o2)) : zV G nL S ce sl pc lv (.int x :: st) (C (if x = 0 then o1 else o2)) := by
  obtain ⟨p, l, e, R, s, m, args, below, meth, c, Q, D, z0⟩ := G
  obtain ⟨hx, hb, -⟩ := h0
  subst hn
  intro hP H locs ls h1 h2 h3
  by_cases hc : x = 0
  · rw [if_pos hc] at hP
    exact lv_if_ne hx hb d ht (fun h => absurd hc h) (fun _ => kt hP H locs ls h1 h2 h3)
  · rw [if_neg hc] at hP
    exact lv_if_ne hx hb d ht (fun _ => kf hP H locs ls h1 h2 h3) (fun h => absurd h hc)
theorem zr_if_lt {τ : Type} (C : Option τ → Prop) {o1 o2 : Option τ} {x : Int32} {off : Int} {tgt : Nat} (h0 : zFix G cc own nL ret rm) (d : decode cc pc = .ok (.ifCond .lt off, 3)) (ht : (pc : Int) + off = (tgt : Int)) (hn : pc + 3 = n) (kt : zV G nL S ce sl tgt lv st (C o1)) (kf : zV G nL S ce sl n lv st (C o2)) : zV G nL S ce sl pc lv (.int x :: st) (C (if x < 0 then o1 else o2)) := by
  obtain ⟨p, l, e, R, s, m, args, below, meth, c, Q, D, z0⟩ := G
  obtain ⟨hx, hb, -⟩ := h0
  subst hn
  intro hP H locs ls h1 h2 h3
  by_cases hc : x < 0
  · rw [if_pos hc] at hP
    exact lv_if_lt hx hb d ht (fun _ => kt hP H locs ls h1 h2 h3) (fun h => absurd hc h)
  · rw [if_neg hc] at hP
    exact lv_if_lt hx hb d ht (fun h => absurd h hc) (fun _ => kf hP H locs ls h1 h2 h3)
theorem zr_if_ge {τ : Type} (C : Option τ → Prop) {o1 o2 : Option τ} {x : Int32} {off : Int} {tgt : Nat} (h0 : zFix G cc own nL ret rm) (d : decode cc pc = .ok (.ifCond .ge off, 3)) (ht : (pc : Int) + off = (tgt : Int)) (hn : pc + 3 = n) (kt : zV G nL S ce sl tgt lv st (C o1)) (kf : zV G nL S ce sl n lv st (C o2)) : zV G nL S ce sl pc lv (.int x :: st) (C (if 0 ≤ x then o1 else o2)) := by
  obtain ⟨p, l, e, R, s, m, args, below, meth, c, Q, D, z0⟩ := G
  obtain ⟨hx, hb, -⟩ := h0
  subst hn
  intro hP H locs ls h1 h2 h3
  by_cases hc : 0 ≤ x
  · rw [if_pos hc] at hP
    exact lv_if_ge hx hb d ht (fun _ => kt hP H locs ls h1 h2 h3) (fun h => absurd hc h)
  · rw [if_neg hc] at hP
    exact lv_if_ge hx hb d ht (fun h => absurd h hc) (fun _ => kf hP H locs ls h1 h2 h3)
theorem zr_if_gt {τ : Type} (C : Option τ → Prop) {o1 o2 : Option τ} {x : Int32} {off : Int} {tgt : Nat} (h0 : zFix G cc own nL ret rm) (d : decode cc pc = .ok (.ifCond .gt off, 3)) (ht : (pc : Int) + off = (tgt : Int)) (hn : pc + 3 = n) (kt : zV G nL S ce sl tgt lv st (C o1)) (kf : zV G nL S ce sl n lv st (C o2)) : zV G nL S ce sl pc lv (.int x :: st) (C (if 0 < x then o1 else o2)) := by
  obtain ⟨p, l, e, R, s, m, args, below, meth, c, Q, D, z0⟩ := G
  obtain ⟨hx, hb, -⟩ := h0
  subst hn
  intro hP H locs ls h1 h2 h3
  by_cases hc : 0 < x
  · rw [if_pos hc] at hP
    exact lv_if_gt hx hb d ht (fun _ => kt hP H locs ls h1 h2 h3) (fun h => absurd hc h)
  · rw [if_neg hc] at hP
    exact lv_if_gt hx hb d ht (fun h => absurd h hc) (fun _ => kf hP H locs ls h1 h2 h3)
theorem zr_if_le {τ : Type} (C : Option τ → Prop) {o1 o2 : Option τ} {x : Int32} {off : Int} {tgt : Nat} (h0 : zFix G cc own nL ret rm) (d : decode cc pc = .ok (.ifCond .le off, 3)) (ht : (pc : Int) + off = (tgt : Int)) (hn : pc + 3 = n) (kt : zV G nL S ce sl tgt lv st (C o1)) (kf : zV G nL S ce sl n lv st (C o2)) : zV G nL S ce sl pc lv (.int x :: st) (C (if x ≤ 0 then o1 else o2)) := by
  obtain ⟨p, l, e, R, s, m, args, below, meth, c, Q, D, z0⟩ := G
  obtain ⟨hx, hb, -⟩ := h0
  subst hn
  intro hP H locs ls h1 h2 h3
  by_cases hc : x ≤ 0
  · rw [if_pos hc] at hP
    exact lv_if_le hx hb d ht (fun _ => kt hP H locs ls h1 h2 h3) (fun h => absurd hc h)
  · rw [if_neg hc] at hP
    exact lv_if_le hx hb d ht (fun h => absurd h hc) (fun _ => kf hP H locs ls h1 h2 h3)
theorem zr_nullR {a : Nat} {off : Int} (h0 : zFix G cc own nL ret rm) (d : decode cc pc = .ok (.ifnull off, 3)) (hn : pc + 3 = n) (k : zV G nL S ce sl n lv st P) : zV G nL S ce sl pc lv (.ref a :: st) P := by
  obtain ⟨p, l, e, R, s, m, args, below, meth, c, Q, D, z0⟩ := G
  obtain ⟨hx, hb, -⟩ := h0
  subst hn
  intro hP H locs ls h1 h2 h3
  exact lv_ifnull hx hb d (k hP H locs ls h1 h2 h3)
theorem zr_nonnullQ {τ : Type} (C : Option τ → Prop) {r : Option Nat} {o1 : Option τ} {o2 : Nat → Option τ} {off : Int} {tgt : Nat} (h0 : zFix G cc own nL ret rm) (d : decode cc pc = .ok (.ifnonnull off, 3)) (ht : (pc : Int) + off = (tgt : Int)) (hn : pc + 3 = n) (k1 : r = none → zV G nL S ce sl n lv st (C o1)) (k2 : ∀ a, r = some a → zV G nL S ce sl tgt lv st (C (o2 a))) : zV G nL S ce sl pc lv (va_rf r :: st) (C (zmq r o1 o2)) := by
  obtain ⟨p, l, e, R, s, m, args, below, meth, c, Q, D, z0⟩ := G
  obtain ⟨hx, hb, -⟩ := h0
  subst hn
  intro hP H locs ls h1 h2 h3
  cases r with
  | none => exact lv_ifnonnullN hx hb d (k1 rfl hP H locs ls h1 h2 h3)
  | some a => exact lv_ifnonnull hx hb d ht (k2 a rfl hP H locs ls h1 h2 h3)
theorem zr_idiv {τ : Type} (C : Option τ → Prop) (hC : ¬ C none) {x y : Int32} {o : Int32 → Option τ} (h0 : zFix G cc own nL ret rm) (d : decode cc pc = .ok (.idiv, 1)) (hn : pc + 1 = n) (k : ∀ v : Int32, zV G nL S ce sl n lv (.int v :: st) (C (o v))) : zV G nL S ce sl pc lv (.int y :: .int x :: st) (C (Option.bind (zdiv x y) o)) := by
  by_cases hy : y = 0
  · have hz : zdiv x y = none := by unfold zdiv; rw [if_pos hy]
    rw [hz]
    exact zv_imp (P' := False) (fun h => hC h) (by obtain ⟨p, l, e, R, s, m, args, below, meth, c, Q, D, z0⟩ := G; exact fun h => h.elim)
  · have hz : zdiv x y = some (x / y) := by unfold zdiv; rw [if_neg hy]
    rw [hz]
    exact zr_idivK h0 hy d hn (k _)
theorem zr_irem {τ : Type} (C : Option τ → Prop) (hC : ¬ C none) {x y : Int32} {o : Int32 → Option τ} (h0 : zFix G cc own nL ret rm) (d : decode cc pc = .ok (.irem, 1)) (hn : pc + 1 = n) (k : ∀ v : Int32, zV G nL S ce sl n lv (.int v :: st) (C (o v))) : zV G nL S ce sl pc lv (.int y :: .int x :: st) (C (Option.bind (zrem x y) o)) := by
  by_cases hy : y = 0
  · have hz : zrem x y = none := by unfold zrem; rw [if_pos hy]
    rw [hz]
    exact zv_imp (P' := False) (fun h => hC h) (by obtain ⟨p, l, e, R, s, m, args, below, meth, c, Q, D, z0⟩ := G; exact fun h => h.elim)
  · have hz : zrem x y = some (x % y) := by unfold zrem; rw [if_neg hy]
    rw [hz]
    exact zr_iremK h0 hy d hn (k _)
/-- a class of ours: its number, name, fields; its words are in the list -/
def zCls (ci : Nat) (R : String) (T : u_T) (N : Nat) (ty : Nat → FieldType) : Prop := vwCl[ci]? = some (R, T, N) ∧ (∀ w ∈ u_ws R T N, w ∈ zTbl) ∧ (∀ k, k < N → parseFieldDescriptor (T k).2.2.1 = some (ty k)) ∧ (∀ a, a < N → ∀ b, b < N → a ≠ b → (T a).2.1 ≠ (T b).2.1)
theorem zobj {D : ZD} {z0 : Nat} {H : Heap} {a ci : Nat} {fs : List Value} {R : String} {T : u_T} {N : Nat} (h : zHp D z0 S H) (ha : S.1 a = some (.inr (ci, fs))) (hc : vwCl[ci]? = some (R, T, N)) : t_OB a (D.1 ci) N (D.2.1 ci) H (vp_V fs) := by
  obtain ⟨r, h1, h2⟩ := h.1.1 a _ ha
  have hr : r = (R, T, N) := Option.some.inj (h1.symm.trans hc)
  subst hr
  exact h2
theorem zarr {D : ZD} {z0 : Nat} {H : Heap} {a t : Nat} {x : vp_A} (h : zHp D z0 S H) (ha : S.1 a = some (.inl (t, x))) : H[a]? = some (vp_cell (D.2.2 t) x) := h.1.1 a _ ha
theorem zv_false : zV G nL S ce sl pc lv st False := by
  obtain ⟨p, l, e, R, s, m, args, below, meth, c, Q, D, z0⟩ := G
  exact fun h => h.elim
theorem zr_getI {τ : Type} (C : Option τ → Prop) (hC : ¬ C none) {o : Int32 → Option τ} {a ci k idx : Nat} {R : String} {T : u_T} {N : Nat} {ty : Nat → FieldType} (h0 : zFix G cc own nL ret rm) (hc : zCls ci R T N ty) (hk : k < N) (hw : Cond.fieldLink own idx (T k).1 (T k).2.1 (T k).2.2.1 ∈ zTbl) (d : decode cc pc = .ok (.getfield idx, 3)) (hn : pc + 3 = n) (kk : ∀ v : Int32, zV G nL S ce sl n lv (.int v :: st) (C (o v))) : zV G nL S ce sl pc lv (.ref a :: st) (C (Option.bind (zgI S a ci k) o)) := by
  cases hz : zgI S a ci k with
  | none => exact zv_imp (fun h => hC h) zv_false
  | some v =>
    have hfs : ∃ fs, S.1 a = some (.inr (ci, fs)) ∧ fs[k]? = some (.int v) := by
      unfold zgI at hz
      split at hz
      · next c0 fs hs =>
        split at hz
        · next hcc =>
          subst hcc
          refine ⟨fs, hs, ?_⟩
          split at hz
          · next v' hv => cases hz; exact hv
          · cases hz
        · cases hz
      · cases hz
    obtain ⟨fs, hs, hv⟩ := hfs
    have kv := kk v
    obtain ⟨p, l, e, R, s, m, args, below, meth, c, Q, D, z0⟩ := G
    obtain ⟨hx, hb, -, hown, hts, hvm, -⟩ := h0
    obtain ⟨hcl, hin, hty, hnm⟩ := hc
    subst hn
    intro hP H locs ls h1 h2 h3
    obtain ⟨cell, q2, q3, q4, q5⟩ := zobj h1 hs hcl
    obtain ⟨hS, hfc, kC, hkC, hkind⟩ := hvm.1.1 ci _ hcl
    obtain ⟨cf, kf, fi, f, hi, hsl⟩ := hS k hk
    refine W.getf hx hb hown (hts _ hw) hi (u_facts hfc hkC (u_lays hts hin hk) hi).1 q2 (by rw [q4]; exact fun h => by cases h) (v := .int v) ?_ rfl rfl d (kv hP H locs ls h1 h2 h3)
    rw [hsl]
    exact (q5 k hk).trans (by simp [vp_V, hv])
theorem zr_getR {τ : Type} (C : Option τ → Prop) (hC : ¬ C none) {o : Nat → Option τ} {a ci k idx : Nat} {R : String} {T : u_T} {N : Nat} {ty : Nat → FieldType} (h0 : zFix G cc own nL ret rm) (hc : zCls ci R T N ty) (hk : k < N) (hw : Cond.fieldLink own idx (T k).1 (T k).2.1 (T k).2.2.1 ∈ zTbl) (d : decode cc pc = .ok (.getfield idx, 3)) (hn : pc + 3 = n) (kk : ∀ v : Nat, zV G nL S ce sl n lv (.ref v :: st) (C (o v))) : zV G nL S ce sl pc lv (.ref a :: st) (C (Option.bind (zgR S a ci k) o)) := by
  cases hz : zgR S a ci k with
  | none => exact zv_imp (fun h => hC h) zv_false
  | some v =>
    have hfs : ∃ fs, S.1 a = some (.inr (ci, fs)) ∧ fs[k]? = some (.ref v) := by
      unfold zgR at hz
      split at hz
      · next c0 fs hs =>
        split at hz
        · next hcc =>
          subst hcc
          refine ⟨fs, hs, ?_⟩
          split at hz
          · next v' hv => cases hz; exact hv
          · cases hz
        · cases hz
      · cases hz
    obtain ⟨fs, hs, hv⟩ := hfs
    have kv := kk v
    obtain ⟨p, l, e, R, s, m, args, below, meth, c, Q, D, z0⟩ := G
    obtain ⟨hx, hb, -, hown, hts, hvm, -⟩ := h0
    obtain ⟨hcl, hin, hty, hnm⟩ := hc
    subst hn
    intro hP H locs ls h1 h2 h3
    obtain ⟨cell, q2, q3, q4, q5⟩ := zobj h1 hs hcl
    obtain ⟨hS, hfc, kC, hkC, hkind⟩ := hvm.1.1 ci _ hcl
    obtain ⟨cf, kf, fi, f, hi, hsl⟩ := hS k hk
    refine W.getf hx hb hown (hts _ hw) hi (u_facts hfc hkC (u_lays hts hin hk) hi).1 q2 (by rw [q4]; exact fun h => by cases h) (v := .ref v) ?_ rfl rfl d (kv hP H locs ls h1 h2 h3)
    rw [hsl]
    exact (q5 k hk).trans (by simp [vp_V, hv])
theorem zr_putF {τ : Type} (C : Option τ → Prop) (hC : ¬ C none) {o : ZS → Option τ} {a ci k idx : Nat} {v : Value} {R : String} {T : u_T} {N : Nat} {ty : Nat → FieldType} (h0 : zFix G cc own nL ret rm) (hc : zCls ci R T N ty) (hk : k < N) (hw : Cond.fieldLink own idx (T k).1 (T k).2.1 (T k).2.2.1 ∈ zTbl) (hfin : (T k).2.2.2 = false) (hnar : narrow (ty k) v = v) (hfit : fits (ty k) v = true) (d : decode cc pc = .ok (.putfield idx, 3)) (hn : pc + 3 = n) (kk : ∀ S1 : ZS, zV G nL S1 ce sl n lv st (C (o S1))) : zV G nL S ce sl pc lv (v :: .ref a :: st) (C (Option.bind (zpF S a ci k v) o)) := by
  cases hz : zpF S a ci k v with
  | none => exact zv_imp (fun h => hC h) zv_false
  | some S1 =>
    have hfs : ∃ fs, S.1 a = some (.inr (ci, fs)) ∧ k < fs.length ∧ S1 = (va_up S.1 a (some (.inr (ci, fs.set k v))), S.2) := by
      unfold zpF at hz
      split at hz
      · next c0 fs hs =>
        split at hz
        · next hcc =>
          subst hcc
          split at hz
          · next hl => cases hz; exact ⟨fs, hs, hl, rfl⟩
          · cases hz
        · cases hz
      · cases hz
    obtain ⟨fs, hs, hl, rfl⟩ := hfs
    have kv := kk (va_up S.1 a (some (.inr (ci, fs.set k v))), S.2)
    obtain ⟨p, l, e, R, s, m, args, below, meth, c, Q, D, z0⟩ := G
    obtain ⟨hx, hb, -, hown, hts, hvm, -⟩ := h0
    obtain ⟨hcl, hin, hty, hnm⟩ := hc
    subst hn
    intro hP H locs ls h1 h2 h3
    have hap := va_apart (own := own) (s := s) hts hin ty hty hnm hvm.1 hcl
    obtain ⟨cell, q1, q2, q3, q4⟩ := zobj h1 hs hcl
    obtain ⟨hS, hfc, kC, hkC, hkind⟩ := hvm.1.1 ci _ hcl
    obtain ⟨cf, kf, fi, f, hi, hsl⟩ := hS k hk
    have hlay := hts _ (hin _ (u_in_lay hk))
    unfold u_lay at hlay
    rw [if_neg (by rw [hfin]; decide)] at hlay
    have hst := (u_facts hfc hkC (u_lays hts hin hk) hi).1
    have h6 := u_store hfc hkC hkind hlay hi (hty k hk) hnar hfit
    refine W.putK hx hb (f := f) ⟨hown, hts _ hw, ⟨_, _, _, hi⟩, hst⟩ (by rw [q2]; exact h6) q1 q3 (by rw [hsl]; exact k2_hasslot (q4 k hk)) rfl rfl d fun H' e1 e2 e3 => ?_
    rw [hsl] at e1 ⊢
    refine kv hP H' _ ls (h1.set hs (e := .inr (ci, fs.set k v)) ⟨_, hcl, t_OB.to (V := updV (vp_V fs) k v) ⟨_, e1, q2, q3, t_set q4 hap hk v⟩ (fun j _ => vp_updV_set hl v j)⟩ e3 e2) (h2.put e2 e3 (h1.2.1 a _ hs)) h3
theorem zr_putK {τ : Type} (C : Option τ → Prop) (hC : ¬ C none) {o : ZS → Option τ} {a ci k idx : Nat} {v : Value} {R : String} {T : u_T} {N : Nat} {ty : Nat → FieldType} (h0 : zFix G cc own nL ret rm) (hc : zCls ci R T N ty) (hk : k < N) (hw : Cond.fieldLink own idx (T k).1 (T k).2.1 (T k).2.2.1 ∈ zTbl) (hfin : (T k).2.2.2 = true) (hini : zIni G) (hdecl : (T k).1 = own) (hnar : narrow (ty k) v = v) (hfit : fits (ty k) v = true) (d : decode cc pc = .ok (.putfield idx, 3)) (hn : pc + 3 = n) (kk : ∀ S1 : ZS, zV G nL S1 ce sl n lv st (C (o S1))) : zV G nL S ce sl pc lv (v :: .ref a :: st) (C (Option.bind (zpF S a ci k v) o)) := by
  cases hz : zpF S a ci k v with
  | none => exact zv_imp (fun h => hC h) zv_false
  | some S1 =>
    have hfs : ∃ fs, S.1 a = some (.inr (ci, fs)) ∧ k < fs.length ∧ S1 = (va_up S.1 a (some (.inr (ci, fs.set k v))), S.2) := by
      unfold zpF at hz
      split at hz
      · next c0 fs hs =>
        split at hz
        · next hcc =>
          subst hcc
          split at hz
          · next hl => cases hz; exact ⟨fs, hs, hl, rfl⟩
          · cases hz
        · cases hz
      · cases hz
    obtain ⟨fs, hs, hl, rfl⟩ := hfs
    have kv := kk (va_up S.1 a (some (.inr (ci, fs.set k v))), S.2)
    obtain ⟨p, l, e, R, s, m, args, below, meth, c, Q, D, z0⟩ := G
    obtain ⟨hx, hb, -, hown, hts, hvm, -⟩ := h0
    obtain ⟨hcl, hin, hty, hnm⟩ := hc
    subst hn
    intro hP H locs ls h1 h2 h3
    have hap := va_apart (own := own) (s := s) hts hin ty hty hnm hvm.1 hcl
    obtain ⟨cell, q1, q2, q3, q4⟩ := zobj h1 hs hcl
    obtain ⟨hS, hfc, kC, hkC, hkind⟩ := hvm.1.1 ci _ hcl
    obtain ⟨cf, kf, fi, f, hi, hsl⟩ := hS k hk
    have hlay := hts _ (hin _ (u_in_lay hk))
    unfold u_lay at hlay
    rw [if_pos hfin] at hlay
    have hst := (u_facts hfc hkC (u_lays hts hin hk) hi).1
    have hcf : m.cls = cf := by
      obtain ⟨_, _, c', _, _, _, -, -, hf', -, -, -, hown2, -⟩ := Cond.laysFinal_spec hlay
      have e1 : c' = cf := by have := hi.symm.trans hf'; simp at this; exact this.1.symm
      rw [hdecl] at hown2
      rw [← e1]; exact Option.some.inj (hown.symm.trans hown2)
    have h6 := u_fits hfc hkC hkind (Or.inr hlay) hi (hty k hk) hnar hfit
    refine W.putFinK hx hb hown (hts _ hw) hi hst hcf hini (by rw [q2]; exact h6) q1 q3 (by rw [hsl]; exact k2_hasslot (q4 k hk)) rfl rfl d fun H' e1 e2 e3 => ?_
    rw [hsl] at e1 ⊢
    refine kv hP H' _ ls (h1.set hs (e := .inr (ci, fs.set k v)) ⟨_, hcl, t_OB.to (V := updV (vp_V fs) k v) ⟨_, e1, q2, q3, t_set q4 hap hk v⟩ (fun j _ => vp_updV_set hl v j)⟩ e3 e2) (h2.put e2 e3 (h1.2.1 a _ hs)) h3
theorem zr_iaload {τ : Type} (C : Option τ → Prop) (hC : ¬ C none) {o : Int32 → Option τ} {a : Nat} {i : Int32} (h0 : zFix G cc own nL ret rm) (d : decode cc pc = .ok (.iaload, 1)) (hn : pc + 1 = n) (kk : ∀ v : Int32, zV G nL S ce sl n lv (.int v :: st) (C (o v))) : zV G nL S ce sl pc lv (.int i :: .ref a :: st) (C (Option.bind (zaI S a 0 i) o)) := by
  cases hz : zaI S a 0 i with
  | none => exact zv_imp (fun h => hC h) zv_false
  | some v =>
    have hfs : ∃ (m : Nat) (f : Nat → Int32), S.1 a = some (.inl (0, m, .inl f)) ∧ ¬ (i < 0 ∨ m ≤ i.toNatClampNeg) ∧ v = f i.toNatClampNeg := by
      unfold zaI at hz
      split at hz
      · next u m f hs =>
        split at hz
        · next hcc =>
          cases hz
          exact ⟨m, f, by rw [hs, hcc.1], hcc.2, rfl⟩
        · cases hz
      · cases hz
    obtain ⟨N, f, hs, hin, rfl⟩ := hfs
    have kv := kk (f i.toNatClampNeg)
    obtain ⟨p, l, e, R, s, m, args, below, meth, c, Q, D, z0⟩ := G
    obtain ⟨hx, hb, -, hown, hts, hvm, -⟩ := h0
    subst hn
    intro hP H locs ls h1 h2 h3
    have hlt : i.toNatClampNeg < N := Nat.not_le.mp fun q => hin (Or.inr q)
    exact W.iald (v := .int (f i.toNatClampNeg)) hx hb (zarr h1 hs) ((hvm.1.2 0 _ rfl).1 N (fun j => .int (f j))) (fun q => by cases q) (by show ¬ (i < 0 ∨ (arrV _ _ _).slots.size ≤ _); rw [arrV_size]; exact hin) (by show (arrV _ _ _).slots[_]? = _; rw [arrV_read _ _ hlt]) rfl rfl d (kv hP H locs ls h1 h2 h3)
theorem zr_baload {τ : Type} (C : Option τ → Prop) (hC : ¬ C none) {o : Int32 → Option τ} {a : Nat} {i : Int32} (h0 : zFix G cc own nL ret rm) (d : decode cc pc = .ok (.baload, 1)) (hn : pc + 1 = n) (kk : ∀ v : Int32, zV G nL S ce sl n lv (.int v :: st) (C (o v))) : zV G nL S ce sl pc lv (.int i :: .ref a :: st) (C (Option.bind (zaI S a 2 i) o)) := by
  cases hz : zaI S a 2 i with
  | none => exact zv_imp (fun h => hC h) zv_false
  | some v =>
    have hfs : ∃ (m : Nat) (f : Nat → Int32), S.1 a = some (.inl (2, m, .inl f)) ∧ ¬ (i < 0 ∨ m ≤ i.toNatClampNeg) ∧ v = f i.toNatClampNeg := by
      unfold zaI at hz
      split at hz
      · next u m f hs =>
        split at hz
        · next hcc =>
          cases hz
          exact ⟨m, f, by rw [hs, hcc.1], hcc.2, rfl⟩
        · cases hz
      · cases hz
    obtain ⟨N, f, hs, hin, rfl⟩ := hfs
    have kv := kk (f i.toNatClampNeg)
    obtain ⟨p, l, e, R, s, m, args, below, meth, c, Q, D, z0⟩ := G
    obtain ⟨hx, hb, -, hown, hts, hvm, -⟩ := h0
    subst hn
    intro hP H locs ls h1 h2 h3
    have hlt : i.toNatClampNeg < N := Nat.not_le.mp fun q => hin (Or.inr q)
    exact W.zald (v := .int (f i.toNatClampNeg)) hx hb (zarr h1 hs) ((hvm.1.2 2 _ rfl).1 N (fun j => .int (f j))) (fun q => by cases q) (by show ¬ (i < 0 ∨ (arrV _ _ _).slots.size ≤ _); rw [arrV_size]; exact hin) (by show (arrV _ _ _).slots[_]? = _; rw [arrV_read _ _ hlt]) rfl rfl d (kv hP H locs ls h1 h2 h3)
theorem zr_laload {τ : Type} (C : Option τ → Prop) (hC : ¬ C none) {o : Int64 → Option τ} {a : Nat} {i : Int32} (h0 : zFix G cc own nL ret rm) (d : decode cc pc = .ok (.laload, 1)) (hn : pc + 1 = n) (kk : ∀ v : Int64, zV G nL S ce sl n lv (.long v :: st) (C (o v))) : zV G nL S ce sl pc lv (.int i :: .ref a :: st) (C (Option.bind (zaJ S a i) o)) := by
  cases hz : zaJ S a i with
  | none => exact zv_imp (fun h => hC h) zv_false
  | some v =>
    have hfs : ∃ (m : Nat) (f : Nat → Int64), S.1 a = some (.inl (1, m, .inr (.inl f))) ∧ ¬ (i < 0 ∨ m ≤ i.toNatClampNeg) ∧ v = f i.toNatClampNeg := by
      unfold zaJ at hz
      split at hz
      · next u m f hs =>
        split at hz
        · next hcc =>
          cases hz
          exact ⟨m, f, by rw [hs, hcc.1], hcc.2, rfl⟩
        · cases hz
      · cases hz
    obtain ⟨N, f, hs, hin, rfl⟩ := hfs
    have kv := kk (f i.toNatClampNeg)
    obtain ⟨p, l, e, R, s, m, args, below, meth, c, Q, D, z0⟩ := G
    obtain ⟨hx, hb, -, hown, hts, hvm, -⟩ := h0
    subst hn
    intro hP H locs ls h1 h2 h3
    have hlt : i.toNatClampNeg < N := Nat.not_le.mp fun q => hin (Or.inr q)
    exact W.lald (v := .long (f i.toNatClampNeg)) hx hb (zarr h1 hs) ((hvm.1.2 1 _ rfl).1 N (fun j => .long (f j))) (fun q => by cases q) (by show ¬ (i < 0 ∨ (arrV _ _ _).slots.size ≤ _); rw [arrV_size]; exact hin) (by show (arrV _ _ _).slots[_]? = _; rw [arrV_read _ _ hlt]) rfl rfl d (kv hP H locs ls h1 h2 h3)
theorem zr_aaload {τ : Type} (C : Option τ → Prop) (hC : ¬ C none) {o : Option Nat → Option τ} {a t : Nat} {CN : String} {i : Int32} (h0 : zFix G cc own nL ret rm) (ht : zTy[t]? = some (.object CN)) (d : decode cc pc = .ok (.aaload, 1)) (hn : pc + 1 = n) (kk : ∀ v : Option Nat, zV G nL S ce sl n lv (va_rf v :: st) (C (o v))) : zV G nL S ce sl pc lv (.int i :: .ref a :: st) (C (Option.bind (zaQ S a t i) o)) := by
  cases hz : zaQ S a t i with
  | none => exact zv_imp (fun h => hC h) zv_false
  | some v =>
    have hfs : ∃ (m : Nat) (f : Nat → Option Nat), S.1 a = some (.inl (t, m, .inr (.inr (.inr (.inr f))))) ∧ ¬ (i < 0 ∨ m ≤ i.toNatClampNeg) ∧ v = f i.toNatClampNeg := by
      unfold zaQ at hz
      split at hz
      · next u m f hs =>
        split at hz
        · next hcc =>
          cases hz
          exact ⟨m, f, by rw [hs, hcc.1], hcc.2, rfl⟩
        · cases hz
      · cases hz
    obtain ⟨N, f, hs, hin, rfl⟩ := hfs
    have kv := kk (f i.toNatClampNeg)
    obtain ⟨p, l, e, R, s, m, args, below, meth, c, Q, D, z0⟩ := G
    obtain ⟨hx, hb, -, hown, hts, hvm, -⟩ := h0
    subst hn
    intro hP H locs ls h1 h2 h3
    have hlt : i.toNatClampNeg < N := Nat.not_le.mp fun q => hin (Or.inr q)
    exact W.aald (v := va_rf (f i.toNatClampNeg)) (ty := .object CN) hx hb (zarr h1 hs) ((hvm.1.2 t _ (zTys_at D ht)).1 N (fun j => va_rf (f j))) rfl (fun q => by cases q) (by show ¬ (i < 0 ∨ (arrV _ _ _).slots.size ≤ _); rw [arrV_size]; exact hin) (by show (arrV _ _ _).slots[_]? = _; rw [arrV_read _ _ hlt]) rfl rfl d (kv hP H locs ls h1 h2 h3)
theorem zr_iastore {τ : Type} (C : Option τ → Prop) (hC : ¬ C none) {o : ZS → Option τ} {a : Nat} {i : Int32} {x : Int32} (h0 : zFix G cc own nL ret rm) (d : decode cc pc = .ok (.iastore, 1)) (hn : pc + 1 = n) (kk : ∀ S1 : ZS, zV G nL S1 ce sl n lv st (C (o S1))) : zV G nL S ce sl pc lv (.int x :: .int i :: .ref a :: st) (C (Option.bind (zsI S a 0 i x) o)) := by
  cases hz : zsI S a 0 i x with
  | none => exact zv_imp (fun h => hC h) zv_false
  | some S1 =>
    have hfs : ∃ (m : Nat) (f : Nat → Int32), S.1 a = some (.inl (0, m, .inl f)) ∧ ¬ (i < 0 ∨ m ≤ i.toNatClampNeg) ∧ S1 = (va_up S.1 a (some (.inl (0, m, .inl (va_up f i.toNatClampNeg x)))), S.2) := by
      unfold zsI at hz
      split at hz
      · next u m f hs =>
        split at hz
        · next hcc =>
          cases hz
          exact ⟨m, f, by rw [hs, hcc.1], hcc.2, by rw [hcc.1]⟩
        · cases hz
      · cases hz
    obtain ⟨N, f, hs, hin, rfl⟩ := hfs
    have kv := kk (va_up S.1 a (some (.inl (0, N, .inl (va_up f i.toNatClampNeg x)))), S.2)
    obtain ⟨p, l, e, R, s, m, args, below, meth, c, Q, D, z0⟩ := G
    obtain ⟨hx, hb, -, hown, hts, hvm, -⟩ := h0
    subst hn
    intro hP H locs ls h1 h2 h3
    refine W.iast hx hb (zarr h1 hs) ((hvm.1.2 0 _ rfl).1 N (fun j => .int (f j))) (fun q => by cases q) (by show ¬ (i < 0 ∨ (arrV _ _ _).slots.size ≤ _); rw [arrV_size]; exact hin) rfl rfl d fun H1 e z oq => ?_
    refine kv hP H1 _ ls (h1.set hs (e := .inl (0, N, .inl (va_up f i.toNatClampNeg x))) ?_ oq z) (h2.put z oq (h1.2.1 a _ hs)) h3
    show H1[a]? = some (vp_cell _ _)
    rw [e]
    rw [vp_cell_i, vp_cell_i, arrV_store]
    congr 2
    funext q
    by_cases hq : q = i.toNatClampNeg
    · subst hq
      simp [updV, va_up]
    · simp [updV, va_up, hq]
theorem zr_lastore {τ : Type} (C : Option τ → Prop) (hC : ¬ C none) {o : ZS → Option τ} {a : Nat} {i : Int32} {x : Int64} (h0 : zFix G cc own nL ret rm) (d : decode cc pc = .ok (.lastore, 1)) (hn : pc + 1 = n) (kk : ∀ S1 : ZS, zV G nL S1 ce sl n lv st (C (o S1))) : zV G nL S ce sl pc lv (.long x :: .int i :: .ref a :: st) (C (Option.bind (zsJ S a i x) o)) := by
  cases hz : zsJ S a i x with
  | none => exact zv_imp (fun h => hC h) zv_false
  | some S1 =>
    have hfs : ∃ (m : Nat) (f : Nat → Int64), S.1 a = some (.inl (1, m, .inr (.inl f))) ∧ ¬ (i < 0 ∨ m ≤ i.toNatClampNeg) ∧ S1 = (va_up S.1 a (some (.inl (1, m, .inr (.inl (va_up f i.toNatClampNeg x))))), S.2) := by
      unfold zsJ at hz
      split at hz
      · next u m f hs =>
        split at hz
        · next hcc =>
          cases hz
          exact ⟨m, f, by rw [hs, hcc.1], hcc.2, by rw [hcc.1]⟩
        · cases hz
      · cases hz
    obtain ⟨N, f, hs, hin, rfl⟩ := hfs
    have kv := kk (va_up S.1 a (some (.inl (1, N, .inr (.inl (va_up f i.toNatClampNeg x))))), S.2)
    obtain ⟨p, l, e, R, s, m, args, below, meth, c, Q, D, z0⟩ := G
    obtain ⟨hx, hb, -, hown, hts, hvm, -⟩ := h0
    subst hn
    intro hP H locs ls h1 h2 h3
    refine W.last hx hb (zarr h1 hs) ((hvm.1.2 1 _ rfl).1 N (fun j => .long (f j))) (fun q => by cases q) (by show ¬ (i < 0 ∨ (arrV _ _ _).slots.size ≤ _); rw [arrV_size]; exact hin) rfl rfl d fun H1 e z oq => ?_
    refine kv hP H1 _ ls (h1.set hs (e := .inl (1, N, .inr (.inl (va_up f i.toNatClampNeg x)))) ?_ oq z) (h2.put z oq (h1.2.1 a _ hs)) h3
    show H1[a]? = some (vp_cell _ _)
    rw [e]
    rw [vp_cell_l, vp_cell_l, arrV_store]
    congr 2
    funext q
    by_cases hq : q = i.toNatClampNeg
    · subst hq
      simp [updV, va_up]
    · simp [updV, va_up, hq]
def znar (x : Int32) : Int32 := vp_nar .boolean x
theorem zr_bastore {τ : Type} (C : Option τ → Prop) (hC : ¬ C none) {o : ZS → Option τ} {a : Nat} {i : Int32} {x : Int32} (h0 : zFix G cc own nL ret rm) (d : decode cc pc = .ok (.bastore, 1)) (hn : pc + 1 = n) (kk : ∀ S1 : ZS, zV G nL S1 ce sl n lv st (C (o S1))) : zV G nL S ce sl pc lv (.int x :: .int i :: .ref a :: st) (C (Option.bind (zsI S a 2 i (znar x)) o)) := by
  cases hz : zsI S a 2 i (znar x) with
  | none => exact zv_imp (fun h => hC h) zv_false
  | some S1 =>
    have hfs : ∃ (m : Nat) (f : Nat → Int32), S.1 a = some (.inl (2, m, .inl f)) ∧ ¬ (i < 0 ∨ m ≤ i.toNatClampNeg) ∧ S1 = (va_up S.1 a (some (.inl (2, m, .inl (va_up f i.toNatClampNeg (znar x))))), S.2) := by
      unfold zsI at hz
      split at hz
      · next u m f hs =>
        split at hz
        · next hcc =>
          cases hz
          exact ⟨m, f, by rw [hs, hcc.1], hcc.2, by rw [hcc.1]⟩
        · cases hz
      · cases hz
    obtain ⟨N, f, hs, hin, rfl⟩ := hfs
    have kv := kk (va_up S.1 a (some (.inl (2, N, .inl (va_up f i.toNatClampNeg (znar x))))), S.2)
    obtain ⟨p, l, e, R, s, m, args, below, meth, c, Q, D, z0⟩ := G
    obtain ⟨hx, hb, -, hown, hts, hvm, -⟩ := h0
    subst hn
    intro hP H locs ls h1 h2 h3
    refine W.zast hx hb (zarr h1 hs) ((hvm.1.2 2 _ rfl).1 N (fun j => .int (f j))) (fun q => by cases q) (by show ¬ (i < 0 ∨ (arrV _ _ _).slots.size ≤ _); rw [arrV_size]; exact hin) rfl rfl d fun H1 e z oq => ?_
    refine kv hP H1 _ ls (h1.set hs (e := .inl (2, N, .inl (va_up f i.toNatClampNeg (znar x)))) ?_ oq z) (h2.put z oq (h1.2.1 a _ hs)) h3
    show H1[a]? = some (vp_cell _ _)
    rw [e]
    rw [vp_cell_i, vp_cell_i, arrV_store]
    congr 2
    funext q
    by_cases hq : q = i.toNatClampNeg
    · subst hq
      simp [updV, va_up, znar, vp_nar]
      try rfl
    · simp [updV, va_up, hq]
theorem zr_aastore {τ : Type} (C : Option τ → Prop) (hC : ¬ C none) {o : ZS → Option τ} {a t ci v : Nat} {i : Int32} {R : String} {T : u_T} {N : Nat} {ty : Nat → FieldType} (h0 : zFix G cc own nL ret rm) (hc : zCls ci R T N ty) (ht : zTy[t]? = some (.object R)) (d : decode cc pc = .ok (.aastore, 1)) (hn : pc + 1 = n) (kk : ∀ S1 : ZS, zV G nL S1 ce sl n lv st (C (o S1))) : zV G nL S ce sl pc lv (.ref v :: .int i :: .ref a :: st) (C (Option.bind (zsQ S a t ci i v) o)) := by
  cases hz : zsQ S a t ci i v with
  | none => exact zv_imp (fun h => hC h) zv_false
  | some S1 =>
    have hfs : ∃ (m : Nat) (f : Nat → Option Nat) (fs : List Value), S.1 a = some (.inl (t, m, .inr (.inr (.inr (.inr f))))) ∧ ¬ (i < 0 ∨ m ≤ i.toNatClampNeg) ∧ S.1 v = some (.inr (ci, fs)) ∧ S1 = (va_up S.1 a (some (.inl (t, m, .inr (.inr (.inr (.inr (va_up f i.toNatClampNeg (some v)))))))), S.2) := by
      unfold zsQ at hz
      split at hz
      · next u m f hs =>
        split at hz
        · next hcc =>
          unfold zcl at hz
          split at hz
          · next c0 fs hv =>
            split at hz
            · next hcv =>
              cases hz
              exact ⟨m, f, fs, by rw [hs, hcc.1], hcc.2, by rw [hv, hcv], by rw [hcc.1]⟩
            · cases hz
          · cases hz
        · cases hz
      · cases hz
    obtain ⟨N9, f, vs, hs, hin, hv, rfl⟩ := hfs
    have kv := kk (va_up S.1 a (some (.inl (t, N9, .inr (.inr (.inr (.inr (va_up f i.toNatClampNeg (some v)))))))), S.2)
    obtain ⟨p, l, e, R9, s, m, args, below, meth, c, Q, D, z0⟩ := G
    obtain ⟨hx, hb, -, hown, hts, hvm, -⟩ := h0
    obtain ⟨hcl, -⟩ := hc
    subst hn
    intro hP H locs ls h1 h2 h3
    have hlt : i.toNatClampNeg < N9 := Nat.not_le.mp fun q => hin (Or.inr q)
    have h00 : ¬ i < 0 := fun q => hin (Or.inl q)
    obtain ⟨cellV, g1, g2, g3, -⟩ := zobj h1 hv hcl
    have hcls := (hvm.1.1 ci _ hcl).2
    obtain ⟨kA, comp, k1, k2, k3, -⟩ := (hvm.1.2 t _ (zTys_at D ht)).2
    have hcomp : comp = D.1 ci := Option.some.inj (k3.symm.trans hcls.1)
    subst hcomp
    obtain ⟨kC, hkC, -⟩ := hcls.2
    refine W.aast hx hb (zarr h1 hs) (fun q h => by cases h) (fun h => by cases h) k1 k2 rfl hkC ⟨h00, by show _ < (arrV _ _ _).slots.size; rw [arrV_size]; exact hlt⟩ g1 (fun q h => by rw [g3] at h; cases h) (by rw [g2]; exact hkC) (by rw [g2]; exact va_assign hcls) rfl rfl d fun H1 e z oq => ?_
    refine kv hP H1 _ ls (h1.set hs (e := .inl (t, N9, .inr (.inr (.inr (.inr (va_up f i.toNatClampNeg (some v))))))) ?_ oq z) (h2.put z oq (h1.2.1 a _ hs)) h3
    show H1[a]? = some (vp_cell _ _)
    rw [e]
    rw [vp_cell_q, vp_cell_q, arrV_store]
    congr 2
    funext q
    by_cases hq : q = i.toNatClampNeg
    · subst hq
      simp [updV, va_up, va_rf]
    · simp [updV, va_up, hq]
theorem zr_alen {τ : Type} (C : Option τ → Prop) (hC : ¬ C none) {o : Int32 → Option τ} {a : Nat} (h0 : zFix G cc own nL ret rm) (d : decode cc pc = .ok (.arraylength, 1)) (hn : pc + 1 = n) (kk : ∀ v : Int32, zV G nL S ce sl n lv (.int v :: st) (C (o v))) : zV G nL S ce sl pc lv (.ref a :: st) (C (Option.bind (zal S a) o)) := by
  cases hz : zal S a with
  | none => exact zv_imp (fun h => hC h) zv_false
  | some v =>
    have hfs : ∃ (t : Nat) (x : vp_A), S.1 a = some (.inl (t, x)) ∧ t < 5 ∧ v = Int32.ofNat x.1 := by
      unfold zal at hz
      split at hz
      · next u m x hs =>
        split at hz
        · next hu =>
          cases hz
          exact ⟨u, (m, x), hs, hu, rfl⟩
        · cases hz
      · cases hz
    obtain ⟨t, x, hs, hu, rfl⟩ := hfs
    have kv := kk (Int32.ofNat x.1)
    obtain ⟨ty, hty⟩ : ∃ ty, zTy[t]? = some ty := ⟨zTy[t], List.getElem?_eq_getElem (by simpa using hu)⟩
    obtain ⟨p, l, e, R, s, m, args, below, meth, c, Q, D, z0⟩ := G
    obtain ⟨hx, hb, -, hown, hts, hvm, -⟩ := h0
    subst hn
    intro hP H locs ls h1 h2 h3
    have hcell : va_P (zG D) vwCl [(a, .inl (D.2.2 t, x))] H := by
      intro k q hk
      match k, hk with
      | 0, hk => cases hk; exact zarr h1 hs
      | k + 1, hk => simp at hk
    exact va_alen (tys := zTys D) (D := zG D) (cl := vwCl) hx hb hvm.1 hcell 0 t rfl (zTys_at D hty) rfl d (kv hP H locs ls h1 h2 h3)
theorem zr_newarray {t N : Nat} {atype : ArrayType} {ty : FieldType} {i : Int32} {ce' sl' : Nat} (h0 : zFix G cc own nL ret rm) (ht : zTy[t]? = some ty) (hty : newarray.typeOf atype = ty) (ha : ∀ cA : ClassId, vp_cell cA (match zn0 t N with | .inl x => x.2 | .inr _ => (0, .inl (fun _ => 0))) = arrV cA N (fun _ => defaultValue ty)) (hz : zn0 t N = .inl (t, (match zn0 t N with | .inl x => x.2 | .inr _ => (0, .inl (fun _ => 0))))) (hprim : ∀ X, ty ≠ .object X) (hw : Cond.arrayClass ty ∈ zTbl) (hi : ¬ i < 0) (hN : i.toNatClampNeg = N) (hby : N * componentBytes ty ≤ 536870912) (hce : ce + 1 = ce') (hsl : sl + N = sl') (h1c : ce' ≤ rm.cells) (h1s : sl' ≤ rm.slots) (d : decode cc pc = .ok (.newarray atype, 2)) (hn : pc + 2 = n) (k : zV G nL (zna S t N) ce' sl' n lv (.ref S.2 :: st) P) : zV G nL S ce sl pc lv (.int i :: st) P := by
  obtain ⟨p, l, e, R, s, m, args, below, meth, c, Q, D, z0⟩ := G
  obtain ⟨hx, hb, -, hown, hts, hvm, -, -, rfl, -⟩ := h0
  subst hn
  subst hty
  subst hce
  subst hsl
  intro hP H locs ls h1 h2 h3
  refine va_newaK hx hb (hts _ hw) rfl d rfl hi hN hby h1c h1s rfl fun H1 cA e1 z1 o1 hAr hNm => ?_
  have hc2 : cA = D.2.2 t := by
    have h9 := (hvm.1.2 t _ (zTys_at D ht)).2
    unfold va_RA at h9
    split at h9
    · next heq =>
      have heq9 : newarray.typeOf atype = FieldType.object _ := heq
      exact absurd heq9 (hprim _)
    · exact Option.some.inj (hNm.symm.trans h9)
  subst hc2
  have hS2 : H.size = S.2 := h1.1.2
  have hq : zHp D z0 (zna S t N) H1 := by
    refine h1.push (e := zn0 t N) ?_ o1 z1
    rw [hz]
    show H1[S.2]? = some (vp_cell _ _)
    rw [ha, ← hS2]
    exact e1
  rw [hS2]
  exact k hP H1 locs ls hq ⟨Nat.le_trans h2.1 (by omega), fun x g1 g2 => (o1 x (Nat.lt_of_lt_of_le g1 h2.1)).trans (h2.2.1 x g1 g2), h2.2.2⟩ h3
theorem zr_anewarray {t N idx : Nat} {CN : String} {i : Int32} {ce' sl' : Nat} (h0 : zFix G cc own nL ret rm) (ht : zTy[t]? = some (.object CN)) (hao : zAOs CN) (h3t : 3 ≤ t) (hw : Cond.classLink own idx CN ∈ zTbl) (hi : ¬ i < 0) (hN : i.toNatClampNeg = N) (hby : N * 4 ≤ 536870912) (hce : ce + 1 = ce') (hsl : sl + N = sl') (h1c : ce' ≤ rm.cells) (h1s : sl' ≤ rm.slots) (d : decode cc pc = .ok (.anewarray idx, 3)) (hn : pc + 3 = n) (k : zV G nL (zna S t N) ce' sl' n lv (.ref S.2 :: st) P) : zV G nL S ce sl pc lv (.int i :: st) P := by
  obtain ⟨p, l, e, R, s, m, args, below, meth, c, Q, D, z0⟩ := G
  obtain ⟨hx, hb, -, hown, hts, hvm, -, -, rfl, -⟩ := h0
  subst hn
  subst hN
  subst hce
  subst hsl
  intro hP H locs ls h1 h2 h3
  refine W.anew hx hb hown (hts _ hw) (va_AO.use (hao _ hvm.2.2.1)) rfl d rfl hi hby h1c h1s fun cA kA comp f1 f2 f3 f4 => ?_
  generalize hH1 : H.push ({ cls := cA, slots := Array.replicate i.toNatClampNeg .null, vm := .none } : Cell) = H1
  have z1 : H1.size = H.size + 1 := by rw [← hH1, Array.size_push]
  have e1 : H1[H.size]? = some (arrV cA i.toNatClampNeg (fun _ => .null)) := by rw [← hH1, Array.getElem?_push_size, ← arrV_new]
  have o1 : ∀ q : Nat, q < H.size → H1[q]? = H[q]? := fun q hq => by rw [← hH1, Array.getElem?_push, if_neg (Nat.ne_of_lt hq)]
  have hc2 : cA = D.2.2 t := by
    obtain ⟨kA9, comp9, -, -, -, h9⟩ := (hvm.1.2 t _ (zTys_at D ht)).2
    exact Option.some.inj (f1.symm.trans h9)
  subst hc2
  have hS2 : H.size = S.2 := h1.1.2
  have hz : zn0 t i.toNatClampNeg = .inl (t, i.toNatClampNeg, .inr (.inr (.inr (.inr (fun _ => none))))) := by
    match t, h3t with
    | k + 3, _ => rfl
  have hq : zHp D z0 (zna S t i.toNatClampNeg) H1 := by
    refine h1.push (e := zn0 t i.toNatClampNeg) ?_ o1 z1
    rw [hz]
    show H1[S.2]? = some (vp_cell _ _)
    rw [vp_cell_q, ← hS2]
    exact e1
  rw [hS2]
  exact k hP H1 locs ls hq ⟨Nat.le_trans h2.1 (by omega), fun x g1 g2 => (o1 x (Nat.lt_of_lt_of_le g1 h2.1)).trans (h2.2.1 x g1 g2), h2.2.2⟩ h3
theorem zr_new {ci idx : Nat} {fs : List Value} {R : String} {T : u_T} {N : Nat} {ty : Nat → FieldType} {ce' sl' : Nat} (h0 : zFix G cc own nL ret rm) (hc : zCls ci R T N ty) (hfs : ∀ j, j < N → defaultValue (ty j) = vp_V fs j) (w1 : Cond.classLink own idx R ∈ zTbl) (w2 : Cond.instantiable R N ∈ zTbl) (w3 : Cond.initialized R ∈ zTbl) (hce : ce + 1 = ce') (hsl : sl + N = sl') (h1c : ce' ≤ rm.cells) (h1s : sl' ≤ rm.slots) (d : decode cc pc = .ok (.new idx, 3)) (hn : pc + 3 = n) (k : zV G nL (zno S ci fs) ce' sl' n lv (.ref S.2 :: st) P) : zV G nL S ce sl pc lv st P := by
  obtain ⟨p, l, e, R9, s, m, args, below, meth, c, Q, D, z0⟩ := G
  obtain ⟨hx, hb, -, hown, hts, hvm, -, -, rfl, -⟩ := h0
  obtain ⟨hcl, hin, hty, hnm⟩ := hc
  subst hn
  subst hce
  subst hsl
  intro hP H locs ls h1 h2 h3
  have hKn := hvm.1.1 ci _ hcl
  refine W.newcK hx hb hown (hts _ w1) (hts _ w2) (hts _ w3) rfl d h1c h1s hKn.2.1 rfl fun H1 kC hkC e1 z1 o1 => ?_
  have hS2 : H.size = S.2 := h1.1.2
  have hq : zHp D z0 (zno S ci fs) H1 := by
    refine h1.push (e := .inr (ci, fs)) ?_ o1 z1
    exact ⟨_, hcl, (u_born ty hts hin hKn hkC (by rw [← hS2]; exact e1) hty).to hfs⟩
  rw [hS2]
  exact k hP H1 locs ls hq ⟨Nat.le_trans h2.1 (by omega), fun x g1 g2 => (o1 x (Nat.lt_of_lt_of_le g1 h2.1)).trans (h2.2.1 x g1 g2), h2.2.2⟩ h3
theorem zr_objInit {a idx : Nat} (h0 : zFix G cc own nL ret rm) (w1 : Cond.methodLink own idx Lib.objectInit ∈ zTbl) (w2 : Cond.instanceMethod Lib.objectInit ∈ zTbl) (w3 : Cond.code Lib.objectInit ⟨#[0xb1]⟩ 1 none ∈ zTbl) (hf : 1 ≤ rm.frames) (hl : (st.map fun v => v.category).sum + 12 ≤ rm.locals) (d : decode cc pc = .ok (.invokespecial idx, 3)) (hn : pc + 3 = n) (k : zV G nL S ce sl n lv st P) : zV G nL S ce sl pc lv (.ref a :: st) P := by
  obtain ⟨p, l, e, R, s, m, args, below, meth, c, Q, D, z0⟩ := G
  obtain ⟨hx, hb, hml, hown, hts, hvm, -, -, rfl, -⟩ := h0
  subst hn
  intro hP H locs ls h1 h2 h3
  refine W.objInit hx hb hown (hts _ w1) (hts _ w2) (hts _ w3) rfl (by rw [hml]; exact h3.1) rfl d hf (by simpa [JFrame.monitorRoom] using hl) ?_
  exact k hP H locs ls h1 h2 h3
theorem zgoodL {pre : List Cond} {c : Cond} (hp : ∀ w ∈ pre, w ∈ zTbl) (hc : c ∈ zTbl) : GoodIn zTbl (pre ++ (c :: zTbl)) := by
  intro w hw
  have h1 : w ∈ zTbl := by
    rcases List.mem_append.mp hw with h | h
    · exact hp w h
    · rcases List.mem_cons.mp h with rfl | h
      · exact hc
      · exact h
  exact ⟨h1, good_of_word (List.mem_filter.mp h1).2⟩
def zRun (G : ZG) (nL : Nat) (S : ZS) (ce sl pc : Nat) (lv : List (Nat × Value)) (stk st : List Value) (mc ms : Nat) (res : Option Value) (S' : ZS) : Prop := match G with
  | (p, l, e, R, s, m, args, below, meth, c, Q, D, z0) => ∀ (H : Heap) (locs : List Loc) (ls : Array Slot), zHp D z0 S H → va_S (zA z0) s.heap H locs → lv_has ls nL lv → ∃ av, va_Run p l e R s m args below meth c H locs ce sl mc ms (F0 m pc ls stk) st (zQc D z0 res S' av) (zA z0)
def zRunT (G : ZG) (nL : Nat) (S : ZS) (ce sl pc : Nat) (lv : List (Nat × Value)) (stk st : List Value) (mc ms : Nat) (R9 : (Option Value × ZS) ⊕ ZX) : Prop := match G with
  | (p, l, e, R, s, m, args, below, meth, c, Q, D, z0) => ∀ (H : Heap) (locs : List Loc) (ls : Array Slot), zHp D z0 S H → va_S (zA z0) s.heap H locs → lv_has ls nL lv → ∃ av, vx_Run p l e R s m args below meth c H locs ce sl mc ms (F0 m pc ls stk) st (fun st9 oc t => ∃ v S', R9 = .inl (v, S') ∧ zQc D z0 v S' av st9 oc t) (fun E st9 t => ∃ E0 h, R9 = .inr (E0, h) ∧ zXc D z0 E0 h E st9 t) (zA z0)
abbrev zyOK (y : MethodName) (k : Nat) : Prop := y.cls ≠ "java/lang/invoke/MethodHandle" ∧ y.cls ≠ "java/lang/invoke/VarHandle" ∧ (parseMethodDescriptor y.desc).map (fun d => d.parameters.length) = some k
theorem zW_in {D : ZD} {z0 : Nat} {s : State} {H : Heap} {locs : List Loc} (hvm : zVm D s) (hst : zSt z0 s s.heap) (h1 : zHp D z0 S H) (h2 : va_S (zA z0) s.heap H locs) {U : State} (hU : U.heap = H) (hW : s.WarmedH U.vm) : zW D z0 S U := ⟨hvm.warm hW, by rw [hU]; exact h1, by rw [hU]; exact zSt.moved hW.alike (hst.kept h2)⟩
theorem zk_S {y : MethodName} {bytes : ByteArray} {maxL idx k : Nat} {retY : Option FieldType} {rmY : Room} {As stk : List Value} {S' : ZS} {res : Option Value} (h0 : zFix G cc own nL ret rm) (hM : ∀ l D z0, zMet l D z0 y bytes maxL retY rmY As S res S') (w1 : Cond.methodLink own idx y ∈ zTbl) (w2 : Cond.static y ∈ zTbl) (w3 : Cond.initialized y.cls ∈ zTbl) (w4 : Cond.code y bytes maxL retY ∈ zTbl) (hy : zyOK y k) (hk : As.length = k) (hR : rmY.frames + 1 ≤ rm.frames ∧ 8 + (maxL + 11) + rmY.locals ≤ rm.locals) (hstk : stk = As.reverse ++ st) (hcat : (st.map fun v => v.category).sum ≤ 8) (hc : ce + rmY.cells ≤ rm.cells ∧ sl + rmY.slots ≤ rm.slots) (d : decode cc pc = .ok (.invokestatic idx, 3)) : zRun G nL S ce sl pc lv stk st rmY.cells rmY.slots res S' := by
  obtain ⟨p, l, e, R, s, m, args, below, meth, c, Q, D, z0⟩ := G
  obtain ⟨hx, hb, hml, hown, hts, hvm, hst, -, rfl, -⟩ := h0
  subst hstk
  intro H locs ls h1 h2 h3
  exact ⟨_, va_runS (As := As) (rest := st) ⟨hx, hb, hml, hown, hts⟩ (hM l D z0) (va_cwS k hts (zgoodL (pre := [.methodLink own idx y, .static y, .initialized y.cls]) (fun w h => by simp only [List.mem_cons, List.not_mem_nil, or_false] at h; rcases h with rfl | rfl | rfl <;> assumption) w4) rfl rfl rfl hy hR) ⟨zW.blind, fun U hU hW => ⟨rfl, zW_in hvm hst h1 h2 hU hW⟩⟩ rfl hk h3.1 rfl (by simpa [JFrame.monitorRoom] using hcat) d hc⟩
theorem zk_V {y : MethodName} {bytes : ByteArray} {maxL idx k : Nat} {retY : Option FieldType} {rmY : Room} {As stk : List Value} {S' : ZS} {res : Option Value} {a ci : Nat} {R8 : String} {T : u_T} {N : Nat} {ty : Nat → FieldType} (h0 : zFix G cc own nL ret rm) (hcC : zCls ci R8 T N ty) (ha : ∃ fs, S.1 a = some (.inr (ci, fs))) (hM : ∀ l D z0, zMet l D z0 y bytes maxL retY rmY (.ref a :: As) S res S') (w1 : Cond.methodLink own idx y ∈ zTbl) (w2 : Cond.instanceMethod y ∈ zTbl) (w5 : Cond.selects y.cls y y ∈ zTbl) (w3 : Cond.initialized y.cls ∈ zTbl) (w4 : Cond.code y bytes maxL retY ∈ zTbl) (hyc : y.cls = R8) (hy : zyOK y k) (hk : As.length = k) (hR : rmY.frames + 1 ≤ rm.frames ∧ 8 + (maxL + 11) + rmY.locals ≤ rm.locals) (hstk : stk = As.reverse ++ .ref a :: st) (hcat : (st.map fun v => v.category).sum ≤ 8) (hc : ce + rmY.cells ≤ rm.cells ∧ sl + rmY.slots ≤ rm.slots) (d : decode cc pc = .ok (.invokevirtual idx, 3)) : zRun G nL S ce sl pc lv stk st rmY.cells rmY.slots res S' := by
  obtain ⟨p, l, e, R, s, m, args, below, meth, c, Q, D, z0⟩ := G
  obtain ⟨hx, hb, hml, hown, hts, hvm, hst, -, rfl, -⟩ := h0
  subst hstk
  subst hyc
  obtain ⟨fs, hs⟩ := ha
  obtain ⟨hcl, -⟩ := hcC
  intro H locs ls h1 h2 h3
  obtain ⟨cell, g1, g2, g3, -⟩ := zobj h1 hs hcl
  exact ⟨_, va_runV (As := As) (rest := st) (C := y.cls) ⟨hx, hb, hml, hown, hts⟩ (hM l D z0) (cwV k hts (zgoodL (pre := [.methodLink own idx y, .instanceMethod y, .selects y.cls y y, .initialized y.cls]) (fun w h => by simp only [List.mem_cons, List.not_mem_nil, or_false] at h; rcases h with rfl | rfl | rfl | rfl <;> assumption) w4) rfl rfl rfl ⟨rfl, hy⟩ hR) ⟨zW.blind, ⟨cell, g1, by rw [g3]; rfl, by rw [g2]; exact (hvm.1.1 ci _ hcl).2.1⟩, fun U hU hW => ⟨rfl, zW_in hvm hst h1 h2 hU hW⟩⟩ rfl hk h3.1 rfl (by simpa [JFrame.monitorRoom] using hcat) d hc⟩
theorem zk_ST {y : MethodName} {bytes : ByteArray} {maxL idx k : Nat} {retY : Option FieldType} {rmY : Room} {As stk : List Value} {R9 : (Option Value × ZS) ⊕ ZX} (h0 : zFix G cc own nL ret rm) (hM : ∀ l D z0, l.stackTraces = false → zMetT l D z0 y bytes maxL retY rmY As S R9) (hnt : zNoTab G) (w1 : Cond.methodLink own idx y ∈ zTbl) (w2 : Cond.static y ∈ zTbl) (w3 : Cond.initialized y.cls ∈ zTbl) (w4 : Cond.code y bytes maxL retY ∈ zTbl) (hy : zyOK y k) (hk : As.length = k) (hR : rmY.frames + 1 ≤ rm.frames ∧ 8 + (maxL + 11) + rmY.locals ≤ rm.locals) (hstk : stk = As.reverse ++ st) (hcat : (st.map fun v => v.category).sum ≤ 8) (hc : ce + rmY.cells ≤ rm.cells ∧ sl + rmY.slots ≤ rm.slots) (d : decode cc pc = .ok (.invokestatic idx, 3)) : zRunT G nL S ce sl pc lv stk st rmY.cells rmY.slots R9 := by
  obtain ⟨p, l, e, R, s, m, args, below, meth, c, Q, D, z0⟩ := G
  obtain ⟨hx, hb, hml, hown, hts, hvm, hst, -, rfl, -⟩ := h0
  subst hstk
  intro H locs ls h1 h2 h3
  exact ⟨_, vx_runS (As := As) (rest := st) ⟨hx, hb, hml, hown, hts⟩ (hM l D z0 hnt.2) (va_cwS k hts (zgoodL (pre := [.methodLink own idx y, .static y, .initialized y.cls]) (fun w h => by simp only [List.mem_cons, List.not_mem_nil, or_false] at h; rcases h with rfl | rfl | rfl <;> assumption) w4) rfl rfl rfl hy hR) ⟨zW.blind, fun U hU hW => ⟨rfl, zW_in hvm hst h1 h2 hU hW⟩⟩ rfl hk h3.1 rfl (by simpa [JFrame.monitorRoom] using hcat) d hc⟩
theorem zk_VT {y : MethodName} {bytes : ByteArray} {maxL idx k : Nat} {retY : Option FieldType} {rmY : Room} {As stk : List Value} {R9 : (Option Value × ZS) ⊕ ZX} {a ci : Nat} {R8 : String} {T : u_T} {N : Nat} {ty : Nat → FieldType} (h0 : zFix G cc own nL ret rm) (hcC : zCls ci R8 T N ty) (ha : ∃ fs, S.1 a = some (.inr (ci, fs))) (hM : ∀ l D z0, l.stackTraces = false → zMetT l D z0 y bytes maxL retY rmY (.ref a :: As) S R9) (hnt : zNoTab G) (w1 : Cond.methodLink own idx y ∈ zTbl) (w2 : Cond.instanceMethod y ∈ zTbl) (w5 : Cond.selects y.cls y y ∈ zTbl) (w3 : Cond.initialized y.cls ∈ zTbl) (w4 : Cond.code y bytes maxL retY ∈ zTbl) (hyc : y.cls = R8) (hy : zyOK y k) (hk : As.length = k) (hR : rmY.frames + 1 ≤ rm.frames ∧ 8 + (maxL + 11) + rmY.locals ≤ rm.locals) (hstk : stk = As.reverse ++ .ref a :: st) (hcat : (st.map fun v => v.category).sum ≤ 8) (hc : ce + rmY.cells ≤ rm.cells ∧ sl + rmY.slots ≤ rm.slots) (d : decode cc pc = .ok (.invokevirtual idx, 3)) : zRunT G nL S ce sl pc lv stk st rmY.cells rmY.slots R9 := by
  obtain ⟨p, l, e, R, s, m, args, below, meth, c, Q, D, z0⟩ := G
  obtain ⟨hx, hb, hml, hown, hts, hvm, hst, -, rfl, -⟩ := h0
  subst hstk
  subst hyc
  obtain ⟨fs, hs⟩ := ha
  obtain ⟨hcl, -⟩ := hcC
  intro H locs ls h1 h2 h3
  obtain ⟨cell, g1, g2, g3, -⟩ := zobj h1 hs hcl
  exact ⟨_, vx_runV (As := As) (rest := st) (C := y.cls) ⟨hx, hb, hml, hown, hts⟩ (hM l D z0 hnt.2) (cwV k hts (zgoodL (pre := [.methodLink own idx y, .instanceMethod y, .selects y.cls y y, .initialized y.cls]) (fun w h => by simp only [List.mem_cons, List.not_mem_nil, or_false] at h; rcases h with rfl | rfl | rfl | rfl <;> assumption) w4) rfl rfl rfl ⟨rfl, hy⟩ hR) ⟨zW.blind, ⟨cell, g1, by rw [g3]; rfl, by rw [g2]; exact (hvm.1.1 ci _ hcl).2.1⟩, fun U hU hW => ⟨rfl, zW_in hvm hst h1 h2 hU hW⟩⟩ rfl hk h3.1 rfl (by simpa [JFrame.monitorRoom] using hcat) d hc⟩
theorem zk_I {y : MethodName} {bytes : ByteArray} {maxL idx k : Nat} {rmY : Room} {As stk : List Value} {S' : ZS} {res : Option Value} {a : Nat} (h0 : zFix G cc own nL ret rm) (hM : ∀ l D z0, zMet l D z0 y bytes maxL none rmY (.ref a :: As) S res S') (w1 : Cond.methodLink own idx y ∈ zTbl) (w2 : Cond.instanceMethod y ∈ zTbl) (w3 : Cond.initialized y.cls ∈ zTbl) (w4 : Cond.code y bytes maxL none ∈ zTbl) (hyi : y.name = "<init>") (hy : zyOK y k) (hk : As.length = k) (hR : rmY.frames + 1 ≤ rm.frames ∧ 8 + (maxL + 11) + rmY.locals ≤ rm.locals) (hstk : stk = As.reverse ++ .ref a :: st) (hcat : (st.map fun v => v.category).sum ≤ 8) (hc : ce + rmY.cells ≤ rm.cells ∧ sl + rmY.slots ≤ rm.slots) (d : decode cc pc = .ok (.invokespecial idx, 3)) : zRun G nL S ce sl pc lv stk st rmY.cells rmY.slots res S' := by
  obtain ⟨p, l, e, R, s, m, args, below, meth, c, Q, D, z0⟩ := G
  obtain ⟨hx, hb, hml, hown, hts, hvm, hst, -, rfl, -⟩ := h0
  subst hstk
  intro H locs ls h1 h2 h3
  exact ⟨_, va_runI (As := As) (rest := st) ⟨hx, hb, hml, hown, hts⟩ (hM l D z0) (cwI k hts (zgoodL (pre := []) (fun w h => by cases h) w4) rfl rfl rfl (hts _ w3) (hts _ w1) (hts _ w2) hyi hy hR) ⟨zW.blind, fun U hU hW => ⟨rfl, zW_in hvm hst h1 h2 hU hW⟩⟩ rfl hk h3.1 rfl (by simpa [JFrame.monitorRoom] using hcat) d hc⟩
theorem zk_SN {y : MethodName} {bytes : ByteArray} {maxL idx k : Nat} {retY : Option FieldType} {rmY : Room} {As stk : List Value} {S' : ZS} {res : Option Value} {host : String} (h0 : zFix G cc own nL ret rm) (hM : ∀ l D z0, zMet l D z0 y bytes maxL retY rmY As S res S') (w1 : (own, idx, y, host) ∈ zNests) (w2 : Cond.static y ∈ zTbl) (w3 : Cond.initialized y.cls ∈ zTbl) (w4 : Cond.code y bytes maxL retY ∈ zTbl) (hy : zyOK y k) (hk : As.length = k) (hR : rmY.frames + 1 ≤ rm.frames ∧ 8 + (maxL + 11) + rmY.locals ≤ rm.locals) (hstk : stk = As.reverse ++ st) (hcat : (st.map fun v => v.category).sum ≤ 8) (hc : ce + rmY.cells ≤ rm.cells ∧ sl + rmY.slots ≤ rm.slots) (d : decode cc pc = .ok (.invokestatic idx, 3)) : zRun G nL S ce sl pc lv stk st rmY.cells rmY.slots res S' := by
  obtain ⟨p, l, e, R, s, m, args, below, meth, c, Q, D, z0⟩ := G
  obtain ⟨hx, hb, hml, hown, hts, hvm, hst, -, rfl, -⟩ := h0
  subst hstk
  intro H locs ls h1 h2 h3
  exact ⟨_, va_runSN (As := As) (rest := st) ⟨hx, hb, hml, hown, hts⟩ (hM l D z0) ⟨va_cnB k hts (zgoodL (pre := []) (fun w h => by cases h) w4) rfl rfl rfl (hvm.2.1 _ w1) (hts _ w3) hy hR, hts _ w2, trivial⟩ ⟨zW.blind, fun U hU hW => ⟨rfl, zW_in hvm hst h1 h2 hU hW⟩⟩ rfl hk h3.1 rfl (by simpa [JFrame.monitorRoom] using hcat) d hc⟩
theorem zk_IN {y : MethodName} {bytes : ByteArray} {maxL idx k : Nat} {rmY : Room} {As stk : List Value} {S' : ZS} {res : Option Value} {host : String} {a : Nat} (h0 : zFix G cc own nL ret rm) (hM : ∀ l D z0, zMet l D z0 y bytes maxL none rmY (.ref a :: As) S res S') (w1 : (own, idx, y, host) ∈ zNests) (w2 : Cond.instanceMethod y ∈ zTbl) (w3 : Cond.initialized y.cls ∈ zTbl) (w4 : Cond.code y bytes maxL none ∈ zTbl) (hyi : y.name = "<init>") (hy : zyOK y k) (hk : As.length = k) (hR : rmY.frames + 1 ≤ rm.frames ∧ 8 + (maxL + 11) + rmY.locals ≤ rm.locals) (hstk : stk = As.reverse ++ .ref a :: st) (hcat : (st.map fun v => v.category).sum ≤ 8) (hc : ce + rmY.cells ≤ rm.cells ∧ sl + rmY.slots ≤ rm.slots) (d : decode cc pc = .ok (.invokespecial idx, 3)) : zRun G nL S ce sl pc lv stk st rmY.cells rmY.slots res S' := by
  obtain ⟨p, l, e, R, s, m, args, below, meth, c, Q, D, z0⟩ := G
  obtain ⟨hx, hb, hml, hown, hts, hvm, hst, -, rfl, -⟩ := h0
  subst hstk
  intro H locs ls h1 h2 h3
  exact ⟨_, va_runIN (As := As) (rest := st) ⟨hx, hb, hml, hown, hts⟩ (hM l D z0) ⟨va_cnB k hts (zgoodL (pre := []) (fun w h => by cases h) w4) rfl rfl rfl (hvm.2.1 _ w1) (hts _ w3) hy hR, hyi, hts _ w2⟩ ⟨zW.blind, fun U hU hW => ⟨rfl, zW_in hvm hst h1 h2 hU hW⟩⟩ rfl hk h3.1 rfl (by simpa [JFrame.monitorRoom] using hcat) d hc⟩
theorem zr_call0 {mc ms ce' sl' : Nat} {res : Option Value} {S' : ZS} {stk st' : List Value} {P' : Prop} (he : zRun G nL S ce sl pc lv stk st mc ms res S') (hst : res.toList ++ st = st') (hce : ce + mc = ce') (hsl : sl + ms = sl') (hn : pc + 3 = n) (hPP : P → P') (k : zV G nL S' ce' sl' n lv st' P') : zV G nL S ce sl pc lv stk P := by
  obtain ⟨p, l, e, R, s, m, args, below, meth, c, Q, D, z0⟩ := G
  subst hst
  subst hce
  subst hsl
  subst hn
  intro hP H locs ls h1 h2 h3
  obtain ⟨av, hr⟩ := he H locs ls h1 h2 h3
  intro T hT X
  obtain ⟨v, st₀, t, T', L, h0, X', hL, e1, e2, ⟨hv, hw, hz, hk⟩, stp⟩ := hr T hT X
  cases hv
  rw [h0] at hz hk
  obtain ⟨t2, a1, b1⟩ := k (hPP hP) T'.heap (locs ++ L) ls (by rw [e1]; exact hw) ⟨Nat.le_trans h2.1 (by rw [e1]; exact hz), fun q g1 g2 => by rw [e1, hk q (Nat.lt_of_lt_of_le g1 h2.1) g2]; exact h2.2.1 q g1 g2, fun q hq => by
      rcases List.mem_append.mp hq with h | h
      · exact h2.2.2 q h
      · exact hL q h⟩ h3 T' rfl X'
  exact ⟨t2, stp t2 a1, b1⟩
theorem zr_cMI {τ : Type} (C : Option τ → Prop) (hC : ¬ C none) {f : Option (Int32 × ZS)} {o : (Int32 × ZS) → Option τ} {mc ms : Nat} {stk : List Value} (ce' sl' : Nat) (he : ∀ x, f = some x → zRun G nL S ce sl pc lv stk st mc ms (some (.int x.1)) (x.2)) (hce : ce + mc = ce') (hsl : sl + ms = sl') (hn : pc + 3 = n) (k : ∀ x, zV G nL (x.2) ce' sl' n lv (.int x.1 :: st) (C (o x))) : zV G nL S ce sl pc lv stk (C (Option.bind f o)) := by
  cases f with
  | none => exact zv_imp (fun h => hC h) zv_false
  | some x => exact zr_call0 (he x rfl) rfl hce hsl hn (fun h => h) (k x)
theorem zr_cMJ {τ : Type} (C : Option τ → Prop) (hC : ¬ C none) {f : Option (Int64 × ZS)} {o : (Int64 × ZS) → Option τ} {mc ms : Nat} {stk : List Value} (ce' sl' : Nat) (he : ∀ x, f = some x → zRun G nL S ce sl pc lv stk st mc ms (some (.long x.1)) (x.2)) (hce : ce + mc = ce') (hsl : sl + ms = sl') (hn : pc + 3 = n) (k : ∀ x, zV G nL (x.2) ce' sl' n lv (.long x.1 :: st) (C (o x))) : zV G nL S ce sl pc lv stk (C (Option.bind f o)) := by
  cases f with
  | none => exact zv_imp (fun h => hC h) zv_false
  | some x => exact zr_call0 (he x rfl) rfl hce hsl hn (fun h => h) (k x)
theorem zr_cMR {τ : Type} (C : Option τ → Prop) (hC : ¬ C none) {f : Option (Nat × ZS)} {o : (Nat × ZS) → Option τ} {mc ms : Nat} {stk : List Value} (ce' sl' : Nat) (he : ∀ x, f = some x → zRun G nL S ce sl pc lv stk st mc ms (some (.ref x.1)) (x.2)) (hce : ce + mc = ce') (hsl : sl + ms = sl') (hn : pc + 3 = n) (k : ∀ x, zV G nL (x.2) ce' sl' n lv (.ref x.1 :: st) (C (o x))) : zV G nL S ce sl pc lv stk (C (Option.bind f o)) := by
  cases f with
  | none => exact zv_imp (fun h => hC h) zv_false
  | some x => exact zr_call0 (he x rfl) rfl hce hsl hn (fun h => h) (k x)
theorem zr_cMV {τ : Type} (C : Option τ → Prop) (hC : ¬ C none) {f : Option ZS} {o : ZS → Option τ} {mc ms : Nat} {stk : List Value} (ce' sl' : Nat) (he : ∀ x, f = some x → zRun G nL S ce sl pc lv stk st mc ms (none) (x)) (hce : ce + mc = ce') (hsl : sl + ms = sl') (hn : pc + 3 = n) (k : ∀ x, zV G nL (x) ce' sl' n lv (st) (C (o x))) : zV G nL S ce sl pc lv stk (C (Option.bind f o)) := by
  cases f with
  | none => exact zv_imp (fun h => hC h) zv_false
  | some x => exact zr_call0 (he x rfl) rfl hce hsl hn (fun h => h) (k x)
theorem zr_cRI {τ : Type} (C : Option τ → Prop) (hC : ¬ C none) {f : Option Int32} {o : Int32 → Option τ} {mc ms : Nat} {stk : List Value} (ce' sl' : Nat) (he : ∀ x, f = some x → zRun G nL S ce sl pc lv stk st mc ms (some (.int x)) (S)) (hce : ce + mc = ce') (hsl : sl + ms = sl') (hn : pc + 3 = n) (k : ∀ x, zV G nL (S) ce' sl' n lv (.int x :: st) (C (o x))) : zV G nL S ce sl pc lv stk (C (Option.bind f o)) := by
  cases f with
  | none => exact zv_imp (fun h => hC h) zv_false
  | some x => exact zr_call0 (he x rfl) rfl hce hsl hn (fun h => h) (k x)
theorem zr_cRJ {τ : Type} (C : Option τ → Prop) (hC : ¬ C none) {f : Option Int64} {o : Int64 → Option τ} {mc ms : Nat} {stk : List Value} (ce' sl' : Nat) (he : ∀ x, f = some x → zRun G nL S ce sl pc lv stk st mc ms (some (.long x)) (S)) (hce : ce + mc = ce') (hsl : sl + ms = sl') (hn : pc + 3 = n) (k : ∀ x, zV G nL (S) ce' sl' n lv (.long x :: st) (C (o x))) : zV G nL S ce sl pc lv stk (C (Option.bind f o)) := by
  cases f with
  | none => exact zv_imp (fun h => hC h) zv_false
  | some x => exact zr_call0 (he x rfl) rfl hce hsl hn (fun h => h) (k x)
theorem zr_cRR {τ : Type} (C : Option τ → Prop) (hC : ¬ C none) {f : Option Nat} {o : Nat → Option τ} {mc ms : Nat} {stk : List Value} (ce' sl' : Nat) (he : ∀ x, f = some x → zRun G nL S ce sl pc lv stk st mc ms (some (.ref x)) (S)) (hce : ce + mc = ce') (hsl : sl + ms = sl') (hn : pc + 3 = n) (k : ∀ x, zV G nL (S) ce' sl' n lv (.ref x :: st) (C (o x))) : zV G nL S ce sl pc lv stk (C (Option.bind f o)) := by
  cases f with
  | none => exact zv_imp (fun h => hC h) zv_false
  | some x => exact zr_call0 (he x rfl) rfl hce hsl hn (fun h => h) (k x)
theorem zr_callT0 {τ : Type} {C : Option τ → Prop} {α : Type} {conv : α × ZS → Option Value × ZS} {mc ms ce' sl' : Nat} {x : (α × ZS) ⊕ ZX} {stk : List Value} {o : Option τ} (he : zRunT G nL S ce sl pc lv stk st mc ms (x.map conv id)) (hnt : zNoTab G) (hlk : zLks G) (hce : ce + mc = ce') (hsl : sl + ms = sl') (hcc : ce' ≤ rm.cells) (hss : sl' ≤ rm.slots) (hn : pc + 3 = n) (kx : ∀ z, x = .inr z → C o → zEndX G z.1 z.2 rm) (k : ∀ y, x = .inl y → zV G nL (conv y).2 ce' sl' n lv ((conv y).1.toList ++ st) (C o)) : zV G nL S ce sl pc lv stk (C o) := by
  obtain ⟨p, l, e, R, s, m, args, below, meth, c, Q, D, z0⟩ := G
  subst hce
  subst hsl
  subst hn
  intro hP H locs ls h1 h2 h3
  obtain ⟨av, hr⟩ := he H locs ls h1 h2 h3
  intro T hT X
  rcases hr T hT X with ⟨v, st₀, t, T', L, h0, X', hL, e1, e2, ⟨v9, S9, hR, hv, hw, hz, hk⟩, stp⟩ | ⟨q, st₀, t, T', L, E, ce9, h0, X', hL, e1, e2, ⟨E0, h, hR, hE, ⟨n9, hw⟩, hz, hk⟩, hce9, hcv, hcl, stp⟩
  · cases hv
    rw [h0] at hz hk
    cases x with
    | inr z => cases hR
    | inl y =>
      have hR2 : conv y = (v, S9) := Sum.inl.inj hR
      have k9 := k y rfl
      rw [hR2] at k9
      obtain ⟨t2, a1, b1⟩ := k9 hP T'.heap (locs ++ L) ls (by rw [e1]; exact hw) ⟨Nat.le_trans h2.1 (by rw [e1]; exact hz), fun q g1 g2 => by rw [e1, hk q (Nat.lt_of_lt_of_le g1 h2.1) g2]; exact h2.2.1 q g1 g2, fun q hq => by
          rcases List.mem_append.mp hq with h | h
          · exact h2.2.2 q h
          · exact hL q h⟩ h3 T' rfl X'
      exact ⟨t2, stp t2 a1, b1⟩
  · rw [h0] at hz hk
    cases x with
    | inl y => cases hR
    | inr z =>
      have hR2 : z = (E0, h) := Sum.inr.inj hR
      subst hR2
      obtain ⟨Qc, XC, hQ, hX⟩ := kx _ rfl hP
      subst hE
      rw [← e1] at hce9
      have h2' : va_S (zA z0) s.heap T'.heap (locs ++ L) := ⟨Nat.le_trans h2.1 (by rw [e1]; exact hz), fun q g1 g2 => by rw [e1, hk q (Nat.lt_of_lt_of_le g1 h2.1) g2]; exact h2.2.1 q g1 g2, fun q hq => by
          rcases List.mem_append.mp hq with h | h
          · exact h2.2.2 q h
          · exact hL q h⟩
      have K : vx_W p l e R s m args below meth c T'.heap (locs ++ L) (ce + mc) (sl + ms) Q (F0 m pc ls st) q := by
        rw [hQ]
        exact vx_out (fun x hx => (hnt.1 x hx).elim) hlk hce9 hcv hcl (fun t9 ht9 hal => hX t9 n9 (by rw [ht9, e1]; exact hw) (h2'.F ht9)) h2'.2.2 hcc hss
      obtain ⟨t2, a1, b1⟩ := K T' rfl X'
      exact ⟨t2, Steps.trans stp a1, b1⟩
theorem zFix.lks (h : zFix G cc own nL ret rm) : zLks G := by
  obtain ⟨p, l, e, R, s, m, args, below, meth, c, Q, D, z0⟩ := G
  exact h.2.2.2.2.2.2.2.1
theorem zr_cTI {β : Type} (C : Option (β ⊕ ZX) → Prop) (hC : ¬ C none) {f : Option ((Int32 × ZS) ⊕ ZX)} {o : Int32 × ZS → Option (β ⊕ ZX)} {mc ms : Nat} {stk : List Value} (ce' sl' : Nat) (h0 : zFix G cc own nL ret rm) (he : ∀ x, f = some x → zRunT G nL S ce sl pc lv stk st mc ms (x.map (fun y => (some (.int y.1), y.2)) id)) (hnt : zNoTab G) (hce : ce + mc = ce') (hsl : sl + ms = sl') (hcc : ce' ≤ rm.cells) (hss : sl' ≤ rm.slots) (hn : pc + 3 = n) (kx : ∀ z, C (some (.inr z)) → zEndX G z.1 z.2 rm) (k : ∀ y, zV G nL y.2 ce' sl' n lv (.int y.1 :: st) (C (o y))) : zV G nL S ce sl pc lv stk (C (zbT f o)) := by
  have hlk := zFix.lks h0
  cases f with
  | none => exact zv_imp (fun h => hC h) zv_false
  | some x =>
    refine zr_callT0 (C := C) (o := zbT (some x) o) (conv := fun y => (some (.int y.1), y.2)) (x := x) (he x rfl) hnt hlk hce hsl hcc hss hn (fun z hx hP => ?_) (fun y hx => ?_)
    · subst hx
      exact kx z hP
    · subst hx
      exact k y
theorem zr_cTJ {β : Type} (C : Option (β ⊕ ZX) → Prop) (hC : ¬ C none) {f : Option ((Int64 × ZS) ⊕ ZX)} {o : Int64 × ZS → Option (β ⊕ ZX)} {mc ms : Nat} {stk : List Value} (ce' sl' : Nat) (h0 : zFix G cc own nL ret rm) (he : ∀ x, f = some x → zRunT G nL S ce sl pc lv stk st mc ms (x.map (fun y => (some (.long y.1), y.2)) id)) (hnt : zNoTab G) (hce : ce + mc = ce') (hsl : sl + ms = sl') (hcc : ce' ≤ rm.cells) (hss : sl' ≤ rm.slots) (hn : pc + 3 = n) (kx : ∀ z, C (some (.inr z)) → zEndX G z.1 z.2 rm) (k : ∀ y, zV G nL y.2 ce' sl' n lv (.long y.1 :: st) (C (o y))) : zV G nL S ce sl pc lv stk (C (zbT f o)) := by
  have hlk := zFix.lks h0
  cases f with
  | none => exact zv_imp (fun h => hC h) zv_false
  | some x =>
    refine zr_callT0 (C := C) (o := zbT (some x) o) (conv := fun y => (some (.long y.1), y.2)) (x := x) (he x rfl) hnt hlk hce hsl hcc hss hn (fun z hx hP => ?_) (fun y hx => ?_)
    · subst hx
      exact kx z hP
    · subst hx
      exact k y
theorem zr_cTR {β : Type} (C : Option (β ⊕ ZX) → Prop) (hC : ¬ C none) {f : Option ((Nat × ZS) ⊕ ZX)} {o : Nat × ZS → Option (β ⊕ ZX)} {mc ms : Nat} {stk : List Value} (ce' sl' : Nat) (h0 : zFix G cc own nL ret rm) (he : ∀ x, f = some x → zRunT G nL S ce sl pc lv stk st mc ms (x.map (fun y => (some (.ref y.1), y.2)) id)) (hnt : zNoTab G) (hce : ce + mc = ce') (hsl : sl + ms = sl') (hcc : ce' ≤ rm.cells) (hss : sl' ≤ rm.slots) (hn : pc + 3 = n) (kx : ∀ z, C (some (.inr z)) → zEndX G z.1 z.2 rm) (k : ∀ y, zV G nL y.2 ce' sl' n lv (.ref y.1 :: st) (C (o y))) : zV G nL S ce sl pc lv stk (C (zbT f o)) := by
  have hlk := zFix.lks h0
  cases f with
  | none => exact zv_imp (fun h => hC h) zv_false
  | some x =>
    refine zr_callT0 (C := C) (o := zbT (some x) o) (conv := fun y => (some (.ref y.1), y.2)) (x := x) (he x rfl) hnt hlk hce hsl hcc hss hn (fun z hx hP => ?_) (fun y hx => ?_)
    · subst hx
      exact kx z hP
    · subst hx
      exact k y
theorem zr_cTV {β : Type} (C : Option (β ⊕ ZX) → Prop) (hC : ¬ C none) {f : Option ((Unit × ZS) ⊕ ZX)} {o : Unit × ZS → Option (β ⊕ ZX)} {mc ms : Nat} {stk : List Value} (ce' sl' : Nat) (h0 : zFix G cc own nL ret rm) (he : ∀ x, f = some x → zRunT G nL S ce sl pc lv stk st mc ms (x.map (fun y => (none, y.2)) id)) (hnt : zNoTab G) (hce : ce + mc = ce') (hsl : sl + ms = sl') (hcc : ce' ≤ rm.cells) (hss : sl' ≤ rm.slots) (hn : pc + 3 = n) (kx : ∀ z, C (some (.inr z)) → zEndX G z.1 z.2 rm) (k : ∀ y, zV G nL y.2 ce' sl' n lv (st) (C (o y))) : zV G nL S ce sl pc lv stk (C (zbT f o)) := by
  have hlk := zFix.lks h0
  cases f with
  | none => exact zv_imp (fun h => hC h) zv_false
  | some x =>
    refine zr_callT0 (C := C) (o := zbT (some x) o) (conv := fun y => (none, y.2)) (x := x) (he x rfl) hnt hlk hce hsl hcc hss hn (fun z hx hP => ?_) (fun y hx => ?_)
    · subst hx
      exact kx z hP
    · subst hx
      exact k y
theorem zr_iret {v : Int32} (h0 : zFix G cc own nL ret rm) (hr : ret = some .int) (d : decode cc pc = .ok (.ireturn, 1)) (hE : P → zEnd G (some (.int v)) S rm) (h1c : ce ≤ rm.cells) (h1s : sl ≤ rm.slots) : zV G nL S ce sl pc lv ([.int v]) P := by
  obtain ⟨p, l, e, R, s, m, args, below, meth, c, Q, D, z0⟩ := G
  obtain ⟨hx, hb, -, hown, hts, hvm, -, hlk, -, hret, -⟩ := h0
  intro hP H locs ls h1 h2 h3
  obtain ⟨Qc, rfl, hQ⟩ := hE hP
  refine W.widen h1c h1s ?_
  skip
  exact W.iret hx hb (hret.trans hr) (fun t ht hW => hQ t (by rw [ht]; exact h1) (h2.F ht)) h2.2.2 d hlk
theorem zr_iretT {v : Int32} (h0 : zFix G cc own nL ret rm) (hr : ret = some .int) (d : decode cc pc = .ok (.ireturn, 1)) (hE : P → zEndT G (some (.int v)) S rm) (h1c : ce ≤ rm.cells) (h1s : sl ≤ rm.slots) : zV G nL S ce sl pc lv ([.int v]) P := by
  obtain ⟨p, l, e, R, s, m, args, below, meth, c, Q, D, z0⟩ := G
  obtain ⟨hx, hb, -, hown, hts, hvm, -, hlk, -, hret, -⟩ := h0
  intro hP H locs ls h1 h2 h3
  obtain ⟨Qc, XC, rfl, hQ⟩ := hE hP
  refine W.widen h1c h1s ?_
  refine vx_ret ?_
  exact W.iret hx hb (hret.trans hr) (fun t ht hW => hQ t (by rw [ht]; exact h1) (h2.F ht)) h2.2.2 d hlk
theorem zr_lret {v : Int64} (h0 : zFix G cc own nL ret rm) (hr : ret = some .long) (d : decode cc pc = .ok (.lreturn, 1)) (hE : P → zEnd G (some (.long v)) S rm) (h1c : ce ≤ rm.cells) (h1s : sl ≤ rm.slots) : zV G nL S ce sl pc lv ([.long v]) P := by
  obtain ⟨p, l, e, R, s, m, args, below, meth, c, Q, D, z0⟩ := G
  obtain ⟨hx, hb, -, hown, hts, hvm, -, hlk, -, hret, -⟩ := h0
  intro hP H locs ls h1 h2 h3
  obtain ⟨Qc, rfl, hQ⟩ := hE hP
  refine W.widen h1c h1s ?_
  skip
  exact W.lret hx hb (hret.trans hr) (fun t ht hW => hQ t (by rw [ht]; exact h1) (h2.F ht)) h2.2.2 d hlk
theorem zr_lretT {v : Int64} (h0 : zFix G cc own nL ret rm) (hr : ret = some .long) (d : decode cc pc = .ok (.lreturn, 1)) (hE : P → zEndT G (some (.long v)) S rm) (h1c : ce ≤ rm.cells) (h1s : sl ≤ rm.slots) : zV G nL S ce sl pc lv ([.long v]) P := by
  obtain ⟨p, l, e, R, s, m, args, below, meth, c, Q, D, z0⟩ := G
  obtain ⟨hx, hb, -, hown, hts, hvm, -, hlk, -, hret, -⟩ := h0
  intro hP H locs ls h1 h2 h3
  obtain ⟨Qc, XC, rfl, hQ⟩ := hE hP
  refine W.widen h1c h1s ?_
  refine vx_ret ?_
  exact W.lret hx hb (hret.trans hr) (fun t ht hW => hQ t (by rw [ht]; exact h1) (h2.F ht)) h2.2.2 d hlk
theorem zr_vret  (h0 : zFix G cc own nL ret rm) (hr : ret = none) (d : decode cc pc = .ok (.return_, 1)) (hE : P → zEnd G (none) S rm) (h1c : ce ≤ rm.cells) (h1s : sl ≤ rm.slots) : zV G nL S ce sl pc lv ([]) P := by
  obtain ⟨p, l, e, R, s, m, args, below, meth, c, Q, D, z0⟩ := G
  obtain ⟨hx, hb, -, hown, hts, hvm, -, hlk, -, hret, -⟩ := h0
  intro hP H locs ls h1 h2 h3
  obtain ⟨Qc, rfl, hQ⟩ := hE hP
  refine W.widen h1c h1s ?_
  skip
  exact W.vret hx hb (hret.trans hr) (fun t ht hW => hQ t (by rw [ht]; exact h1) (h2.F ht)) h2.2.2 d hlk
theorem zr_vretT  (h0 : zFix G cc own nL ret rm) (hr : ret = none) (d : decode cc pc = .ok (.return_, 1)) (hE : P → zEndT G (none) S rm) (h1c : ce ≤ rm.cells) (h1s : sl ≤ rm.slots) : zV G nL S ce sl pc lv ([]) P := by
  obtain ⟨p, l, e, R, s, m, args, below, meth, c, Q, D, z0⟩ := G
  obtain ⟨hx, hb, -, hown, hts, hvm, -, hlk, -, hret, -⟩ := h0
  intro hP H locs ls h1 h2 h3
  obtain ⟨Qc, XC, rfl, hQ⟩ := hE hP
  refine W.widen h1c h1s ?_
  refine vx_ret ?_
  exact W.vret hx hb (hret.trans hr) (fun t ht hW => hQ t (by rw [ht]; exact h1) (h2.F ht)) h2.2.2 d hlk
theorem zr_aret {v : Nat} (h0 : zFix G cc own nL ret rm) {rt : FieldType} (hr : ret = some rt) (hrt : (∃ n, rt = .object n) ∨ ∃ t, rt = .array t) (d : decode cc pc = .ok (.areturn, 1)) (hE : P → zEnd G (some (.ref v)) S rm) (h1c : ce ≤ rm.cells) (h1s : sl ≤ rm.slots) : zV G nL S ce sl pc lv ([.ref v]) P := by
  obtain ⟨p, l, e, R, s, m, args, below, meth, c, Q, D, z0⟩ := G
  obtain ⟨hx, hb, -, hown, hts, hvm, -, hlk, -, hret, -⟩ := h0
  intro hP H locs ls h1 h2 h3
  obtain ⟨Qc, rfl, hQ⟩ := hE hP
  refine W.widen h1c h1s ?_
  skip
  exact W.aret hx hb (hret.trans hr) hrt (Or.inr ⟨_, rfl⟩) (fun t ht hW => hQ t (by rw [ht]; exact h1) (h2.F ht)) h2.2.2 d hlk
theorem zr_aretT {v : Nat} (h0 : zFix G cc own nL ret rm) {rt : FieldType} (hr : ret = some rt) (hrt : (∃ n, rt = .object n) ∨ ∃ t, rt = .array t) (d : decode cc pc = .ok (.areturn, 1)) (hE : P → zEndT G (some (.ref v)) S rm) (h1c : ce ≤ rm.cells) (h1s : sl ≤ rm.slots) : zV G nL S ce sl pc lv ([.ref v]) P := by
  obtain ⟨p, l, e, R, s, m, args, below, meth, c, Q, D, z0⟩ := G
  obtain ⟨hx, hb, -, hown, hts, hvm, -, hlk, -, hret, -⟩ := h0
  intro hP H locs ls h1 h2 h3
  obtain ⟨Qc, XC, rfl, hQ⟩ := hE hP
  refine W.widen h1c h1s ?_
  refine vx_ret ?_
  exact W.aret hx hb (hret.trans hr) hrt (Or.inr ⟨_, rfl⟩) (fun t ht hW => hQ t (by rw [ht]; exact h1) (h2.F ht)) h2.2.2 d hlk
theorem zr_zret0 {v : Int32} (h0 : zFix G cc own nL ret rm) (hr : ret = some .boolean) (hv : narrow .boolean (.int v) = .int v) (d : decode cc pc = .ok (.ireturn, 1)) (hE : P → zEnd G (some (.int v)) S rm) (h1c : ce ≤ rm.cells) (h1s : sl ≤ rm.slots) : zV G nL S ce sl pc lv ([.int v]) P := by
  obtain ⟨p, l, e, R, s, m, args, below, meth, c, Q, D, z0⟩ := G
  obtain ⟨hx, hb, -, hown, hts, hvm, -, hlk, -, hret, -⟩ := h0
  intro hP H locs ls h1 h2 h3
  obtain ⟨Qc, rfl, hQ⟩ := hE hP
  refine W.widen h1c h1s ?_
  skip
  exact W.zret hx hb (hret.trans hr) hv (fun t ht hW => hQ t (by rw [ht]; exact h1) (h2.F ht)) h2.2.2 d hlk
theorem zr_zret0T {v : Int32} (h0 : zFix G cc own nL ret rm) (hr : ret = some .boolean) (hv : narrow .boolean (.int v) = .int v) (d : decode cc pc = .ok (.ireturn, 1)) (hE : P → zEndT G (some (.int v)) S rm) (h1c : ce ≤ rm.cells) (h1s : sl ≤ rm.slots) : zV G nL S ce sl pc lv ([.int v]) P := by
  obtain ⟨p, l, e, R, s, m, args, below, meth, c, Q, D, z0⟩ := G
  obtain ⟨hx, hb, -, hown, hts, hvm, -, hlk, -, hret, -⟩ := h0
  intro hP H locs ls h1 h2 h3
  obtain ⟨Qc, XC, rfl, hQ⟩ := hE hP
  refine W.widen h1c h1s ?_
  refine vx_ret ?_
  exact W.zret hx hb (hret.trans hr) hv (fun t ht hW => hQ t (by rw [ht]; exact h1) (h2.F ht)) h2.2.2 d hlk
/-- a boolean answer: 0 or 1 -/
def zbl (v : Int32) : Option Int32 := if v = 0 then some 0 else if v = 1 then some 1 else none
theorem zbl_some {v w : Int32} (h : zbl v = some w) : v = w ∧ narrow .boolean (.int w) = .int w := by
  unfold zbl at h
  split at h
  · next h0 => cases h; exact ⟨h0, rfl⟩
  · split at h
    · next h1 => cases h; exact ⟨h1, rfl⟩
    · cases h
theorem zr_zret {τ : Type} (C : Option τ → Prop) (hC : ¬ C none) {v : Int32} {o : Int32 → Option τ} (h0 : zFix G cc own nL ret rm) (hr : ret = some .boolean) (d : decode cc pc = .ok (.ireturn, 1)) (hE : ∀ w, C (o w) → zEnd G (some (.int w)) S rm) (h1c : ce ≤ rm.cells) (h1s : sl ≤ rm.slots) : zV G nL S ce sl pc lv [.int v] (C (Option.bind (zbl v) o)) := by
  cases hz : zbl v with
  | none => exact zv_imp (fun h => hC h) zv_false
  | some w =>
    obtain ⟨rfl, h2⟩ := zbl_some hz
    exact zr_zret0 h0 hr h2 d (hE _) h1c h1s
theorem zr_zretT {τ : Type} (C : Option τ → Prop) (hC : ¬ C none) {v : Int32} {o : Int32 → Option τ} (h0 : zFix G cc own nL ret rm) (hr : ret = some .boolean) (d : decode cc pc = .ok (.ireturn, 1)) (hE : ∀ w, C (o w) → zEndT G (some (.int w)) S rm) (h1c : ce ≤ rm.cells) (h1s : sl ≤ rm.slots) : zV G nL S ce sl pc lv [.int v] (C (Option.bind (zbl v) o)) := by
  cases hz : zbl v with
  | none => exact zv_imp (fun h => hC h) zv_false
  | some w =>
    obtain ⟨rfl, h2⟩ := zbl_some hz
    exact zr_zret0T h0 hr h2 d (hE _) h1c h1s
theorem zr_throw {cls text : String} {names : List String} {ik is ic : Nat} (h0 : zFix G cc own nL ret rm) (hnt : zNoTab G) (hcls : Bundle.fit cls = true) (hnames : ∀ n ∈ names, Bundle.fit n = true)
    (w1 : Cond.classLink own ik cls ∈ zTbl) (w2 : Cond.initialized cls ∈ zTbl) (hstr : (own, is, text) ∈ zStrs) (hexs : cls ∈ zExs) (hat : ∀ w ∈ (vx_atS own ic cls names).filter goodWord, w ∈ zTbl) (hbad : ∀ w ∈ (vx_atS own ic cls names).filter (fun w => !goodWord w), w = .castable cls cls ∨ ∃ y ∈ zDecls, w = .declares y) (hgood : ∀ w ∈ vx_atS own ic cls names, vx_ot w = true)
    (d0 : decode cc pc = .ok (.new ik, 3)) (d3 : decode cc (pc + 3) = .ok (.dup, 1)) (d4 : decode cc (pc + 4) = .ok (.ldc is, 2)) (d6 : decode cc (pc + 6) = .ok (.invokespecial ic, 3)) (d9 : decode cc (pc + 9) = .ok (.athrow, 1))
    (hRf : names.length + 3 < rm.frames) (hRl : (st.map fun v => v.category).sum + (13 * (names.length + 1) + 43) ≤ rm.locals) (hce : ce + 1 ≤ rm.cells) (hsl : sl + 6 ≤ rm.slots) (hX : P → zEndX G cls S.1 rm) : zV G nL S ce sl pc lv st P := by
  obtain ⟨p, l, e, R, s, m, args, below, meth, c, Q, D, z0⟩ := G
  obtain ⟨hx, hb, hml, hown, hts, hvm, hst, hlk, rfl, hret, -⟩ := h0
  intro hP H locs ls h1 h2 h3
  obtain ⟨Qc, XC, rfl, hQ⟩ := hX hP
  obtain ⟨sa, hsa⟩ := hvm.2.2.2.1 _ hstr
  have hatw : ∀ w ∈ vx_atS own ic cls names, w.before args s = true := by
    intro w hw
    cases hg : goodWord w with
    | true => exact hts _ (hat w (List.mem_filter.mpr ⟨hw, hg⟩))
    | false =>
      rcases hbad w (List.mem_filter.mpr ⟨hw, by rw [hg]; rfl⟩) with h9 | ⟨y, hy, h9⟩
      · subst h9
        exact va_Nw.use rfl (hvm.2.2.2.2.1 cls hexs)
      · subst h9
        exact va_Nw.use rfl (hvm.2.2.2.2.2.2 y hy)
  have hg2 : ∀ w ∈ Cond.classLink own ik cls :: Cond.initialized cls :: vx_atS own ic cls names, vx_ot w = true := by
    intro w hw
    rcases List.mem_cons.mp hw with rfl | hw
    · rfl
    · rcases List.mem_cons.mp hw with rfl | hw
      · rfl
      · exact hgood w hw
  refine vx_throwS hx hb hnt.2 hown hcls hnames (hts _ w1) (hts _ w2) hsa hatw hg2 hst.1 hst.2 h2 (by rw [hml]; exact h3.1) d0 d3 d4 d6 d9 (fun x hx => (hnt.1 x hx).elim) hRf hRl hce hsl hlk (fun t hal hz hq => ?_) h2.2.2 hce hsl
  have hq2 : ∀ q : Nat, q < H.size → t.heap[q]? = H[q]? := hq
  refine hQ t t.heap.size ⟨⟨fun a x hx => ((h1.1.1 a x hx).kept (hq2 a ((h1.1.1 a x hx).lt))), rfl⟩, h1.2.1, Nat.le_trans h1.2.2 (by rw [← h1.1.2]; exact hz)⟩ ⟨Nat.le_trans h2.1 hz, fun q g1 g2 => (hq2 q (Nat.lt_of_lt_of_le g1 h2.1)).trans (h2.2.1 q g1 g2)⟩
theorem zr_throwW {cls text : String} {names : List String} {ik is ic : Nat} (h0 : zFix G cc own nL ret rm) (hnt : zNoTab G) (hcls : Bundle.fit cls = true) (hnames : ∀ n ∈ names, Bundle.fit n = true)
    (w1 : Cond.classLink own ik cls ∈ zTbl) (w2 : Cond.initialized cls ∈ zTbl) (hstr : (own, is, text) ∈ zStrs) (hexs : cls ∈ zExs) (hat : ∀ w ∈ (vx_atS own ic cls names).filter goodWord, w ∈ zTbl) (hbad : ∀ w ∈ (vx_atS own ic cls names).filter (fun w => !goodWord w), w = .castable cls cls ∨ ∃ y ∈ zDecls, w = .declares y) (hgood : ∀ w ∈ vx_atS own ic cls names, vx_ot w = true)
    (d0 : decode cc pc = .ok (.new ik, 3)) (d3 : decode cc (pc + 3) = .ok (.dup, 1)) (d4 : decode cc (pc + 4) = .ok (.ldc_w is, 3)) (d6 : decode cc (pc + 7) = .ok (.invokespecial ic, 3)) (d9 : decode cc (pc + 10) = .ok (.athrow, 1))
    (hRf : names.length + 3 < rm.frames) (hRl : (st.map fun v => v.category).sum + (13 * (names.length + 1) + 43) ≤ rm.locals) (hce : ce + 1 ≤ rm.cells) (hsl : sl + 6 ≤ rm.slots) (hX : P → zEndX G cls S.1 rm) : zV G nL S ce sl pc lv st P := by
  obtain ⟨p, l, e, R, s, m, args, below, meth, c, Q, D, z0⟩ := G
  obtain ⟨hx, hb, hml, hown, hts, hvm, hst, hlk, rfl, hret, -⟩ := h0
  intro hP H locs ls h1 h2 h3
  obtain ⟨Qc, XC, rfl, hQ⟩ := hX hP
  obtain ⟨sa, hsa⟩ := hvm.2.2.2.1 _ hstr
  have hatw : ∀ w ∈ vx_atS own ic cls names, w.before args s = true := by
    intro w hw
    cases hg : goodWord w with
    | true => exact hts _ (hat w (List.mem_filter.mpr ⟨hw, hg⟩))
    | false =>
      rcases hbad w (List.mem_filter.mpr ⟨hw, by rw [hg]; rfl⟩) with h9 | ⟨y, hy, h9⟩
      · subst h9
        exact va_Nw.use rfl (hvm.2.2.2.2.1 cls hexs)
      · subst h9
        exact va_Nw.use rfl (hvm.2.2.2.2.2.2 y hy)
  have hg2 : ∀ w ∈ Cond.classLink own ik cls :: Cond.initialized cls :: vx_atS own ic cls names, vx_ot w = true := by
    intro w hw
    rcases List.mem_cons.mp hw with rfl | hw
    · rfl
    · rcases List.mem_cons.mp hw with rfl | hw
      · rfl
      · exact hgood w hw
  refine vx_throwSW hx hb hnt.2 hown hcls hnames (hts _ w1) (hts _ w2) hsa hatw hg2 hst.1 hst.2 h2 (by rw [hml]; exact h3.1) d0 d3 d4 d6 d9 (fun x hx => (hnt.1 x hx).elim) hRf hRl hce hsl hlk (fun t hal hz hq => ?_) h2.2.2 hce hsl
  have hq2 : ∀ q : Nat, q < H.size → t.heap[q]? = H[q]? := hq
  refine hQ t t.heap.size ⟨⟨fun a x hx => ((h1.1.1 a x hx).kept (hq2 a ((h1.1.1 a x hx).lt))), rfl⟩, h1.2.1, Nat.le_trans h1.2.2 (by rw [← h1.1.2]; exact hz)⟩ ⟨Nat.le_trans h2.1 hz, fun q g1 g2 => (hq2 q (Nat.lt_of_lt_of_le g1 h2.1)).trans (h2.2.1 q g1 g2)⟩
def zsw {τ : Type} (x : Int32) : Nat → List (Option τ) → Option τ → Option τ
  | _, [], d => d
  | k, o :: r, d => if x.toInt = (k : Int) then o else zsw x (k + 1) r d
theorem zsw_in {τ : Type} (x : Int32) (od : Option τ) : ∀ (os : List (Option τ)) (k : Nat), (∃ (i : Nat) (o : Option τ), os[i]? = some o ∧ x.toInt = ((k + i : Nat) : Int) ∧ zsw x k os od = o) ∨ ((x.toInt < (k : Int) ∨ ((k + os.length : Nat) : Int) ≤ x.toInt) ∧ zsw x k os od = od)
  | [], k => Or.inr ⟨by have := Int.lt_or_le x.toInt (k : Int); simpa using this, rfl⟩
  | o :: r, k => by
    unfold zsw
    by_cases h : x.toInt = (k : Int)
    · rw [if_pos h]
      exact Or.inl ⟨0, o, rfl, by simpa using h, rfl⟩
    · rw [if_neg h]
      rcases zsw_in x od r (k + 1) with ⟨i, o9, h1, h2, h3⟩ | ⟨h1, h2⟩
      · exact Or.inl ⟨i + 1, o9, by simpa using h1, by rw [h2]; congr 1; omega, h3⟩
      · refine Or.inr ⟨?_, h2⟩
        simp only [List.length_cons]
        rcases h1 with h1 | h1
        · left; omega
        · right; omega
def zswT (G : ZG) (nL : Nat) (S : ZS) (ce sl : Nat) (lv : List (Nat × Value)) (st : List Value) : List Nat → List Prop → Prop
  | t :: r, p :: q => zV G nL S ce sl t lv st p ∧ zswT G nL S ce sl lv st r q
  | _, _ => True
theorem zsw_all {τ : Type} {C : Option τ → Prop} : ∀ {tg : List Nat} {os : List (Option τ)}, zswT G nL S ce sl lv st tg (os.map C) → ∀ (i : Nat) (o : Option τ) (t : Nat), os[i]? = some o → tg[i]? = some t → zV G nL S ce sl t lv st (C o)
  | [], os, _, i, o, t, _, h2 => by simp at h2
  | _ :: _, [], _, i, o, t, h1, _ => by simp at h1
  | t0 :: r, o0 :: q, h, 0, o, t, h1, h2 => by
    simp at h1 h2
    subst h1
    subst h2
    exact h.1
  | t0 :: r, o0 :: q, h, i + 1, o, t, h1, h2 => zsw_all (tg := r) (os := q) h.2 i o t (by simpa using h1) (by simpa using h2)
theorem zr_switch {τ : Type} (C : Option τ → Prop) (tg : List Nat) (td : Nat) {x : Int32} {os : List (Option τ)} {od : Option τ} {dflt hi : Int} {offs : Array Int} {len : Nat} (h0 : zFix G cc own nL ret rm) (d : decode cc pc = .ok (.tableswitch dflt 0 hi offs, len)) (hln : os.length = tg.length) (hhi : hi + 1 = (tg.length : Int) ∧ (pc : Int) + dflt = (td : Int)) (ho : ((List.range tg.length).all fun i => match offs[i]?, tg[i]? with | some off, some t => decide ((pc : Int) + off = (t : Int)) | _, _ => false) = true) (k : ∀ (i : Nat) (o : Option τ) (t : Nat), os[i]? = some o → tg[i]? = some t → zV G nL S ce sl t lv st (C o)) (kd : zV G nL S ce sl td lv st (C od)) : zV G nL S ce sl pc lv (.int x :: st) (C (zsw x 0 os od)) := by
  obtain ⟨p, l, e, R, s, m, args, below, meth, c, Q, D, z0⟩ := G
  obtain ⟨hx, hb, -⟩ := h0
  intro hP H locs ls h1 h2 h3
  rcases zsw_in x od os 0 with ⟨i, o, a1, a2, a3⟩ | ⟨a1, a2⟩
  · rw [a3] at hP
    have hi2 : i < tg.length := by rw [← hln]; exact (List.getElem?_eq_some_iff.mp a1).1
    have hti : tg[i]? = some tg[i] := List.getElem?_eq_getElem hi2
    have h9 := List.all_eq_true.mp ho i (List.mem_range.mpr hi2)
    rw [hti] at h9
    cases hof : offs[i]? with
    | none => rw [hof] at h9; cases h9
    | some off =>
      rw [hof] at h9
      have h10 : (pc : Int) + off = (tg[i] : Int) := of_decide_eq_true h9
      have hx0 : x.toInt = (i : Int) := by rw [a2]; simp
      have hhi1 := hhi.1
      exact lv_tableIn hx hb d (by rw [hx0]; omega) (by rw [hx0]; omega) (by rw [hx0]; simpa using hof) h10 (k i o _ a1 hti hP H locs ls h1 h2 h3)
  · rw [a2] at hP
    have hhi1 := hhi.1
    exact lv_tableOut hx hb d (by rw [hln] at a1; omega) hhi.2 (kd hP H locs ls h1 h2 h3)
theorem zcl_of {α : Type} {a ci : Nat} {o : Option α} {x : α} (h : zcl S a ci o = some x) : o = some x := by
  unfold zcl at h
  split at h
  · split at h
    · exact h
    · cases h
  · cases h
theorem zcl_ex {α : Type} {a ci : Nat} {o : Option α} {x : α} (h : zcl S a ci o = some x) : ∃ fs, S.1 a = some (.inr (ci, fs)) := by
  unfold zcl at h
  split at h
  · next c fs hs =>
    split at h
    · next hc => subst hc; exact ⟨fs, hs⟩
    · cases h
  · cases h
theorem zsub_of {l l' : List (Nat × Value)} (ks : List Nat) (h : ks.filterMap (fun i => l[i]?) = l') : ∀ q ∈ l', q ∈ l := by
  intro q hq
  rw [← h] at hq
  obtain ⟨i, -, hi⟩ := List.mem_filterMap.mp hq
  exact List.mem_of_getElem? hi
theorem zr_ex {σ ρ : Type} {C1 : Option (σ ⊕ ρ) → Prop} {C : Option ρ → Prop} {o : Option ρ} (hX : ∀ o, C1 (zex o) → C o) (k : zV G nL S ce sl pc lv st (C o)) : zV G nL S ce sl pc lv st (C1 (zex o)) := zv_imp (hX o) k
theorem zr_loop {σ ρ : Type} {C : Option ρ → Prop} (hC : ¬ C none) (body : σ → Option (σ ⊕ ρ)) (lvf : σ → List (Nat × Value)) (Sf : σ → ZS) (N : Nat) (x : σ) (hbody : ∀ (C1 : Option (σ ⊕ ρ) → Prop), ¬ C1 none → (∀ o, C1 (zex o) → C o) → (∀ y, zV G nL (Sf y) ce sl pc (lvf y) [] (C1 (some (.inl y)))) → ∀ y, zV G nL (Sf y) ce sl pc (lvf y) [] (C1 (body y))) : zV G nL (Sf x) ce sl pc (lvf x) [] (C (ziter body N x)) := by
  induction N generalizing x with
  | zero => exact zv_imp (fun h => hC h) zv_false
  | succ N ih =>
    have h1 := hbody (fun e => C (zcont body N e)) (fun h => hC h) (fun o h => by rw [zcont_ex] at h; exact h) (fun y => ih y) x
    exact zv_imp (fun h => h) h1
end
-- contracts out of walks
theorem zMet_of {l : Launch} {D : ZD} {z0 : Nat} {y : MethodName} {cc : ByteArray} {nL : Nat} {ret : Option FieldType} {rm : Room} {av : List Value} {S S' : ZS} {res : Option Value} {P : Prop} (hy : plainName y.cls = true) (hn : (lg_sl av).length ≤ nL) (w : ∀ G : ZG, zFix G cc y.cls nL ret rm → (y.name = "<init>" → zIni G) → zEnd G res S' rm → zV G nL S 0 0 0 (lv_args 0 av) [] P) (hP : P) : zMet l D z0 y cc nL ret rm av S res S' := by
  refine Met.ofW (cc := cc) (maxL := nL) (ret := ret) hy rfl ?_
  intro p e s m args below meth c s₁ B hml hv
  obtain ⟨rfl, hvm, hhp, hst⟩ := hv
  have hts := atoms_spec (ws := zws y cc nL ret) B.pre
  have hown : s.vm.findClass y.cls = some m.cls := findClass_of_methodNamed B.named
  have hl := lv_entry av (n := nL) hn
  rw [lg_entry_eq]
  exact w (p, l, e, rm, s, m, av.toArray, below, meth, c, MQ below (zQc D z0 res S') av.toArray s rm.cells rm.slots (zA z0), D, z0) ⟨B.exec, B.bytes, hml, hown, fun w hw => hts w (List.mem_cons_of_mem _ hw), hvm, hst, B.notSynchronized, rfl, B.returns, by rw [hhp.1.2]; exact hhp.2.2⟩ (fun h => (name_of_methodNamed B.named B.method).1.trans h) ⟨_, rfl, fun t h1 h2 => ⟨rfl, h1, h2⟩⟩ hP s.heap [] _ hhp va_S.rf hl
theorem zMetT_of {l : Launch} {D : ZD} {z0 : Nat} {y : MethodName} {cc : ByteArray} {nL : Nat} {ret : Option FieldType} {rm : Room} {av : List Value} {S : ZS} {R9 : (Option Value × ZS) ⊕ ZX} {P : Prop} (hlt : l.stackTraces = false) (hy : plainName y.cls = true) (hn : (lg_sl av).length ≤ nL) (w : ∀ G : ZG, zFix G cc y.cls nL ret rm → zNoTab G → (∀ v S', R9 = .inl (v, S') → zEndT G v S' rm) → (∀ E h, R9 = .inr (E, h) → zEndX G E h rm) → zV G nL S 0 0 0 (lv_args 0 av) [] P) (hP : P) : zMetT l D z0 y cc nL ret rm av S R9 := by
  refine vx_ofW (cc := cc) (maxL := nL) (ret := ret) hy rfl ?_
  intro p e s m args below meth c s₁ B hml htab hv
  obtain ⟨rfl, hvm, hhp, hst⟩ := hv
  have hts := atoms_spec (ws := zws y cc nL ret) B.pre
  have hown : s.vm.findClass y.cls = some m.cls := findClass_of_methodNamed B.named
  have hl := lv_entry av (n := nL) hn
  rw [lg_entry_eq]
  exact w (p, l, e, rm, s, m, av.toArray, below, meth, c, vx_MQ below (fun a st oc t => ∃ v S', R9 = .inl (v, S') ∧ zQc D z0 v S' a st oc t) (fun E st t => ∃ E0 h, R9 = .inr (E0, h) ∧ zXc D z0 E0 h E st t) av.toArray s rm.cells rm.slots (zA z0), D, z0) ⟨B.exec, B.bytes, hml, hown, fun w hw => hts w (List.mem_cons_of_mem _ hw), hvm, hst, B.notSynchronized, rfl, B.returns, by rw [hhp.1.2]; exact hhp.2.2⟩ ⟨htab, hlt⟩ (fun v S' h => ⟨_, _, rfl, fun t h1 h2 => ⟨v, S', h, rfl, h1, h2⟩⟩) (fun E h hR => ⟨_, _, rfl, fun t n h1 h2 => ⟨E, h, hR, rfl, ⟨n, h1⟩, h2⟩⟩) hP s.heap [] _ hhp va_S.rf hl
end
section
theorem zs_1 : Cond.selects yX5_addCube.cls yX5_addCube yX5_addCube ∈ zTbl := zin_s 1 (by decide +kernel) rfl
theorem zs_2 : Cond.selects yX5_needCube.cls yX5_needCube yX5_needCube ∈ zTbl := zin_s 2 (by decide +kernel) rfl
theorem zs_3 : Cond.selects yX5_needWay.cls yX5_needWay yX5_needWay ∈ zTbl := zin_s 3 (by decide +kernel) rfl
theorem zs_4 : Cond.selects yX5_needCode.cls yX5_needCode yX5_needCode ∈ zTbl := zin_s 4 (by decide +kernel) rfl
theorem zs_5 : Cond.selects yX4_addVector.cls yX4_addVector yX4_addVector ∈ zTbl := zin_s 5 (by decide +kernel) rfl
theorem zs_6 : Cond.selects yX4_enterCode.cls yX4_enterCode yX4_enterCode ∈ zTbl := zin_s 6 (by decide +kernel) rfl
theorem zs_7 : Cond.selects yX4_takeOutZeros.cls yX4_takeOutZeros yX4_takeOutZeros ∈ zTbl := zin_s 7 (by decide +kernel) rfl
theorem zs_8 : Cond.selects yX4_hasZeros.cls yX4_hasZeros yX4_hasZeros ∈ zTbl := zin_s 8 (by decide +kernel) rfl
theorem zs_9 : Cond.selects yX4_takeOut.cls yX4_takeOut yX4_takeOut ∈ zTbl := zin_s 9 (by decide +kernel) rfl
theorem zs_10 : Cond.selects yX4_joinProducts.cls yX4_joinProducts yX4_joinProducts ∈ zTbl := zin_s 10 (by decide +kernel) rfl
theorem zs_11 : Cond.selects yX4_sideToJoin.cls yX4_sideToJoin yX4_sideToJoin ∈ zTbl := zin_s 11 (by decide +kernel) rfl
theorem zs_12 : Cond.selects yX4_isReducible.cls yX4_isReducible yX4_isReducible ∈ zTbl := zin_s 12 (by decide +kernel) rfl
theorem zs_13 : Cond.selects yX1_take.cls yX1_take yX1_take ∈ zTbl := zin_s 13 (by decide +kernel) rfl
theorem zs_14 : Cond.selects yX1_enter.cls yX1_enter yX1_enter ∈ zTbl := zin_s 14 (by decide +kernel) rfl
theorem zs_15 : Cond.selects yX1_rowWithNumber.cls yX1_rowWithNumber yX1_rowWithNumber ∈ zTbl := zin_s 15 (by decide +kernel) rfl
theorem zs_16 : Cond.selects yX1_number.cls yX1_number yX1_number ∈ zTbl := zin_s 16 (by decide +kernel) rfl
theorem zs_17 : Cond.selects yX1_swapRows.cls yX1_swapRows yX1_swapRows ∈ zTbl := zin_s 17 (by decide +kernel) rfl
theorem zs_18 : Cond.selects yX1_clearBelow.cls yX1_clearBelow yX1_clearBelow ∈ zTbl := zin_s 18 (by decide +kernel) rfl
theorem zs_19 : Cond.selects yX5_greatestRank.cls yX5_greatestRank yX5_greatestRank ∈ zTbl := zin_s 19 (by decide +kernel) rfl
theorem zs_20 : Cond.selects yX5_needSmall.cls yX5_needSmall yX5_needSmall ∈ zTbl := zin_s 20 (by decide +kernel) rfl
theorem zs_21 : Cond.selects yX2_gatherSingles.cls yX2_gatherSingles yX2_gatherSingles ∈ zTbl := zin_s 21 (by decide +kernel) rfl
theorem zs_22 : Cond.selects yX2_addSingle.cls yX2_addSingle yX2_addSingle ∈ zTbl := zin_s 22 (by decide +kernel) rfl
theorem zs_23 : Cond.selects yX2_isMade.cls yX2_isMade yX2_isMade ∈ zTbl := zin_s 23 (by decide +kernel) rfl
theorem zs_24 : Cond.selects yX2_isSingle.cls yX2_isSingle yX2_isSingle ∈ zTbl := zin_s 24 (by decide +kernel) rfl
theorem zs_25 : Cond.selects yX4_addEntries.cls yX4_addEntries yX4_addEntries ∈ zTbl := zin_s 25 (by decide +kernel) rfl
theorem zs_26 : Cond.selects yX4_number.cls yX4_number yX4_number ∈ zTbl := zin_s 26 (by decide +kernel) rfl
theorem zs_27 : Cond.selects yX5_countAdditions.cls yX5_countAdditions yX5_countAdditions ∈ zTbl := zin_s 27 (by decide +kernel) rfl
theorem zs_28 : Cond.selects yX4_filledPlaces.cls yX4_filledPlaces yX4_filledPlaces ∈ zTbl := zin_s 28 (by decide +kernel) rfl
theorem zs_29 : Cond.selects yX4_filledProducts.cls yX4_filledProducts yX4_filledProducts ∈ zTbl := zin_s 29 (by decide +kernel) rfl
theorem zs_30 : Cond.selects yX3_shareBestPair.cls yX3_shareBestPair yX3_shareBestPair ∈ zTbl := zin_s 30 (by decide +kernel) rfl
theorem zs_31 : Cond.selects yX3_replace.cls yX3_replace yX3_replace ∈ zTbl := zin_s 31 (by decide +kernel) rfl
theorem zs_32 : Cond.selects yX4_growthAt.cls yX4_growthAt yX4_growthAt ∈ zTbl := zin_s 32 (by decide +kernel) rfl
theorem zs_33 : Cond.selects yX5_needFactors.cls yX5_needFactors yX5_needFactors ∈ zTbl := zin_s 33 (by decide +kernel) rfl
theorem zs_34 : Cond.selects yX6_goesWell.cls yX6_goesWell yX6_goesWell ∈ zTbl := zin_s 34 (by decide +kernel) rfl
theorem zs_35 : Cond.selects yX6_canMake.cls yX6_canMake yX6_canMake ∈ zTbl := zin_s 35 (by decide +kernel) rfl
theorem zs_36 : Cond.selects yX6_make.cls yX6_make yX6_make ∈ zTbl := zin_s 36 (by decide +kernel) rfl
theorem zs_37 : Cond.selects yX6_isPlace.cls yX6_isPlace yX6_isPlace ∈ zTbl := zin_s 37 (by decide +kernel) rfl
theorem zs_38 : Cond.selects yX6_isCube.cls yX6_isCube yX6_isCube ∈ zTbl := zin_s 38 (by decide +kernel) rfl
theorem zs_39 : Cond.selects yX6_isWay.cls yX6_isWay yX6_isWay ∈ zTbl := zin_s 39 (by decide +kernel) rfl
theorem zs_40 : Cond.selects yX6_isCode.cls yX6_isCode yX6_isCode ∈ zTbl := zin_s 40 (by decide +kernel) rfl
theorem zs_41 : Cond.selects yX6_codes.cls yX6_codes yX6_codes ∈ zTbl := zin_s 41 (by decide +kernel) rfl
theorem zs_42 : Cond.selects yX6_decode.cls yX6_decode yX6_decode ∈ zTbl := zin_s 42 (by decide +kernel) rfl
theorem zs_43 : Cond.selects yX6_isProduct.cls yX6_isProduct yX6_isProduct ∈ zTbl := zin_s 43 (by decide +kernel) rfl
theorem zs_44 : Cond.selects yX6_areAlike.cls yX6_areAlike yX6_areAlike ∈ zTbl := zin_s 44 (by decide +kernel) rfl
theorem zs_45 : Cond.selects yX6_turn.cls yX6_turn yX6_turn ∈ zTbl := zin_s 45 (by decide +kernel) rfl
theorem zs_46 : Cond.selects yX6_add.cls yX6_add yX6_add ∈ zTbl := zin_s 46 (by decide +kernel) rfl
theorem zs_47 : Cond.selects yX6_reduceAll.cls yX6_reduceAll yX6_reduceAll ∈ zTbl := zin_s 47 (by decide +kernel) rfl
theorem zs_48 : Cond.selects yX6_reducesOnce.cls yX6_reducesOnce yX6_reducesOnce ∈ zTbl := zin_s 48 (by decide +kernel) rfl
theorem zs_49 : Cond.selects yX6_isNothing.cls yX6_isNothing yX6_isNothing ∈ zTbl := zin_s 49 (by decide +kernel) rfl
theorem zs_50 : Cond.selects yX6_takeOut.cls yX6_takeOut yX6_takeOut ∈ zTbl := zin_s 50 (by decide +kernel) rfl
theorem zs_51 : Cond.selects yX6_third.cls yX6_third yX6_third ∈ zTbl := zin_s 51 (by decide +kernel) rfl
theorem zs_52 : Cond.selects yX6_flat.cls yX6_flat yX6_flat ∈ zTbl := zin_s 52 (by decide +kernel) rfl
theorem zs_53 : Cond.selects yX6_rank.cls yX6_rank yX6_rank ∈ zTbl := zin_s 53 (by decide +kernel) rfl
theorem zs_54 : Cond.selects yX6_inverse.cls yX6_inverse yX6_inverse ∈ zTbl := zin_s 54 (by decide +kernel) rfl
theorem zs_55 : Cond.selects yX6_leastOf.cls yX6_leastOf yX6_leastOf ∈ zTbl := zin_s 55 (by decide +kernel) rfl
theorem zs_56 : Cond.selects yX6_fewest.cls yX6_fewest yX6_fewest ∈ zTbl := zin_s 56 (by decide +kernel) rfl
theorem zs_57 : Cond.selects yX6_single.cls yX6_single yX6_single ∈ zTbl := zin_s 57 (by decide +kernel) rfl
theorem zs_58 : Cond.selects yX6_learn.cls yX6_learn yX6_learn ∈ zTbl := zin_s 58 (by decide +kernel) rfl
theorem zs_59 : Cond.selects yX6_wrong.cls yX6_wrong yX6_wrong ∈ zTbl := zin_s 59 (by decide +kernel) rfl
theorem zs_60 : Cond.selects yX6_made.cls yX6_made yX6_made ∈ zTbl := zin_s 60 (by decide +kernel) rfl
theorem zs_61 : Cond.selects yX6_growth.cls yX6_growth yX6_growth ∈ zTbl := zin_s 61 (by decide +kernel) rfl
theorem zs_62 : Cond.selects yX6_numbers.cls yX6_numbers yX6_numbers ∈ zTbl := zin_s 62 (by decide +kernel) rfl
theorem zs_63 : Cond.selects yX6_additions.cls yX6_additions yX6_additions ∈ zTbl := zin_s 63 (by decide +kernel) rfl
theorem zs_64 : Cond.selects yX6_laySets.cls yX6_laySets yX6_laySets ∈ zTbl := zin_s 64 (by decide +kernel) rfl
theorem zs_65 : Cond.selects yX6_shares.cls yX6_shares yX6_shares ∈ zTbl := zin_s 65 (by decide +kernel) rfl
theorem zs_66 : Cond.selects yX6_common.cls yX6_common yX6_common ∈ zTbl := zin_s 66 (by decide +kernel) rfl
theorem zs_67 : Cond.selects yX6_additionsOf.cls yX6_additionsOf yX6_additionsOf ∈ zTbl := zin_s 67 (by decide +kernel) rfl
theorem zs_68 : Cond.selects yX6_canAsk.cls yX6_canAsk yX6_canAsk ∈ zTbl := zin_s 68 (by decide +kernel) rfl
theorem zs_69 : Cond.selects yX6_times.cls yX6_times yX6_times ∈ zTbl := zin_s 69 (by decide +kernel) rfl
theorem zs_70 : Cond.selects yX6_digit.cls yX6_digit yX6_digit ∈ zTbl := zin_s 70 (by decide +kernel) rfl
theorem zw_1 : Cond.initialized RX5 ∈ zTbl := zin_t 1 (by decide +kernel) rfl
theorem zw_2 : Cond.initialized RX1 ∈ zTbl := zin_t 2 (by decide +kernel) rfl
theorem zw_3 : Cond.initialized RX2 ∈ zTbl := zin_t 3 (by decide +kernel) rfl
theorem zw_4 : Cond.initialized RX3 ∈ zTbl := zin_t 4 (by decide +kernel) rfl
theorem zw_5 : Cond.initialized RX6 ∈ zTbl := zin_t 5 (by decide +kernel) rfl
theorem zw_9 : Cond.initialized "java/lang/IllegalArgumentException" ∈ zTbl := zin_t 9 (by decide +kernel) rfl
theorem zw_10 : Cond.initialized "java/lang/IllegalStateException" ∈ zTbl := zin_t 10 (by decide +kernel) rfl
theorem zw_11 : Cond.initialized RX0 ∈ zTbl := zin_t 11 (by decide +kernel) rfl
theorem zw_12 : Cond.initialized "java/lang/IndexOutOfBoundsException" ∈ zTbl := zin_t 12 (by decide +kernel) rfl
theorem zw_13 : Cond.initialized RX4 ∈ zTbl := zin_t 13 (by decide +kernel) rfl
theorem zw_14 : Cond.initialized RJ9 ∈ zTbl := zin_t 14 (by decide +kernel) rfl
theorem zw_15 : Cond.initialized RJ13 ∈ zTbl := zin_t 15 (by decide +kernel) rfl
theorem zw_21 : Cond.methodLink RX5 3 Lib.objectInit ∈ zTbl := zin_t 21 (by decide +kernel) rfl
theorem zw_22 : Cond.instanceMethod Lib.objectInit ∈ zTbl := zin_t 22 (by decide +kernel) rfl
theorem zw_23 : Cond.code Lib.objectInit ⟨#[0xb1]⟩ 1 none ∈ zTbl := zin_t 23 (by decide +kernel) rfl
theorem zw_24 : Cond.classLink RX5 9 RX0 ∈ zTbl := zin_t 24 (by decide +kernel) rfl
theorem zw_26 : Cond.classLink RX5 15 RX4 ∈ zTbl := zin_t 26 (by decide +kernel) rfl
theorem zw_28 : Cond.classLink RX5 21 RX1 ∈ zTbl := zin_t 28 (by decide +kernel) rfl
theorem zw_29 : Cond.instantiable RX1 3 ∈ zTbl := zin_t 29 (by decide +kernel) rfl
theorem zw_31 : Cond.instanceMethod yX1_init ∈ zTbl := zin_t 31 (by decide +kernel) rfl
theorem zw_32 : Cond.code yX1_init cX1_init 1 none ∈ zTbl := zin_t 32 (by decide +kernel) rfl
theorem zw_33 : Cond.methodLink RX1 3 Lib.objectInit ∈ zTbl := zin_t 33 (by decide +kernel) rfl
theorem zw_34 : Cond.fieldLink RX1 9 "Bilinearium$Flat" "numbers" "[I" ∈ zTbl := zin_t 34 (by decide +kernel) rfl
theorem zw_35 : Cond.fieldLink RX1 36 "Bilinearium$Flat" "rows" "I" ∈ zTbl := zin_t 35 (by decide +kernel) rfl
theorem zw_36 : Cond.fieldLink RX1 40 "Bilinearium$Flat" "prime" "I" ∈ zTbl := zin_t 36 (by decide +kernel) rfl
theorem zw_44 : Cond.arrayClass .int ∈ zTbl := zin_t 44 (by decide +kernel) rfl
theorem zw_45 : Cond.classLink RX5 28 RX2 ∈ zTbl := zin_t 45 (by decide +kernel) rfl
theorem zw_46 : Cond.instantiable RX2 3 ∈ zTbl := zin_t 46 (by decide +kernel) rfl
theorem zw_48 : Cond.instanceMethod yX2_init ∈ zTbl := zin_t 48 (by decide +kernel) rfl
theorem zw_49 : Cond.code yX2_init cX2_init 1 none ∈ zTbl := zin_t 49 (by decide +kernel) rfl
theorem zw_50 : Cond.methodLink RX2 5 Lib.objectInit ∈ zTbl := zin_t 50 (by decide +kernel) rfl
theorem zw_51 : Cond.fieldLink RX2 11 "Bilinearium$Search" "singles" "[I" ∈ zTbl := zin_t 51 (by decide +kernel) rfl
theorem zw_52 : Cond.fieldLink RX2 15 "Bilinearium$Search" "marks" "[J" ∈ zTbl := zin_t 52 (by decide +kernel) rfl
theorem zw_53 : Cond.fieldLink RX2 35 "Bilinearium$Search" "count" "I" ∈ zTbl := zin_t 53 (by decide +kernel) rfl
theorem zw_61 : Cond.arrayClass .long ∈ zTbl := zin_t 61 (by decide +kernel) rfl
theorem zw_62 : Cond.classLink RX5 35 RX3 ∈ zTbl := zin_t 62 (by decide +kernel) rfl
theorem zw_63 : Cond.instantiable RX3 2 ∈ zTbl := zin_t 63 (by decide +kernel) rfl
theorem zw_65 : Cond.instanceMethod yX3_init ∈ zTbl := zin_t 65 (by decide +kernel) rfl
theorem zw_66 : Cond.code yX3_init cX3_init 1 none ∈ zTbl := zin_t 66 (by decide +kernel) rfl
theorem zw_67 : Cond.methodLink RX3 3 Lib.objectInit ∈ zTbl := zin_t 67 (by decide +kernel) rfl
theorem zw_68 : Cond.fieldLink RX3 11 "Bilinearium$Sums" "holders" "[J" ∈ zTbl := zin_t 68 (by decide +kernel) rfl
theorem zw_69 : Cond.fieldLink RX3 15 "Bilinearium$Sums" "count" "I" ∈ zTbl := zin_t 69 (by decide +kernel) rfl
theorem zw_75 : Cond.fieldLink RX5 11 "Bilinearium" "cubes" "[LBilinearium$Cube;" ∈ zTbl := zin_t 75 (by decide +kernel) rfl
theorem zw_76 : Cond.fieldLink RX5 17 "Bilinearium" "ways" "[LBilinearium$Way;" ∈ zTbl := zin_t 76 (by decide +kernel) rfl
theorem zw_77 : Cond.fieldLink RX5 24 "Bilinearium" "flat" "LBilinearium$Flat;" ∈ zTbl := zin_t 77 (by decide +kernel) rfl
theorem zw_78 : Cond.fieldLink RX5 31 "Bilinearium" "search" "LBilinearium$Search;" ∈ zTbl := zin_t 78 (by decide +kernel) rfl
theorem zw_79 : Cond.fieldLink RX5 38 "Bilinearium" "sums" "LBilinearium$Sums;" ∈ zTbl := zin_t 79 (by decide +kernel) rfl
theorem zw_80 : Cond.fieldLink RX5 42 "Bilinearium" "entries" "[I" ∈ zTbl := zin_t 80 (by decide +kernel) rfl
theorem zw_81 : Cond.fieldLink RX5 46 "Bilinearium" "prime" "I" ∈ zTbl := zin_t 81 (by decide +kernel) rfl
theorem zw_82 : Cond.fieldLink RX5 50 "Bilinearium" "cubeCount" "I" ∈ zTbl := zin_t 82 (by decide +kernel) rfl
theorem zw_83 : Cond.fieldLink RX5 53 "Bilinearium" "wayCount" "I" ∈ zTbl := zin_t 83 (by decide +kernel) rfl
theorem zw_112 : Cond.classLink RX5 56 "java/lang/IllegalArgumentException" ∈ zTbl := zin_t 112 (by decide +kernel) rfl
theorem zw_180 : Cond.classLink RX5 63 "java/lang/IllegalStateException" ∈ zTbl := zin_t 180 (by decide +kernel) rfl
theorem zw_203 : Cond.methodLink RX5 68 yX5_addCube ∈ zTbl := zin_t 203 (by decide +kernel) rfl
theorem zw_205 : Cond.instanceMethod yX5_addCube ∈ zTbl := zin_t 205 (by decide +kernel) rfl
theorem zw_206 : Cond.code yX5_addCube cX5_addCube 5 (some (.object "Bilinearium$Cube")) ∈ zTbl := zin_t 206 (by decide +kernel) rfl
theorem zw_207 : Cond.methodLink RX5 72 yX5_needSize ∈ zTbl := zin_t 207 (by decide +kernel) rfl
theorem zw_208 : Cond.static yX5_needSize ∈ zTbl := zin_t 208 (by decide +kernel) rfl
theorem zw_209 : Cond.code yX5_needSize cX5_needSize 1 none ∈ zTbl := zin_t 209 (by decide +kernel) rfl
theorem zw_212 : Cond.instantiable RX0 5 ∈ zTbl := zin_t 212 (by decide +kernel) rfl
theorem zw_213 : Cond.methodLink RX5 288 yX0_init ∈ zTbl := zin_t 213 (by decide +kernel) rfl
theorem zw_214 : Cond.instanceMethod yX0_init ∈ zTbl := zin_t 214 (by decide +kernel) rfl
theorem zw_215 : Cond.code yX0_init cX0_init 4 none ∈ zTbl := zin_t 215 (by decide +kernel) rfl
theorem zw_216 : Cond.methodLink RX0 3 Lib.objectInit ∈ zTbl := zin_t 216 (by decide +kernel) rfl
theorem zw_217 : Cond.fieldLink RX0 9 "Bilinearium$Cube" "first" "I" ∈ zTbl := zin_t 217 (by decide +kernel) rfl
theorem zw_218 : Cond.fieldLink RX2 51 "Bilinearium$Cube" "first" "I" ∈ zTbl := zin_t 218 (by decide +kernel) rfl
theorem zw_219 : Cond.fieldLink RX4 51 "Bilinearium$Cube" "first" "I" ∈ zTbl := zin_t 219 (by decide +kernel) rfl
theorem zw_220 : Cond.fieldLink RX5 126 "Bilinearium$Cube" "first" "I" ∈ zTbl := zin_t 220 (by decide +kernel) rfl
theorem zw_221 : Cond.fieldLink RX0 15 "Bilinearium$Cube" "second" "I" ∈ zTbl := zin_t 221 (by decide +kernel) rfl
theorem zw_222 : Cond.fieldLink RX2 60 "Bilinearium$Cube" "second" "I" ∈ zTbl := zin_t 222 (by decide +kernel) rfl
theorem zw_223 : Cond.fieldLink RX4 54 "Bilinearium$Cube" "second" "I" ∈ zTbl := zin_t 223 (by decide +kernel) rfl
theorem zw_224 : Cond.fieldLink RX5 129 "Bilinearium$Cube" "second" "I" ∈ zTbl := zin_t 224 (by decide +kernel) rfl
theorem zw_225 : Cond.fieldLink RX0 18 "Bilinearium$Cube" "third" "I" ∈ zTbl := zin_t 225 (by decide +kernel) rfl
theorem zw_226 : Cond.fieldLink RX2 63 "Bilinearium$Cube" "third" "I" ∈ zTbl := zin_t 226 (by decide +kernel) rfl
theorem zw_227 : Cond.fieldLink RX4 57 "Bilinearium$Cube" "third" "I" ∈ zTbl := zin_t 227 (by decide +kernel) rfl
theorem zw_228 : Cond.fieldLink RX5 132 "Bilinearium$Cube" "third" "I" ∈ zTbl := zin_t 228 (by decide +kernel) rfl
theorem zw_229 : Cond.fieldLink RX0 21 "Bilinearium$Cube" "numbers" "[I" ∈ zTbl := zin_t 229 (by decide +kernel) rfl
theorem zw_230 : Cond.fieldLink RX4 125 "Bilinearium$Cube" "numbers" "[I" ∈ zTbl := zin_t 230 (by decide +kernel) rfl
theorem zw_231 : Cond.fieldLink RX0 25 "Bilinearium$Cube" "square" "I" ∈ zTbl := zin_t 231 (by decide +kernel) rfl
theorem zw_232 : Cond.fieldLink RX5 80 "Bilinearium$Cube" "square" "I" ∈ zTbl := zin_t 232 (by decide +kernel) rfl
theorem zw_251 : Cond.methodLink RX5 76 yX0_enter ∈ zTbl := zin_t 251 (by decide +kernel) rfl
theorem zw_252 : Cond.instanceMethod yX0_enter ∈ zTbl := zin_t 252 (by decide +kernel) rfl
theorem zw_253 : Cond.selects yX0_enter.cls yX0_enter yX0_enter ∈ zTbl := zin_t 253 (by decide +kernel) rfl
theorem zw_254 : Cond.code yX0_enter cX0_enter 5 none ∈ zTbl := zin_t 254 (by decide +kernel) rfl
theorem zw_255 : Cond.methodLink RX0 39 yX0_indexOf ∈ zTbl := zin_t 255 (by decide +kernel) rfl
theorem zw_256 : Cond.static yX0_indexOf ∈ zTbl := zin_t 256 (by decide +kernel) rfl
theorem zw_257 : Cond.code yX0_indexOf cX0_indexOf 3 (some .int) ∈ zTbl := zin_t 257 (by decide +kernel) rfl
theorem zw_259 : Cond.static yX5_put ∈ zTbl := zin_t 259 (by decide +kernel) rfl
theorem zw_260 : Cond.code yX5_put cX5_put 3 none ∈ zTbl := zin_t 260 (by decide +kernel) rfl
theorem zw_275 : Cond.methodLink RX5 83 yX5_remainder ∈ zTbl := zin_t 275 (by decide +kernel) rfl
theorem zw_276 : Cond.static yX5_remainder ∈ zTbl := zin_t 276 (by decide +kernel) rfl
theorem zw_277 : Cond.code yX5_remainder cX5_remainder 2 (some .int) ∈ zTbl := zin_t 277 (by decide +kernel) rfl
theorem zw_286 : Cond.methodLink RX5 87 yX5_needCube ∈ zTbl := zin_t 286 (by decide +kernel) rfl
theorem zw_288 : Cond.instanceMethod yX5_needCube ∈ zTbl := zin_t 288 (by decide +kernel) rfl
theorem zw_289 : Cond.code yX5_needCube cX5_needCube 3 (some (.object "Bilinearium$Cube")) ∈ zTbl := zin_t 289 (by decide +kernel) rfl
theorem zw_290 : Cond.classLink RX5 254 "java/lang/IndexOutOfBoundsException" ∈ zTbl := zin_t 290 (by decide +kernel) rfl
theorem zw_306 : Cond.methodLink RX5 91 yX5_needPlace ∈ zTbl := zin_t 306 (by decide +kernel) rfl
theorem zw_307 : Cond.static yX5_needPlace ∈ zTbl := zin_t 307 (by decide +kernel) rfl
theorem zw_308 : Cond.code yX5_needPlace cX5_needPlace 4 none ∈ zTbl := zin_t 308 (by decide +kernel) rfl
theorem zw_309 : Cond.methodLink RX5 261 yX5_isBelow ∈ zTbl := zin_t 309 (by decide +kernel) rfl
theorem zw_310 : Cond.static yX5_isBelow ∈ zTbl := zin_t 310 (by decide +kernel) rfl
theorem zw_311 : Cond.code yX5_isBelow cX5_isBelow 2 (some .boolean) ∈ zTbl := zin_t 311 (by decide +kernel) rfl
theorem zw_314 : Cond.methodLink RX5 97 yX0_numberAt ∈ zTbl := zin_t 314 (by decide +kernel) rfl
theorem zw_315 : Cond.instanceMethod yX0_numberAt ∈ zTbl := zin_t 315 (by decide +kernel) rfl
theorem zw_316 : Cond.selects yX0_numberAt.cls yX0_numberAt yX0_numberAt ∈ zTbl := zin_t 316 (by decide +kernel) rfl
theorem zw_317 : Cond.code yX0_numberAt cX0_numberAt 4 (some .int) ∈ zTbl := zin_t 317 (by decide +kernel) rfl
theorem zw_319 : Cond.static yX5_get ∈ zTbl := zin_t 319 (by decide +kernel) rfl
theorem zw_320 : Cond.code yX5_get cX5_get 2 (some .int) ∈ zTbl := zin_t 320 (by decide +kernel) rfl
theorem zw_328 : Cond.methodLink RX5 101 yX5_needSide ∈ zTbl := zin_t 328 (by decide +kernel) rfl
theorem zw_329 : Cond.static yX5_needSide ∈ zTbl := zin_t 329 (by decide +kernel) rfl
theorem zw_330 : Cond.code yX5_needSide cX5_needSide 1 none ∈ zTbl := zin_t 330 (by decide +kernel) rfl
theorem zw_332 : Cond.methodLink RX5 104 yX5_needSlice ∈ zTbl := zin_t 332 (by decide +kernel) rfl
theorem zw_333 : Cond.static yX5_needSlice ∈ zTbl := zin_t 333 (by decide +kernel) rfl
theorem zw_334 : Cond.code yX5_needSlice cX5_needSlice 3 none ∈ zTbl := zin_t 334 (by decide +kernel) rfl
theorem zw_335 : Cond.methodLink RX5 269 yX0_sizeOf ∈ zTbl := zin_t 335 (by decide +kernel) rfl
theorem zw_336 : Cond.instanceMethod yX0_sizeOf ∈ zTbl := zin_t 336 (by decide +kernel) rfl
theorem zw_337 : Cond.selects yX0_sizeOf.cls yX0_sizeOf yX0_sizeOf ∈ zTbl := zin_t 337 (by decide +kernel) rfl
theorem zw_338 : Cond.code yX0_sizeOf cX0_sizeOf 2 (some .int) ∈ zTbl := zin_t 338 (by decide +kernel) rfl
theorem zw_342 : Cond.methodLink RX5 112 yX0_addSlice ∈ zTbl := zin_t 342 (by decide +kernel) rfl
theorem zw_343 : Cond.instanceMethod yX0_addSlice ∈ zTbl := zin_t 343 (by decide +kernel) rfl
theorem zw_344 : Cond.selects yX0_addSlice.cls yX0_addSlice yX0_addSlice ∈ zTbl := zin_t 344 (by decide +kernel) rfl
theorem zw_345 : Cond.code yX0_addSlice cX0_addSlice 9 none ∈ zTbl := zin_t 345 (by decide +kernel) rfl
theorem zw_346 : Cond.methodLink RX0 43 yX0_indexInSlice ∈ zTbl := zin_t 346 (by decide +kernel) rfl
theorem zw_347 : Cond.static yX0_indexInSlice ∈ zTbl := zin_t 347 (by decide +kernel) rfl
theorem zw_348 : Cond.code yX0_indexInSlice cX0_indexInSlice 5 (some .int) ∈ zTbl := zin_t 348 (by decide +kernel) rfl
theorem zw_350 : Cond.methodLink RX5 116 yX0_countOthersThanZero ∈ zTbl := zin_t 350 (by decide +kernel) rfl
theorem zw_351 : Cond.instanceMethod yX0_countOthersThanZero ∈ zTbl := zin_t 351 (by decide +kernel) rfl
theorem zw_352 : Cond.selects yX0_countOthersThanZero.cls yX0_countOthersThanZero yX0_countOthersThanZero ∈ zTbl := zin_t 352 (by decide +kernel) rfl
theorem zw_353 : Cond.code yX0_countOthersThanZero cX0_countOthersThanZero 3 (some .int) ∈ zTbl := zin_t 353 (by decide +kernel) rfl
theorem zw_361 : Cond.methodLink RX5 120 yX0_isLike ∈ zTbl := zin_t 361 (by decide +kernel) rfl
theorem zw_362 : Cond.instanceMethod yX0_isLike ∈ zTbl := zin_t 362 (by decide +kernel) rfl
theorem zw_363 : Cond.selects yX0_isLike.cls yX0_isLike yX0_isLike ∈ zTbl := zin_t 363 (by decide +kernel) rfl
theorem zw_364 : Cond.code yX0_isLike cX0_isLike 2 (some .boolean) ∈ zTbl := zin_t 364 (by decide +kernel) rfl
theorem zw_373 : Cond.methodLink RX5 135 yX5_numberOfProduct ∈ zTbl := zin_t 373 (by decide +kernel) rfl
theorem zw_374 : Cond.static yX5_numberOfProduct ∈ zTbl := zin_t 374 (by decide +kernel) rfl
theorem zw_375 : Cond.code yX5_numberOfProduct cX5_numberOfProduct 7 (some .int) ∈ zTbl := zin_t 375 (by decide +kernel) rfl
theorem zw_376 : Cond.methodLink RX5 290 yX5_quotient ∈ zTbl := zin_t 376 (by decide +kernel) rfl
theorem zw_377 : Cond.static yX5_quotient ∈ zTbl := zin_t 377 (by decide +kernel) rfl
theorem zw_378 : Cond.code yX5_quotient cX5_quotient 2 (some .int) ∈ zTbl := zin_t 378 (by decide +kernel) rfl
theorem zw_387 : Cond.instantiable RX4 4 ∈ zTbl := zin_t 387 (by decide +kernel) rfl
theorem zw_388 : Cond.methodLink RX5 141 yX0_copied ∈ zTbl := zin_t 388 (by decide +kernel) rfl
theorem zw_389 : Cond.instanceMethod yX0_copied ∈ zTbl := zin_t 389 (by decide +kernel) rfl
theorem zw_390 : Cond.selects yX0_copied.cls yX0_copied yX0_copied ∈ zTbl := zin_t 390 (by decide +kernel) rfl
theorem zw_391 : Cond.code yX0_copied cX0_copied 3 (some (.object "Bilinearium$Cube")) ∈ zTbl := zin_t 391 (by decide +kernel) rfl
theorem zw_392 : Cond.classLink RX0 10 RX0 ∈ zTbl := zin_t 392 (by decide +kernel) rfl
theorem zw_393 : Cond.methodLink RX0 28 yX0_init ∈ zTbl := zin_t 393 (by decide +kernel) rfl
theorem zw_394 : Cond.methodLink RX5 145 yX4_init ∈ zTbl := zin_t 394 (by decide +kernel) rfl
theorem zw_395 : Cond.instanceMethod yX4_init ∈ zTbl := zin_t 395 (by decide +kernel) rfl
theorem zw_396 : Cond.code yX4_init cX4_init 3 none ∈ zTbl := zin_t 396 (by decide +kernel) rfl
theorem zw_397 : Cond.methodLink RX4 5 Lib.objectInit ∈ zTbl := zin_t 397 (by decide +kernel) rfl
theorem zw_398 : Cond.fieldLink RX4 11 "Bilinearium$Way" "target" "LBilinearium$Cube;" ∈ zTbl := zin_t 398 (by decide +kernel) rfl
theorem zw_399 : Cond.fieldLink RX5 152 "Bilinearium$Way" "target" "LBilinearium$Cube;" ∈ zTbl := zin_t 399 (by decide +kernel) rfl
theorem zw_400 : Cond.fieldLink RX4 15 "Bilinearium$Way" "prime" "I" ∈ zTbl := zin_t 400 (by decide +kernel) rfl
theorem zw_401 : Cond.fieldLink RX4 19 "Bilinearium$Way" "triples" "[I" ∈ zTbl := zin_t 401 (by decide +kernel) rfl
theorem zw_402 : Cond.fieldLink RX4 23 "Bilinearium$Way" "count" "I" ∈ zTbl := zin_t 402 (by decide +kernel) rfl
theorem zw_403 : Cond.fieldLink RX5 168 "Bilinearium$Way" "count" "I" ∈ zTbl := zin_t 403 (by decide +kernel) rfl
theorem zw_420 : Cond.methodLink RX5 148 yX5_needWay ∈ zTbl := zin_t 420 (by decide +kernel) rfl
theorem zw_422 : Cond.instanceMethod yX5_needWay ∈ zTbl := zin_t 422 (by decide +kernel) rfl
theorem zw_423 : Cond.code yX5_needWay cX5_needWay 3 (some (.object "Bilinearium$Way")) ∈ zTbl := zin_t 423 (by decide +kernel) rfl
theorem zw_425 : Cond.methodLink RX5 156 yX5_needCode ∈ zTbl := zin_t 425 (by decide +kernel) rfl
theorem zw_427 : Cond.instanceMethod yX5_needCode ∈ zTbl := zin_t 427 (by decide +kernel) rfl
theorem zw_428 : Cond.code yX5_needCode cX5_needCode 3 none ∈ zTbl := zin_t 428 (by decide +kernel) rfl
theorem zw_429 : Cond.methodLink RX5 279 yX5_power ∈ zTbl := zin_t 429 (by decide +kernel) rfl
theorem zw_430 : Cond.static yX5_power ∈ zTbl := zin_t 430 (by decide +kernel) rfl
theorem zw_431 : Cond.code yX5_power cX5_power 4 (some .int) ∈ zTbl := zin_t 431 (by decide +kernel) rfl
theorem zw_433 : Cond.methodLink RX5 160 yX5_needRoom ∈ zTbl := zin_t 433 (by decide +kernel) rfl
theorem zw_434 : Cond.static yX5_needRoom ∈ zTbl := zin_t 434 (by decide +kernel) rfl
theorem zw_435 : Cond.code yX5_needRoom cX5_needRoom 2 none ∈ zTbl := zin_t 435 (by decide +kernel) rfl
theorem zw_437 : Cond.methodLink RX5 164 yX4_append ∈ zTbl := zin_t 437 (by decide +kernel) rfl
theorem zw_438 : Cond.instanceMethod yX4_append ∈ zTbl := zin_t 438 (by decide +kernel) rfl
theorem zw_439 : Cond.selects yX4_append.cls yX4_append yX4_append ∈ zTbl := zin_t 439 (by decide +kernel) rfl
theorem zw_440 : Cond.code yX4_append cX4_append 4 none ∈ zTbl := zin_t 440 (by decide +kernel) rfl
theorem zw_441 : Cond.methodLink RX4 30 yX4_shiftOf ∈ zTbl := zin_t 441 (by decide +kernel) rfl
theorem zw_442 : Cond.static yX4_shiftOf ∈ zTbl := zin_t 442 (by decide +kernel) rfl
theorem zw_443 : Cond.code yX4_shiftOf cX4_shiftOf 1 (some .int) ∈ zTbl := zin_t 443 (by decide +kernel) rfl
theorem zw_452 : Cond.methodLink RX5 171 yX4_appendPlaces ∈ zTbl := zin_t 452 (by decide +kernel) rfl
theorem zw_453 : Cond.instanceMethod yX4_appendPlaces ∈ zTbl := zin_t 453 (by decide +kernel) rfl
theorem zw_454 : Cond.selects yX4_appendPlaces.cls yX4_appendPlaces yX4_appendPlaces ∈ zTbl := zin_t 454 (by decide +kernel) rfl
theorem zw_455 : Cond.code yX4_appendPlaces cX4_appendPlaces 5 none ∈ zTbl := zin_t 455 (by decide +kernel) rfl
theorem zw_456 : Cond.methodLink RX4 60 yX0_numberAt ∈ zTbl := zin_t 456 (by decide +kernel) rfl
theorem zw_458 : Cond.static yX5_codeOf ∈ zTbl := zin_t 458 (by decide +kernel) rfl
theorem zw_459 : Cond.code yX5_codeOf cX5_codeOf 4 (some .int) ∈ zTbl := zin_t 459 (by decide +kernel) rfl
theorem zw_460 : Cond.methodLink RX4 67 yX4_append ∈ zTbl := zin_t 460 (by decide +kernel) rfl
theorem zw_468 : Cond.methodLink RX5 174 yX5_needProduct ∈ zTbl := zin_t 468 (by decide +kernel) rfl
theorem zw_469 : Cond.static yX5_needProduct ∈ zTbl := zin_t 469 (by decide +kernel) rfl
theorem zw_470 : Cond.code yX5_needProduct cX5_needProduct 2 none ∈ zTbl := zin_t 470 (by decide +kernel) rfl
theorem zw_473 : Cond.methodLink RX5 179 yX4_isSame ∈ zTbl := zin_t 473 (by decide +kernel) rfl
theorem zw_474 : Cond.instanceMethod yX4_isSame ∈ zTbl := zin_t 474 (by decide +kernel) rfl
theorem zw_475 : Cond.selects yX4_isSame.cls yX4_isSame yX4_isSame ∈ zTbl := zin_t 475 (by decide +kernel) rfl
theorem zw_476 : Cond.code yX4_isSame cX4_isSame 4 (some .boolean) ∈ zTbl := zin_t 476 (by decide +kernel) rfl
theorem zw_477 : Cond.methodLink RX4 38 yX4_code ∈ zTbl := zin_t 477 (by decide +kernel) rfl
theorem zw_478 : Cond.instanceMethod yX4_code ∈ zTbl := zin_t 478 (by decide +kernel) rfl
theorem zw_479 : Cond.selects yX4_code.cls yX4_code yX4_code ∈ zTbl := zin_t 479 (by decide +kernel) rfl
theorem zw_480 : Cond.code yX4_code cX4_code 3 (some .int) ∈ zTbl := zin_t 480 (by decide +kernel) rfl
theorem zw_483 : Cond.methodLink RX5 185 yX4_turn ∈ zTbl := zin_t 483 (by decide +kernel) rfl
theorem zw_484 : Cond.instanceMethod yX4_turn ∈ zTbl := zin_t 484 (by decide +kernel) rfl
theorem zw_485 : Cond.selects yX4_turn.cls yX4_turn yX4_turn ∈ zTbl := zin_t 485 (by decide +kernel) rfl
theorem zw_486 : Cond.code yX4_turn cX4_turn 6 none ∈ zTbl := zin_t 486 (by decide +kernel) rfl
theorem zw_487 : Cond.methodLink RX4 71 yX4_addVector ∈ zTbl := zin_t 487 (by decide +kernel) rfl
theorem zw_489 : Cond.instanceMethod yX4_addVector ∈ zTbl := zin_t 489 (by decide +kernel) rfl
theorem zw_490 : Cond.code yX4_addVector cX4_addVector 6 none ∈ zTbl := zin_t 490 (by decide +kernel) rfl
theorem zw_491 : Cond.methodLink RX4 42 yX0_sizeOf ∈ zTbl := zin_t 491 (by decide +kernel) rfl
theorem zw_493 : Cond.static yX5_addedCode ∈ zTbl := zin_t 493 (by decide +kernel) rfl
theorem zw_494 : Cond.code yX5_addedCode cX5_addedCode 8 (some .int) ∈ zTbl := zin_t 494 (by decide +kernel) rfl
theorem zw_495 : Cond.methodLink RX5 307 yX5_numberIn ∈ zTbl := zin_t 495 (by decide +kernel) rfl
theorem zw_496 : Cond.static yX5_numberIn ∈ zTbl := zin_t 496 (by decide +kernel) rfl
theorem zw_497 : Cond.code yX5_numberIn cX5_numberIn 6 (some .int) ∈ zTbl := zin_t 497 (by decide +kernel) rfl
theorem zw_498 : Cond.methodLink RX4 79 yX4_enterCode ∈ zTbl := zin_t 498 (by decide +kernel) rfl
theorem zw_500 : Cond.instanceMethod yX4_enterCode ∈ zTbl := zin_t 500 (by decide +kernel) rfl
theorem zw_501 : Cond.code yX4_enterCode cX4_enterCode 5 none ∈ zTbl := zin_t 501 (by decide +kernel) rfl
theorem zw_509 : Cond.methodLink RX5 188 yX4_shrink ∈ zTbl := zin_t 509 (by decide +kernel) rfl
theorem zw_510 : Cond.instanceMethod yX4_shrink ∈ zTbl := zin_t 510 (by decide +kernel) rfl
theorem zw_511 : Cond.selects yX4_shrink.cls yX4_shrink yX4_shrink ∈ zTbl := zin_t 511 (by decide +kernel) rfl
theorem zw_512 : Cond.code yX4_shrink cX4_shrink 3 (some .int) ∈ zTbl := zin_t 512 (by decide +kernel) rfl
theorem zw_513 : Cond.methodLink RX4 82 yX4_takeOutZeros ∈ zTbl := zin_t 513 (by decide +kernel) rfl
theorem zw_515 : Cond.instanceMethod yX4_takeOutZeros ∈ zTbl := zin_t 515 (by decide +kernel) rfl
theorem zw_516 : Cond.code yX4_takeOutZeros cX4_takeOutZeros 2 (some .boolean) ∈ zTbl := zin_t 516 (by decide +kernel) rfl
theorem zw_517 : Cond.methodLink RX4 89 yX4_hasZeros ∈ zTbl := zin_t 517 (by decide +kernel) rfl
theorem zw_519 : Cond.instanceMethod yX4_hasZeros ∈ zTbl := zin_t 519 (by decide +kernel) rfl
theorem zw_520 : Cond.code yX4_hasZeros cX4_hasZeros 2 (some .boolean) ∈ zTbl := zin_t 520 (by decide +kernel) rfl
theorem zw_521 : Cond.methodLink RX4 93 yX4_takeOut ∈ zTbl := zin_t 521 (by decide +kernel) rfl
theorem zw_523 : Cond.instanceMethod yX4_takeOut ∈ zTbl := zin_t 523 (by decide +kernel) rfl
theorem zw_524 : Cond.code yX4_takeOut cX4_takeOut 3 none ∈ zTbl := zin_t 524 (by decide +kernel) rfl
theorem zw_525 : Cond.methodLink RX4 86 yX4_joinProducts ∈ zTbl := zin_t 525 (by decide +kernel) rfl
theorem zw_527 : Cond.instanceMethod yX4_joinProducts ∈ zTbl := zin_t 527 (by decide +kernel) rfl
theorem zw_528 : Cond.code yX4_joinProducts cX4_joinProducts 4 (some .boolean) ∈ zTbl := zin_t 528 (by decide +kernel) rfl
theorem zw_529 : Cond.methodLink RX4 97 yX4_sideToJoin ∈ zTbl := zin_t 529 (by decide +kernel) rfl
theorem zw_531 : Cond.instanceMethod yX4_sideToJoin ∈ zTbl := zin_t 531 (by decide +kernel) rfl
theorem zw_532 : Cond.code yX4_sideToJoin cX4_sideToJoin 7 (some .int) ∈ zTbl := zin_t 532 (by decide +kernel) rfl
theorem zw_540 : Cond.constant RX5 191 (65536 : Int32) ∈ zTbl := zin_t 540 (by decide +kernel) rfl
theorem zw_543 : Cond.methodLink RX5 196 yX4_wander ∈ zTbl := zin_t 543 (by decide +kernel) rfl
theorem zw_544 : Cond.instanceMethod yX4_wander ∈ zTbl := zin_t 544 (by decide +kernel) rfl
theorem zw_545 : Cond.selects yX4_wander.cls yX4_wander yX4_wander ∈ zTbl := zin_t 545 (by decide +kernel) rfl
theorem zw_546 : Cond.code yX4_wander cX4_wander 9 (some .int) ∈ zTbl := zin_t 546 (by decide +kernel) rfl
theorem zw_547 : Cond.methodLink RX4 100 yX4_draw ∈ zTbl := zin_t 547 (by decide +kernel) rfl
theorem zw_548 : Cond.static yX4_draw ∈ zTbl := zin_t 548 (by decide +kernel) rfl
theorem zw_549 : Cond.code yX4_draw cX4_draw 1 (some .int) ∈ zTbl := zin_t 549 (by decide +kernel) rfl
theorem zw_550 : Cond.constant RX4 120 (65536 : Int32) ∈ zTbl := zin_t 550 (by decide +kernel) rfl
theorem zw_552 : Cond.methodLink RX4 106 yX4_isSame ∈ zTbl := zin_t 552 (by decide +kernel) rfl
theorem zw_553 : Cond.methodLink RX4 110 yX4_turn ∈ zTbl := zin_t 553 (by decide +kernel) rfl
theorem zw_554 : Cond.methodLink RX4 113 yX4_isReducible ∈ zTbl := zin_t 554 (by decide +kernel) rfl
theorem zw_556 : Cond.instanceMethod yX4_isReducible ∈ zTbl := zin_t 556 (by decide +kernel) rfl
theorem zw_557 : Cond.code yX4_isReducible cX4_isReducible 3 (some .boolean) ∈ zTbl := zin_t 557 (by decide +kernel) rfl
theorem zw_558 : Cond.methodLink RX4 116 yX4_shrink ∈ zTbl := zin_t 558 (by decide +kernel) rfl
theorem zw_573 : Cond.methodLink RX5 199 yX1_rankOf ∈ zTbl := zin_t 573 (by decide +kernel) rfl
theorem zw_574 : Cond.instanceMethod yX1_rankOf ∈ zTbl := zin_t 574 (by decide +kernel) rfl
theorem zw_575 : Cond.selects yX1_rankOf.cls yX1_rankOf yX1_rankOf ∈ zTbl := zin_t 575 (by decide +kernel) rfl
theorem zw_576 : Cond.code yX1_rankOf cX1_rankOf 7 (some .int) ∈ zTbl := zin_t 576 (by decide +kernel) rfl
theorem zw_577 : Cond.methodLink RX1 15 yX1_take ∈ zTbl := zin_t 577 (by decide +kernel) rfl
theorem zw_579 : Cond.instanceMethod yX1_take ∈ zTbl := zin_t 579 (by decide +kernel) rfl
theorem zw_580 : Cond.code yX1_take cX1_take 6 none ∈ zTbl := zin_t 580 (by decide +kernel) rfl
theorem zw_581 : Cond.methodLink RX1 30 yX0_sizeOf ∈ zTbl := zin_t 581 (by decide +kernel) rfl
theorem zw_582 : Cond.methodLink RX1 43 yX0_numberInSlice ∈ zTbl := zin_t 582 (by decide +kernel) rfl
theorem zw_583 : Cond.instanceMethod yX0_numberInSlice ∈ zTbl := zin_t 583 (by decide +kernel) rfl
theorem zw_584 : Cond.selects yX0_numberInSlice.cls yX0_numberInSlice yX0_numberInSlice ∈ zTbl := zin_t 584 (by decide +kernel) rfl
theorem zw_585 : Cond.code yX0_numberInSlice cX0_numberInSlice 4 (some .int) ∈ zTbl := zin_t 585 (by decide +kernel) rfl
theorem zw_586 : Cond.methodLink RX1 47 yX1_enter ∈ zTbl := zin_t 586 (by decide +kernel) rfl
theorem zw_588 : Cond.instanceMethod yX1_enter ∈ zTbl := zin_t 588 (by decide +kernel) rfl
theorem zw_589 : Cond.code yX1_enter cX1_enter 4 none ∈ zTbl := zin_t 589 (by decide +kernel) rfl
theorem zw_591 : Cond.methodLink RX1 19 yX1_rowWithNumber ∈ zTbl := zin_t 591 (by decide +kernel) rfl
theorem zw_593 : Cond.instanceMethod yX1_rowWithNumber ∈ zTbl := zin_t 593 (by decide +kernel) rfl
theorem zw_594 : Cond.code yX1_rowWithNumber cX1_rowWithNumber 4 (some .int) ∈ zTbl := zin_t 594 (by decide +kernel) rfl
theorem zw_595 : Cond.methodLink RX1 59 yX1_number ∈ zTbl := zin_t 595 (by decide +kernel) rfl
theorem zw_597 : Cond.instanceMethod yX1_number ∈ zTbl := zin_t 597 (by decide +kernel) rfl
theorem zw_598 : Cond.code yX1_number cX1_number 3 (some .int) ∈ zTbl := zin_t 598 (by decide +kernel) rfl
theorem zw_600 : Cond.methodLink RX1 23 yX1_swapRows ∈ zTbl := zin_t 600 (by decide +kernel) rfl
theorem zw_602 : Cond.instanceMethod yX1_swapRows ∈ zTbl := zin_t 602 (by decide +kernel) rfl
theorem zw_603 : Cond.code yX1_swapRows cX1_swapRows 5 none ∈ zTbl := zin_t 603 (by decide +kernel) rfl
theorem zw_604 : Cond.methodLink RX1 27 yX1_clearBelow ∈ zTbl := zin_t 604 (by decide +kernel) rfl
theorem zw_606 : Cond.instanceMethod yX1_clearBelow ∈ zTbl := zin_t 606 (by decide +kernel) rfl
theorem zw_607 : Cond.code yX1_clearBelow cX1_clearBelow 7 none ∈ zTbl := zin_t 607 (by decide +kernel) rfl
theorem zw_616 : Cond.methodLink RX5 203 yX5_greatestRank ∈ zTbl := zin_t 616 (by decide +kernel) rfl
theorem zw_618 : Cond.instanceMethod yX5_greatestRank ∈ zTbl := zin_t 618 (by decide +kernel) rfl
theorem zw_619 : Cond.code yX5_greatestRank cX5_greatestRank 4 (some .int) ∈ zTbl := zin_t 619 (by decide +kernel) rfl
theorem zw_620 : Cond.methodLink RX5 293 yJ9_max_7cf53 ∈ zTbl := zin_t 620 (by decide +kernel) rfl
theorem zw_621 : Cond.static yJ9_max_7cf53 ∈ zTbl := zin_t 621 (by decide +kernel) rfl
theorem zw_622 : Cond.code yJ9_max_7cf53 cJ9_max_7cf53 2 (some .int) ∈ zTbl := zin_t 622 (by decide +kernel) rfl
theorem zw_630 : Cond.methodLink RX5 207 yX5_needSmall ∈ zTbl := zin_t 630 (by decide +kernel) rfl
theorem zw_632 : Cond.instanceMethod yX5_needSmall ∈ zTbl := zin_t 632 (by decide +kernel) rfl
theorem zw_633 : Cond.code yX5_needSmall cX5_needSmall 3 none ∈ zTbl := zin_t 633 (by decide +kernel) rfl
theorem zw_635 : Cond.methodLink RX5 210 yX2_fewest ∈ zTbl := zin_t 635 (by decide +kernel) rfl
theorem zw_636 : Cond.instanceMethod yX2_fewest ∈ zTbl := zin_t 636 (by decide +kernel) rfl
theorem zw_637 : Cond.selects yX2_fewest.cls yX2_fewest yX2_fewest ∈ zTbl := zin_t 637 (by decide +kernel) rfl
theorem zw_638 : Cond.code yX2_fewest cX2_fewest 5 (some .int) ∈ zTbl := zin_t 638 (by decide +kernel) rfl
theorem zw_639 : Cond.methodLink RX2 19 yX2_gatherSingles ∈ zTbl := zin_t 639 (by decide +kernel) rfl
theorem zw_641 : Cond.instanceMethod yX2_gatherSingles ∈ zTbl := zin_t 641 (by decide +kernel) rfl
theorem zw_642 : Cond.code yX2_gatherSingles cX2_gatherSingles 5 none ∈ zTbl := zin_t 642 (by decide +kernel) rfl
theorem zw_644 : Cond.static yX5_putLong ∈ zTbl := zin_t 644 (by decide +kernel) rfl
theorem zw_645 : Cond.code yX5_putLong cX5_putLong 4 none ∈ zTbl := zin_t 645 (by decide +kernel) rfl
theorem zw_647 : Cond.methodLink RX2 66 yX2_bitsOfSingle ∈ zTbl := zin_t 647 (by decide +kernel) rfl
theorem zw_648 : Cond.static yX2_bitsOfSingle ∈ zTbl := zin_t 648 (by decide +kernel) rfl
theorem zw_649 : Cond.code yX2_bitsOfSingle cX2_bitsOfSingle 9 (some .int) ∈ zTbl := zin_t 649 (by decide +kernel) rfl
theorem zw_651 : Cond.methodLink RX2 70 yX2_addSingle ∈ zTbl := zin_t 651 (by decide +kernel) rfl
theorem zw_653 : Cond.instanceMethod yX2_addSingle ∈ zTbl := zin_t 653 (by decide +kernel) rfl
theorem zw_654 : Cond.code yX2_addSingle cX2_addSingle 3 none ∈ zTbl := zin_t 654 (by decide +kernel) rfl
theorem zw_657 : Cond.static yX5_getLong ∈ zTbl := zin_t 657 (by decide +kernel) rfl
theorem zw_658 : Cond.code yX5_getLong cX5_getLong 2 (some .long) ∈ zTbl := zin_t 658 (by decide +kernel) rfl
theorem zw_659 : Cond.methodLink RX2 23 yX2_bitsOf ∈ zTbl := zin_t 659 (by decide +kernel) rfl
theorem zw_660 : Cond.static yX2_bitsOf ∈ zTbl := zin_t 660 (by decide +kernel) rfl
theorem zw_661 : Cond.code yX2_bitsOf cX2_bitsOf 5 (some .int) ∈ zTbl := zin_t 661 (by decide +kernel) rfl
theorem zw_662 : Cond.methodLink RX2 82 yX0_numberAt ∈ zTbl := zin_t 662 (by decide +kernel) rfl
theorem zw_663 : Cond.methodLink RX2 27 yX2_isMade ∈ zTbl := zin_t 663 (by decide +kernel) rfl
theorem zw_665 : Cond.instanceMethod yX2_isMade ∈ zTbl := zin_t 665 (by decide +kernel) rfl
theorem zw_666 : Cond.code yX2_isMade cX2_isMade 5 (some .boolean) ∈ zTbl := zin_t 666 (by decide +kernel) rfl
theorem zw_667 : Cond.methodLink RX2 31 yX2_isSingle ∈ zTbl := zin_t 667 (by decide +kernel) rfl
theorem zw_669 : Cond.instanceMethod yX2_isSingle ∈ zTbl := zin_t 669 (by decide +kernel) rfl
theorem zw_670 : Cond.code yX2_isSingle cX2_isSingle 2 (some .boolean) ∈ zTbl := zin_t 670 (by decide +kernel) rfl
theorem zw_687 : Cond.methodLink RX5 216 yX4_countWrongPlaces ∈ zTbl := zin_t 687 (by decide +kernel) rfl
theorem zw_688 : Cond.instanceMethod yX4_countWrongPlaces ∈ zTbl := zin_t 688 (by decide +kernel) rfl
theorem zw_689 : Cond.selects yX4_countWrongPlaces.cls yX4_countWrongPlaces yX4_countWrongPlaces ∈ zTbl := zin_t 689 (by decide +kernel) rfl
theorem zw_690 : Cond.code yX4_countWrongPlaces cX4_countWrongPlaces 4 (some .int) ∈ zTbl := zin_t 690 (by decide +kernel) rfl
theorem zw_691 : Cond.methodLink RX4 121 yX4_addEntries ∈ zTbl := zin_t 691 (by decide +kernel) rfl
theorem zw_693 : Cond.instanceMethod yX4_addEntries ∈ zTbl := zin_t 693 (by decide +kernel) rfl
theorem zw_694 : Cond.code yX4_addEntries cX4_addEntries 9 none ∈ zTbl := zin_t 694 (by decide +kernel) rfl
theorem zw_695 : Cond.methodLink RX4 128 yX4_number ∈ zTbl := zin_t 695 (by decide +kernel) rfl
theorem zw_697 : Cond.instanceMethod yX4_number ∈ zTbl := zin_t 697 (by decide +kernel) rfl
theorem zw_698 : Cond.code yX4_number cX4_number 4 (some .int) ∈ zTbl := zin_t 698 (by decide +kernel) rfl
theorem zw_700 : Cond.methodLink RX4 131 yX0_indexOf ∈ zTbl := zin_t 700 (by decide +kernel) rfl
theorem zw_701 : Cond.methodLink RX5 220 yX5_countAdditions ∈ zTbl := zin_t 701 (by decide +kernel) rfl
theorem zw_703 : Cond.instanceMethod yX5_countAdditions ∈ zTbl := zin_t 703 (by decide +kernel) rfl
theorem zw_704 : Cond.code yX5_countAdditions cX5_countAdditions 5 (some .int) ∈ zTbl := zin_t 704 (by decide +kernel) rfl
theorem zw_705 : Cond.methodLink RX5 298 yX4_tellSums ∈ zTbl := zin_t 705 (by decide +kernel) rfl
theorem zw_706 : Cond.instanceMethod yX4_tellSums ∈ zTbl := zin_t 706 (by decide +kernel) rfl
theorem zw_707 : Cond.selects yX4_tellSums.cls yX4_tellSums yX4_tellSums ∈ zTbl := zin_t 707 (by decide +kernel) rfl
theorem zw_708 : Cond.code yX4_tellSums cX4_tellSums 4 none ∈ zTbl := zin_t 708 (by decide +kernel) rfl
theorem zw_709 : Cond.methodLink RX4 134 yX3_clear ∈ zTbl := zin_t 709 (by decide +kernel) rfl
theorem zw_710 : Cond.instanceMethod yX3_clear ∈ zTbl := zin_t 710 (by decide +kernel) rfl
theorem zw_711 : Cond.selects yX3_clear.cls yX3_clear yX3_clear ∈ zTbl := zin_t 711 (by decide +kernel) rfl
theorem zw_712 : Cond.code yX3_clear cX3_clear 1 none ∈ zTbl := zin_t 712 (by decide +kernel) rfl
theorem zw_713 : Cond.methodLink RX4 139 yX4_filledPlaces ∈ zTbl := zin_t 713 (by decide +kernel) rfl
theorem zw_715 : Cond.instanceMethod yX4_filledPlaces ∈ zTbl := zin_t 715 (by decide +kernel) rfl
theorem zw_716 : Cond.code yX4_filledPlaces cX4_filledPlaces 6 (some .long) ∈ zTbl := zin_t 716 (by decide +kernel) rfl
theorem zw_717 : Cond.methodLink RX4 143 yX3_append ∈ zTbl := zin_t 717 (by decide +kernel) rfl
theorem zw_718 : Cond.instanceMethod yX3_append ∈ zTbl := zin_t 718 (by decide +kernel) rfl
theorem zw_719 : Cond.selects yX3_append.cls yX3_append yX3_append ∈ zTbl := zin_t 719 (by decide +kernel) rfl
theorem zw_720 : Cond.code yX3_append cX3_append 3 none ∈ zTbl := zin_t 720 (by decide +kernel) rfl
theorem zw_722 : Cond.methodLink RX4 146 yX4_filledProducts ∈ zTbl := zin_t 722 (by decide +kernel) rfl
theorem zw_724 : Cond.instanceMethod yX4_filledProducts ∈ zTbl := zin_t 724 (by decide +kernel) rfl
theorem zw_725 : Cond.code yX4_filledProducts cX4_filledProducts 6 (some .long) ∈ zTbl := zin_t 725 (by decide +kernel) rfl
theorem zw_726 : Cond.methodLink RX5 302 yX3_sharePairs ∈ zTbl := zin_t 726 (by decide +kernel) rfl
theorem zw_727 : Cond.instanceMethod yX3_sharePairs ∈ zTbl := zin_t 727 (by decide +kernel) rfl
theorem zw_728 : Cond.selects yX3_sharePairs.cls yX3_sharePairs yX3_sharePairs ∈ zTbl := zin_t 728 (by decide +kernel) rfl
theorem zw_729 : Cond.code yX3_sharePairs cX3_sharePairs 2 (some .int) ∈ zTbl := zin_t 729 (by decide +kernel) rfl
theorem zw_730 : Cond.methodLink RX3 33 yX3_shareBestPair ∈ zTbl := zin_t 730 (by decide +kernel) rfl
theorem zw_732 : Cond.instanceMethod yX3_shareBestPair ∈ zTbl := zin_t 732 (by decide +kernel) rfl
theorem zw_733 : Cond.code yX3_shareBestPair cX3_shareBestPair 9 (some .boolean) ∈ zTbl := zin_t 733 (by decide +kernel) rfl
theorem zw_735 : Cond.methodLink RX3 27 yJ13_bitCount_95d88 ∈ zTbl := zin_t 735 (by decide +kernel) rfl
theorem zw_736 : Cond.static yJ13_bitCount_95d88 ∈ zTbl := zin_t 736 (by decide +kernel) rfl
theorem zw_737 : Cond.code yJ13_bitCount_95d88 cJ13_bitCount_95d88 2 (some .int) ∈ zTbl := zin_t 737 (by decide +kernel) rfl
theorem zw_738 : Cond.constantLong RJ13 314 (6148914691236517205 : Int64) ∈ zTbl := zin_t 738 (by decide +kernel) rfl
theorem zw_739 : Cond.constantLong RJ13 316 (3689348814741910323 : Int64) ∈ zTbl := zin_t 739 (by decide +kernel) rfl
theorem zw_740 : Cond.constantLong RJ13 318 (1085102592571150095 : Int64) ∈ zTbl := zin_t 740 (by decide +kernel) rfl
theorem zw_741 : Cond.methodLink RX3 37 yX3_replace ∈ zTbl := zin_t 741 (by decide +kernel) rfl
theorem zw_743 : Cond.instanceMethod yX3_replace ∈ zTbl := zin_t 743 (by decide +kernel) rfl
theorem zw_744 : Cond.code yX3_replace cX3_replace 5 none ∈ zTbl := zin_t 744 (by decide +kernel) rfl
theorem zw_745 : Cond.constantLong RX3 41 (-1 : Int64) ∈ zTbl := zin_t 745 (by decide +kernel) rfl
theorem zw_746 : Cond.methodLink RX3 43 yX3_append ∈ zTbl := zin_t 746 (by decide +kernel) rfl
theorem zw_747 : Cond.methodLink RX5 305 yX3_countAdditions ∈ zTbl := zin_t 747 (by decide +kernel) rfl
theorem zw_748 : Cond.instanceMethod yX3_countAdditions ∈ zTbl := zin_t 748 (by decide +kernel) rfl
theorem zw_749 : Cond.selects yX3_countAdditions.cls yX3_countAdditions yX3_countAdditions ∈ zTbl := zin_t 749 (by decide +kernel) rfl
theorem zw_750 : Cond.code yX3_countAdditions cX3_countAdditions 7 (some .int) ∈ zTbl := zin_t 750 (by decide +kernel) rfl
theorem zw_751 : Cond.methodLink RX5 224 yX4_greatestGrowth ∈ zTbl := zin_t 751 (by decide +kernel) rfl
theorem zw_752 : Cond.instanceMethod yX4_greatestGrowth ∈ zTbl := zin_t 752 (by decide +kernel) rfl
theorem zw_753 : Cond.selects yX4_greatestGrowth.cls yX4_greatestGrowth yX4_greatestGrowth ∈ zTbl := zin_t 753 (by decide +kernel) rfl
theorem zw_754 : Cond.code yX4_greatestGrowth cX4_greatestGrowth 3 (some .int) ∈ zTbl := zin_t 754 (by decide +kernel) rfl
theorem zw_755 : Cond.methodLink RX4 149 yX4_growthAt ∈ zTbl := zin_t 755 (by decide +kernel) rfl
theorem zw_757 : Cond.instanceMethod yX4_growthAt ∈ zTbl := zin_t 757 (by decide +kernel) rfl
theorem zw_758 : Cond.code yX4_growthAt cX4_growthAt 6 (some .int) ∈ zTbl := zin_t 758 (by decide +kernel) rfl
theorem zw_759 : Cond.methodLink RX4 157 yJ13_bitCount_95d88 ∈ zTbl := zin_t 759 (by decide +kernel) rfl
theorem zw_760 : Cond.methodLink RX4 152 yJ9_max_7cf53 ∈ zTbl := zin_t 760 (by decide +kernel) rfl
theorem zw_768 : Cond.methodLink RX5 227 yX4_code ∈ zTbl := zin_t 768 (by decide +kernel) rfl
theorem zw_776 : Cond.methodLink RX5 230 yX5_needFactors ∈ zTbl := zin_t 776 (by decide +kernel) rfl
theorem zw_778 : Cond.instanceMethod yX5_needFactors ∈ zTbl := zin_t 778 (by decide +kernel) rfl
theorem zw_779 : Cond.code yX5_needFactors cX5_needFactors 5 none ∈ zTbl := zin_t 779 (by decide +kernel) rfl
theorem zw_780 : Cond.methodLink RX5 234 yX4_multiplied ∈ zTbl := zin_t 780 (by decide +kernel) rfl
theorem zw_781 : Cond.instanceMethod yX4_multiplied ∈ zTbl := zin_t 781 (by decide +kernel) rfl
theorem zw_782 : Cond.selects yX4_multiplied.cls yX4_multiplied yX4_multiplied ∈ zTbl := zin_t 782 (by decide +kernel) rfl
theorem zw_783 : Cond.code yX4_multiplied cX4_multiplied 8 (some .int) ∈ zTbl := zin_t 783 (by decide +kernel) rfl
theorem zw_785 : Cond.static yX5_multipliedCodes ∈ zTbl := zin_t 785 (by decide +kernel) rfl
theorem zw_786 : Cond.code yX5_multipliedCodes cX5_multipliedCodes 6 (some .int) ∈ zTbl := zin_t 786 (by decide +kernel) rfl
theorem zw_794 : Cond.methodLink RX5 237 yX4_multipliedByCube ∈ zTbl := zin_t 794 (by decide +kernel) rfl
theorem zw_795 : Cond.instanceMethod yX4_multipliedByCube ∈ zTbl := zin_t 795 (by decide +kernel) rfl
theorem zw_796 : Cond.selects yX4_multipliedByCube.cls yX4_multipliedByCube yX4_multipliedByCube ∈ zTbl := zin_t 796 (by decide +kernel) rfl
theorem zw_797 : Cond.code yX4_multipliedByCube cX4_multipliedByCube 9 (some .int) ∈ zTbl := zin_t 797 (by decide +kernel) rfl
theorem zw_807 : Cond.methodLink RX5 244 yX5_additionsInLevels ∈ zTbl := zin_t 807 (by decide +kernel) rfl
theorem zw_808 : Cond.static yX5_additionsInLevels ∈ zTbl := zin_t 808 (by decide +kernel) rfl
theorem zw_809 : Cond.code yX5_additionsInLevels cX5_additionsInLevels 11 (some .long) ∈ zTbl := zin_t 809 (by decide +kernel) rfl
theorem zw_810 : Cond.methodLink RX5 248 yX5_multiplicationsInLevels ∈ zTbl := zin_t 810 (by decide +kernel) rfl
theorem zw_811 : Cond.static yX5_multiplicationsInLevels ∈ zTbl := zin_t 811 (by decide +kernel) rfl
theorem zw_812 : Cond.code yX5_multiplicationsInLevels cX5_multiplicationsInLevels 5 (some .long) ∈ zTbl := zin_t 812 (by decide +kernel) rfl
theorem zw_818 : Cond.methodLink RX6 1 Lib.objectInit ∈ zTbl := zin_t 818 (by decide +kernel) rfl
theorem zw_819 : Cond.fieldLink RX6 51 "BilineariumModel" "thrown" "I" ∈ zTbl := zin_t 819 (by decide +kernel) rfl
theorem zw_820 : Cond.fieldLink RX6 7 "BilineariumModel" "prime" "I" ∈ zTbl := zin_t 820 (by decide +kernel) rfl
theorem zw_821 : Cond.fieldLink RX6 54 "BilineariumModel" "cubes" "I" ∈ zTbl := zin_t 821 (by decide +kernel) rfl
theorem zw_822 : Cond.fieldLink RX6 13 "BilineariumModel" "size" "[I" ∈ zTbl := zin_t 822 (by decide +kernel) rfl
theorem zw_823 : Cond.fieldLink RX6 17 "BilineariumModel" "number" "[I" ∈ zTbl := zin_t 823 (by decide +kernel) rfl
theorem zw_824 : Cond.fieldLink RX6 20 "BilineariumModel" "square" "[I" ∈ zTbl := zin_t 824 (by decide +kernel) rfl
theorem zw_825 : Cond.fieldLink RX6 61 "BilineariumModel" "ways" "I" ∈ zTbl := zin_t 825 (by decide +kernel) rfl
theorem zw_826 : Cond.fieldLink RX6 23 "BilineariumModel" "waySize" "[I" ∈ zTbl := zin_t 826 (by decide +kernel) rfl
theorem zw_827 : Cond.fieldLink RX6 26 "BilineariumModel" "wayNumber" "[I" ∈ zTbl := zin_t 827 (by decide +kernel) rfl
theorem zw_828 : Cond.fieldLink RX6 29 "BilineariumModel" "waySquare" "[I" ∈ zTbl := zin_t 828 (by decide +kernel) rfl
theorem zw_829 : Cond.fieldLink RX6 32 "BilineariumModel" "products" "[I" ∈ zTbl := zin_t 829 (by decide +kernel) rfl
theorem zw_830 : Cond.fieldLink RX6 35 "BilineariumModel" "vector" "[I" ∈ zTbl := zin_t 830 (by decide +kernel) rfl
theorem zw_831 : Cond.fieldLink RX6 38 "BilineariumModel" "matrix" "[I" ∈ zTbl := zin_t 831 (by decide +kernel) rfl
theorem zw_832 : Cond.fieldLink RX6 41 "BilineariumModel" "far" "[I" ∈ zTbl := zin_t 832 (by decide +kernel) rfl
theorem zw_833 : Cond.fieldLink RX6 44 "BilineariumModel" "queue" "[I" ∈ zTbl := zin_t 833 (by decide +kernel) rfl
theorem zw_834 : Cond.fieldLink RX6 154 "BilineariumModel" "last" "I" ∈ zTbl := zin_t 834 (by decide +kernel) rfl
theorem zw_835 : Cond.fieldLink RX6 47 "BilineariumModel" "holds" "[Z" ∈ zTbl := zin_t 835 (by decide +kernel) rfl
theorem zw_836 : Cond.fieldLink RX6 172 "BilineariumModel" "sets" "I" ∈ zTbl := zin_t 836 (by decide +kernel) rfl
theorem zw_837 : Cond.fieldLink RX6 175 "BilineariumModel" "elements" "I" ∈ zTbl := zin_t 837 (by decide +kernel) rfl
theorem zw_877 : Cond.arrayClass .boolean ∈ zTbl := zin_t 877 (by decide +kernel) rfl
theorem zw_886 : Cond.methodLink RX6 64 yX6_goesWell ∈ zTbl := zin_t 886 (by decide +kernel) rfl
theorem zw_888 : Cond.instanceMethod yX6_goesWell ∈ zTbl := zin_t 888 (by decide +kernel) rfl
theorem zw_889 : Cond.code yX6_goesWell cX6_goesWell 2 (some .boolean) ∈ zTbl := zin_t 889 (by decide +kernel) rfl
theorem zw_894 : Cond.methodLink RX6 68 yX6_canMake ∈ zTbl := zin_t 894 (by decide +kernel) rfl
theorem zw_896 : Cond.instanceMethod yX6_canMake ∈ zTbl := zin_t 896 (by decide +kernel) rfl
theorem zw_897 : Cond.code yX6_canMake cX6_canMake 5 (some .boolean) ∈ zTbl := zin_t 897 (by decide +kernel) rfl
theorem zw_898 : Cond.methodLink RX6 57 yX6_in ∈ zTbl := zin_t 898 (by decide +kernel) rfl
theorem zw_899 : Cond.static yX6_in ∈ zTbl := zin_t 899 (by decide +kernel) rfl
theorem zw_900 : Cond.code yX6_in cX6_in 3 (some .boolean) ∈ zTbl := zin_t 900 (by decide +kernel) rfl
theorem zw_901 : Cond.methodLink RX6 71 yX6_make ∈ zTbl := zin_t 901 (by decide +kernel) rfl
theorem zw_903 : Cond.instanceMethod yX6_make ∈ zTbl := zin_t 903 (by decide +kernel) rfl
theorem zw_904 : Cond.code yX6_make cX6_make 5 (some .int) ∈ zTbl := zin_t 904 (by decide +kernel) rfl
theorem zw_909 : Cond.methodLink RX6 75 yX6_place ∈ zTbl := zin_t 909 (by decide +kernel) rfl
theorem zw_910 : Cond.static yX6_place ∈ zTbl := zin_t 910 (by decide +kernel) rfl
theorem zw_911 : Cond.code yX6_place cX6_place 3 (some .int) ∈ zTbl := zin_t 911 (by decide +kernel) rfl
theorem zw_924 : Cond.methodLink RX6 81 yX6_isPlace ∈ zTbl := zin_t 924 (by decide +kernel) rfl
theorem zw_926 : Cond.instanceMethod yX6_isPlace ∈ zTbl := zin_t 926 (by decide +kernel) rfl
theorem zw_927 : Cond.code yX6_isPlace cX6_isPlace 5 (some .boolean) ∈ zTbl := zin_t 927 (by decide +kernel) rfl
theorem zw_928 : Cond.methodLink RX6 78 yX6_isCube ∈ zTbl := zin_t 928 (by decide +kernel) rfl
theorem zw_930 : Cond.instanceMethod yX6_isCube ∈ zTbl := zin_t 930 (by decide +kernel) rfl
theorem zw_931 : Cond.code yX6_isCube cX6_isCube 2 (some .boolean) ∈ zTbl := zin_t 931 (by decide +kernel) rfl
theorem zw_936 : Cond.methodLink RX6 85 yX6_isSide ∈ zTbl := zin_t 936 (by decide +kernel) rfl
theorem zw_937 : Cond.static yX6_isSide ∈ zTbl := zin_t 937 (by decide +kernel) rfl
theorem zw_938 : Cond.code yX6_isSide cX6_isSide 1 (some .boolean) ∈ zTbl := zin_t 938 (by decide +kernel) rfl
theorem zw_939 : Cond.methodLink RX6 88 yX6_placeBy ∈ zTbl := zin_t 939 (by decide +kernel) rfl
theorem zw_940 : Cond.static yX6_placeBy ∈ zTbl := zin_t 940 (by decide +kernel) rfl
theorem zw_941 : Cond.code yX6_placeBy cX6_placeBy 4 (some .int) ∈ zTbl := zin_t 941 (by decide +kernel) rfl
theorem zw_958 : Cond.methodLink RX6 99 yX6_isWay ∈ zTbl := zin_t 958 (by decide +kernel) rfl
theorem zw_960 : Cond.instanceMethod yX6_isWay ∈ zTbl := zin_t 960 (by decide +kernel) rfl
theorem zw_961 : Cond.code yX6_isWay cX6_isWay 2 (some .boolean) ∈ zTbl := zin_t 961 (by decide +kernel) rfl
theorem zw_962 : Cond.methodLink RX6 102 yX6_isCode ∈ zTbl := zin_t 962 (by decide +kernel) rfl
theorem zw_964 : Cond.instanceMethod yX6_isCode ∈ zTbl := zin_t 964 (by decide +kernel) rfl
theorem zw_965 : Cond.code yX6_isCode cX6_isCode 4 (some .boolean) ∈ zTbl := zin_t 965 (by decide +kernel) rfl
theorem zw_966 : Cond.methodLink RX6 92 yX6_codes ∈ zTbl := zin_t 966 (by decide +kernel) rfl
theorem zw_968 : Cond.instanceMethod yX6_codes ∈ zTbl := zin_t 968 (by decide +kernel) rfl
theorem zw_969 : Cond.code yX6_codes cX6_codes 5 (some .int) ∈ zTbl := zin_t 969 (by decide +kernel) rfl
theorem zw_970 : Cond.methodLink RX6 105 yX6_decode ∈ zTbl := zin_t 970 (by decide +kernel) rfl
theorem zw_972 : Cond.instanceMethod yX6_decode ∈ zTbl := zin_t 972 (by decide +kernel) rfl
theorem zw_973 : Cond.code yX6_decode cX6_decode 7 none ∈ zTbl := zin_t 973 (by decide +kernel) rfl
theorem zw_974 : Cond.methodLink RX6 96 yX6_from ∈ zTbl := zin_t 974 (by decide +kernel) rfl
theorem zw_975 : Cond.static yX6_from ∈ zTbl := zin_t 975 (by decide +kernel) rfl
theorem zw_976 : Cond.code yX6_from cX6_from 3 (some .int) ∈ zTbl := zin_t 976 (by decide +kernel) rfl
theorem zw_985 : Cond.methodLink RX6 113 yX6_isProduct ∈ zTbl := zin_t 985 (by decide +kernel) rfl
theorem zw_987 : Cond.instanceMethod yX6_isProduct ∈ zTbl := zin_t 987 (by decide +kernel) rfl
theorem zw_988 : Cond.code yX6_isProduct cX6_isProduct 3 (some .boolean) ∈ zTbl := zin_t 988 (by decide +kernel) rfl
theorem zw_989 : Cond.methodLink RX6 117 yX6_areAlike ∈ zTbl := zin_t 989 (by decide +kernel) rfl
theorem zw_991 : Cond.instanceMethod yX6_areAlike ∈ zTbl := zin_t 991 (by decide +kernel) rfl
theorem zw_992 : Cond.code yX6_areAlike cX6_areAlike 7 (some .boolean) ∈ zTbl := zin_t 992 (by decide +kernel) rfl
theorem zw_993 : Cond.methodLink RX6 120 yX6_turn ∈ zTbl := zin_t 993 (by decide +kernel) rfl
theorem zw_995 : Cond.instanceMethod yX6_turn ∈ zTbl := zin_t 995 (by decide +kernel) rfl
theorem zw_996 : Cond.code yX6_turn cX6_turn 7 none ∈ zTbl := zin_t 996 (by decide +kernel) rfl
theorem zw_997 : Cond.methodLink RX6 109 yX6_add ∈ zTbl := zin_t 997 (by decide +kernel) rfl
theorem zw_999 : Cond.instanceMethod yX6_add ∈ zTbl := zin_t 999 (by decide +kernel) rfl
theorem zw_1000 : Cond.code yX6_add cX6_add 7 none ∈ zTbl := zin_t 1000 (by decide +kernel) rfl
theorem zw_1005 : Cond.methodLink RX6 136 yX6_reduceAll ∈ zTbl := zin_t 1005 (by decide +kernel) rfl
theorem zw_1007 : Cond.instanceMethod yX6_reduceAll ∈ zTbl := zin_t 1007 (by decide +kernel) rfl
theorem zw_1008 : Cond.code yX6_reduceAll cX6_reduceAll 3 (some .int) ∈ zTbl := zin_t 1008 (by decide +kernel) rfl
theorem zw_1009 : Cond.methodLink RX6 133 yX6_reducesOnce ∈ zTbl := zin_t 1009 (by decide +kernel) rfl
theorem zw_1011 : Cond.instanceMethod yX6_reducesOnce ∈ zTbl := zin_t 1011 (by decide +kernel) rfl
theorem zw_1012 : Cond.code yX6_reducesOnce cX6_reducesOnce 5 (some .boolean) ∈ zTbl := zin_t 1012 (by decide +kernel) rfl
theorem zw_1013 : Cond.methodLink RX6 123 yX6_isNothing ∈ zTbl := zin_t 1013 (by decide +kernel) rfl
theorem zw_1015 : Cond.instanceMethod yX6_isNothing ∈ zTbl := zin_t 1015 (by decide +kernel) rfl
theorem zw_1016 : Cond.code yX6_isNothing cX6_isNothing 7 (some .boolean) ∈ zTbl := zin_t 1016 (by decide +kernel) rfl
theorem zw_1017 : Cond.methodLink RX6 126 yX6_takeOut ∈ zTbl := zin_t 1017 (by decide +kernel) rfl
theorem zw_1019 : Cond.instanceMethod yX6_takeOut ∈ zTbl := zin_t 1019 (by decide +kernel) rfl
theorem zw_1020 : Cond.code yX6_takeOut cX6_takeOut 4 none ∈ zTbl := zin_t 1020 (by decide +kernel) rfl
theorem zw_1021 : Cond.methodLink RX6 130 yX6_third ∈ zTbl := zin_t 1021 (by decide +kernel) rfl
theorem zw_1023 : Cond.instanceMethod yX6_third ∈ zTbl := zin_t 1023 (by decide +kernel) rfl
theorem zw_1024 : Cond.code yX6_third cX6_third 7 (some .int) ∈ zTbl := zin_t 1024 (by decide +kernel) rfl
theorem zw_1029 : Cond.constant RX6 141 (65535 : Int32) ∈ zTbl := zin_t 1029 (by decide +kernel) rfl
theorem zw_1030 : Cond.methodLink RX6 142 yX6_draw ∈ zTbl := zin_t 1030 (by decide +kernel) rfl
theorem zw_1031 : Cond.static yX6_draw ∈ zTbl := zin_t 1031 (by decide +kernel) rfl
theorem zw_1032 : Cond.code yX6_draw cX6_draw 1 (some .int) ∈ zTbl := zin_t 1032 (by decide +kernel) rfl
theorem zw_1033 : Cond.constant RX6 140 (65536 : Int32) ∈ zTbl := zin_t 1033 (by decide +kernel) rfl
theorem zw_1042 : Cond.methodLink RX6 151 yX6_flat ∈ zTbl := zin_t 1042 (by decide +kernel) rfl
theorem zw_1044 : Cond.instanceMethod yX6_flat ∈ zTbl := zin_t 1044 (by decide +kernel) rfl
theorem zw_1045 : Cond.code yX6_flat cX6_flat 5 (some .int) ∈ zTbl := zin_t 1045 (by decide +kernel) rfl
theorem zw_1046 : Cond.methodLink RX6 148 yX6_rank ∈ zTbl := zin_t 1046 (by decide +kernel) rfl
theorem zw_1048 : Cond.instanceMethod yX6_rank ∈ zTbl := zin_t 1048 (by decide +kernel) rfl
theorem zw_1049 : Cond.code yX6_rank cX6_rank 9 (some .int) ∈ zTbl := zin_t 1049 (by decide +kernel) rfl
theorem zw_1050 : Cond.methodLink RX6 145 yX6_inverse ∈ zTbl := zin_t 1050 (by decide +kernel) rfl
theorem zw_1052 : Cond.instanceMethod yX6_inverse ∈ zTbl := zin_t 1052 (by decide +kernel) rfl
theorem zw_1053 : Cond.code yX6_inverse cX6_inverse 4 (some .int) ∈ zTbl := zin_t 1053 (by decide +kernel) rfl
theorem zw_1062 : Cond.methodLink RX6 166 yX6_leastOf ∈ zTbl := zin_t 1062 (by decide +kernel) rfl
theorem zw_1064 : Cond.instanceMethod yX6_leastOf ∈ zTbl := zin_t 1064 (by decide +kernel) rfl
theorem zw_1065 : Cond.code yX6_leastOf cX6_leastOf 5 (some .int) ∈ zTbl := zin_t 1065 (by decide +kernel) rfl
theorem zw_1066 : Cond.methodLink RX6 163 yX6_fewest ∈ zTbl := zin_t 1066 (by decide +kernel) rfl
theorem zw_1068 : Cond.instanceMethod yX6_fewest ∈ zTbl := zin_t 1068 (by decide +kernel) rfl
theorem zw_1069 : Cond.code yX6_fewest cX6_fewest 11 (some .int) ∈ zTbl := zin_t 1069 (by decide +kernel) rfl
theorem zw_1070 : Cond.methodLink RX6 157 yX6_single ∈ zTbl := zin_t 1070 (by decide +kernel) rfl
theorem zw_1072 : Cond.instanceMethod yX6_single ∈ zTbl := zin_t 1072 (by decide +kernel) rfl
theorem zw_1073 : Cond.code yX6_single cX6_single 11 (some .int) ∈ zTbl := zin_t 1073 (by decide +kernel) rfl
theorem zw_1074 : Cond.methodLink RX6 160 yX6_learn ∈ zTbl := zin_t 1074 (by decide +kernel) rfl
theorem zw_1076 : Cond.instanceMethod yX6_learn ∈ zTbl := zin_t 1076 (by decide +kernel) rfl
theorem zw_1077 : Cond.code yX6_learn cX6_learn 3 none ∈ zTbl := zin_t 1077 (by decide +kernel) rfl
theorem zw_1086 : Cond.methodLink RX6 195 yX6_wrong ∈ zTbl := zin_t 1086 (by decide +kernel) rfl
theorem zw_1088 : Cond.instanceMethod yX6_wrong ∈ zTbl := zin_t 1088 (by decide +kernel) rfl
theorem zw_1089 : Cond.code yX6_wrong cX6_wrong 5 (some .int) ∈ zTbl := zin_t 1089 (by decide +kernel) rfl
theorem zw_1090 : Cond.methodLink RX6 169 yX6_made ∈ zTbl := zin_t 1090 (by decide +kernel) rfl
theorem zw_1092 : Cond.instanceMethod yX6_made ∈ zTbl := zin_t 1092 (by decide +kernel) rfl
theorem zw_1093 : Cond.code yX6_made cX6_made 5 (some .int) ∈ zTbl := zin_t 1093 (by decide +kernel) rfl
theorem zw_1094 : Cond.methodLink RX6 198 yX6_growth ∈ zTbl := zin_t 1094 (by decide +kernel) rfl
theorem zw_1096 : Cond.instanceMethod yX6_growth ∈ zTbl := zin_t 1096 (by decide +kernel) rfl
theorem zw_1097 : Cond.code yX6_growth cX6_growth 6 (some .int) ∈ zTbl := zin_t 1097 (by decide +kernel) rfl
theorem zw_1098 : Cond.methodLink RX6 192 yX6_numbers ∈ zTbl := zin_t 1098 (by decide +kernel) rfl
theorem zw_1100 : Cond.instanceMethod yX6_numbers ∈ zTbl := zin_t 1100 (by decide +kernel) rfl
theorem zw_1101 : Cond.code yX6_numbers cX6_numbers 6 (some .int) ∈ zTbl := zin_t 1101 (by decide +kernel) rfl
theorem zw_1102 : Cond.methodLink RX6 201 yX6_additions ∈ zTbl := zin_t 1102 (by decide +kernel) rfl
theorem zw_1104 : Cond.instanceMethod yX6_additions ∈ zTbl := zin_t 1104 (by decide +kernel) rfl
theorem zw_1105 : Cond.code yX6_additions cX6_additions 5 (some .int) ∈ zTbl := zin_t 1105 (by decide +kernel) rfl
theorem zw_1106 : Cond.methodLink RX6 181 yX6_laySets ∈ zTbl := zin_t 1106 (by decide +kernel) rfl
theorem zw_1108 : Cond.instanceMethod yX6_laySets ∈ zTbl := zin_t 1108 (by decide +kernel) rfl
theorem zw_1109 : Cond.code yX6_laySets cX6_laySets 6 none ∈ zTbl := zin_t 1109 (by decide +kernel) rfl
theorem zw_1110 : Cond.methodLink RX6 184 yX6_shares ∈ zTbl := zin_t 1110 (by decide +kernel) rfl
theorem zw_1112 : Cond.instanceMethod yX6_shares ∈ zTbl := zin_t 1112 (by decide +kernel) rfl
theorem zw_1113 : Cond.code yX6_shares cX6_shares 7 (some .boolean) ∈ zTbl := zin_t 1113 (by decide +kernel) rfl
theorem zw_1114 : Cond.methodLink RX6 178 yX6_common ∈ zTbl := zin_t 1114 (by decide +kernel) rfl
theorem zw_1116 : Cond.instanceMethod yX6_common ∈ zTbl := zin_t 1116 (by decide +kernel) rfl
theorem zw_1117 : Cond.code yX6_common cX6_common 5 (some .int) ∈ zTbl := zin_t 1117 (by decide +kernel) rfl
theorem zw_1118 : Cond.methodLink RX6 188 yX6_additionsOf ∈ zTbl := zin_t 1118 (by decide +kernel) rfl
theorem zw_1120 : Cond.instanceMethod yX6_additionsOf ∈ zTbl := zin_t 1120 (by decide +kernel) rfl
theorem zw_1121 : Cond.code yX6_additionsOf cX6_additionsOf 5 (some .int) ∈ zTbl := zin_t 1121 (by decide +kernel) rfl
theorem zw_1130 : Cond.methodLink RX6 208 yX6_canAsk ∈ zTbl := zin_t 1130 (by decide +kernel) rfl
theorem zw_1132 : Cond.instanceMethod yX6_canAsk ∈ zTbl := zin_t 1132 (by decide +kernel) rfl
theorem zw_1133 : Cond.code yX6_canAsk cX6_canAsk 6 (some .boolean) ∈ zTbl := zin_t 1133 (by decide +kernel) rfl
theorem zw_1134 : Cond.methodLink RX6 211 yX6_times ∈ zTbl := zin_t 1134 (by decide +kernel) rfl
theorem zw_1136 : Cond.instanceMethod yX6_times ∈ zTbl := zin_t 1136 (by decide +kernel) rfl
theorem zw_1137 : Cond.code yX6_times cX6_times 7 (some .int) ∈ zTbl := zin_t 1137 (by decide +kernel) rfl
theorem zw_1138 : Cond.methodLink RX6 205 yX6_digit ∈ zTbl := zin_t 1138 (by decide +kernel) rfl
theorem zw_1140 : Cond.instanceMethod yX6_digit ∈ zTbl := zin_t 1140 (by decide +kernel) rfl
theorem zw_1141 : Cond.code yX6_digit cX6_digit 7 (some .int) ∈ zTbl := zin_t 1141 (by decide +kernel) rfl
theorem zat_X5_60 : ∀ w ∈ (vx_atS RX5 60 "java/lang/IllegalArgumentException" ["java/lang/RuntimeException", "java/lang/Exception"]).filter goodWord, w ∈ zTbl := by decide +kernel
theorem zbad_X5_60 : ∀ w ∈ (vx_atS RX5 60 "java/lang/IllegalArgumentException" ["java/lang/RuntimeException", "java/lang/Exception"]).filter (fun w => !goodWord w), w = Cond.castable "java/lang/IllegalArgumentException" "java/lang/IllegalArgumentException" ∨ ∃ y ∈ zDecls, w = Cond.declares y := by decide +kernel
theorem zgd_X5_60 : ∀ w ∈ vx_atS RX5 60 "java/lang/IllegalArgumentException" ["java/lang/RuntimeException", "java/lang/Exception"], vx_ot w = true := by decide +kernel
theorem zat_X5_67 : ∀ w ∈ (vx_atS RX5 67 "java/lang/IllegalStateException" ["java/lang/RuntimeException", "java/lang/Exception"]).filter goodWord, w ∈ zTbl := by decide +kernel
theorem zbad_X5_67 : ∀ w ∈ (vx_atS RX5 67 "java/lang/IllegalStateException" ["java/lang/RuntimeException", "java/lang/Exception"]).filter (fun w => !goodWord w), w = Cond.castable "java/lang/IllegalStateException" "java/lang/IllegalStateException" ∨ ∃ y ∈ zDecls, w = Cond.declares y := by decide +kernel
theorem zgd_X5_67 : ∀ w ∈ vx_atS RX5 67 "java/lang/IllegalStateException" ["java/lang/RuntimeException", "java/lang/Exception"], vx_ot w = true := by decide +kernel
theorem zat_X5_258 : ∀ w ∈ (vx_atS RX5 258 "java/lang/IndexOutOfBoundsException" ["java/lang/RuntimeException", "java/lang/Exception"]).filter goodWord, w ∈ zTbl := by decide +kernel
theorem zbad_X5_258 : ∀ w ∈ (vx_atS RX5 258 "java/lang/IndexOutOfBoundsException" ["java/lang/RuntimeException", "java/lang/Exception"]).filter (fun w => !goodWord w), w = Cond.castable "java/lang/IndexOutOfBoundsException" "java/lang/IndexOutOfBoundsException" ∨ ∃ y ∈ zDecls, w = Cond.declares y := by decide +kernel
theorem zgd_X5_258 : ∀ w ∈ vx_atS RX5 258 "java/lang/IndexOutOfBoundsException" ["java/lang/RuntimeException", "java/lang/Exception"], vx_ot w = true := by decide +kernel
theorem zfitN : ∀ n ∈ ["java/lang/RuntimeException", "java/lang/Exception"], Bundle.fit n = true := by decide +kernel
theorem zcX0 : zCls 0 RX0 TX0 5 tyX0 := ⟨rfl, zcl0m, tyX0_ok, nmX0⟩
theorem znwX0 : ∀ j, j < 5 → defaultValue (tyX0 j) = vp_V [.int 0, .int 0, .int 0, .null, .int 0] j := fun j hj => by rcases (show j = 0 ∨ j = 1 ∨ j = 2 ∨ j = 3 ∨ j = 4 by omega) with rfl | rfl | rfl | rfl | rfl <;> rfl
theorem zcX1 : zCls 1 RX1 TX1 3 tyX1 := ⟨rfl, zcl1m, tyX1_ok, nmX1⟩
theorem znwX1 : ∀ j, j < 3 → defaultValue (tyX1 j) = vp_V [.null, .int 0, .int 0] j := fun j hj => by rcases (show j = 0 ∨ j = 1 ∨ j = 2 by omega) with rfl | rfl | rfl <;> rfl
theorem zcX2 : zCls 2 RX2 TX2 3 tyX2 := ⟨rfl, zcl2m, tyX2_ok, nmX2⟩
theorem znwX2 : ∀ j, j < 3 → defaultValue (tyX2 j) = vp_V [.null, .null, .int 0] j := fun j hj => by rcases (show j = 0 ∨ j = 1 ∨ j = 2 by omega) with rfl | rfl | rfl <;> rfl
theorem zcX3 : zCls 3 RX3 TX3 2 tyX3 := ⟨rfl, zcl3m, tyX3_ok, nmX3⟩
theorem znwX3 : ∀ j, j < 2 → defaultValue (tyX3 j) = vp_V [.null, .int 0] j := fun j hj => by rcases (show j = 0 ∨ j = 1 by omega) with rfl | rfl <;> rfl
theorem zcX4 : zCls 4 RX4 TX4 4 tyX4 := ⟨rfl, zcl4m, tyX4_ok, nmX4⟩
theorem znwX4 : ∀ j, j < 4 → defaultValue (tyX4 j) = vp_V [.null, .int 0, .null, .int 0] j := fun j hj => by rcases (show j = 0 ∨ j = 1 ∨ j = 2 ∨ j = 3 by omega) with rfl | rfl | rfl | rfl <;> rfl
theorem zcX5 : zCls 5 RX5 TX5 9 tyX5 := ⟨rfl, zcl5m, tyX5_ok, nmX5⟩
theorem znwX5 : ∀ j, j < 9 → defaultValue (tyX5 j) = vp_V [.null, .null, .null, .null, .null, .null, .int 0, .int 0, .int 0] j := fun j hj => by rcases (show j = 0 ∨ j = 1 ∨ j = 2 ∨ j = 3 ∨ j = 4 ∨ j = 5 ∨ j = 6 ∨ j = 7 ∨ j = 8 by omega) with rfl | rfl | rfl | rfl | rfl | rfl | rfl | rfl | rfl <;> rfl
theorem zcX6 : zCls 6 RX6 TX6 19 tyX6 := ⟨rfl, zcl6m, tyX6_ok, nmX6⟩
theorem znwX6 : ∀ j, j < 19 → defaultValue (tyX6 j) = vp_V [.int 0, .int 0, .int 0, .null, .null, .null, .int 0, .null, .null, .null, .null, .null, .null, .null, .null, .int 0, .null, .int 0, .int 0] j := fun j hj => by rcases (show j = 0 ∨ j = 1 ∨ j = 2 ∨ j = 3 ∨ j = 4 ∨ j = 5 ∨ j = 6 ∨ j = 7 ∨ j = 8 ∨ j = 9 ∨ j = 10 ∨ j = 11 ∨ j = 12 ∨ j = 13 ∨ j = 14 ∨ j = 15 ∨ j = 16 ∨ j = 17 ∨ j = 18 by omega) with rfl | rfl | rfl | rfl | rfl | rfl | rfl | rfl | rfl | rfl | rfl | rfl | rfl | rfl | rfl | rfl | rfl | rfl | rfl <;> rfl
theorem zAO3 : zAOs "Bilinearium$Cube" := fun _ h => h.1
theorem zAO4 : zAOs "Bilinearium$Way" := fun _ h => h.2
end
section
def fX1_init (a0 : Nat) (S : ZS) : Option ZS :=
  Option.bind (zpF (zna S 0 64) a0 1 0 (.ref S.2)) fun S1 =>
  some S1
def fX2_init (a0 : Nat) (S : ZS) : Option ZS :=
  Option.bind (zpF (zna S 0 105) a0 2 0 (.ref S.2)) fun S1 =>
  Option.bind (zpF (zna S1 1 64) a0 2 1 (.ref S1.2)) fun S2 =>
  some S2
def fX3_init (a0 : Nat) (S : ZS) : Option ZS :=
  Option.bind (zpF (zna S 1 120) a0 3 0 (.ref S.2)) fun S1 =>
  some S1
def fX5_init (a0 : Nat) (S : ZS) : Option ZS :=
  Option.bind (zpF (zna S 3 16) a0 5 0 (.ref S.2)) fun S1 =>
  Option.bind (zpF (zna S1 4 16) a0 5 1 (.ref S1.2)) fun S2 =>
  Option.bind (fX1_init S2.2 (zno S2 1 [.null, .int 0, .int 0])) fun x3 =>
  Option.bind (zpF x3 a0 5 2 (.ref S2.2)) fun S4 =>
  Option.bind (fX2_init S4.2 (zno S4 2 [.null, .null, .int 0])) fun x5 =>
  Option.bind (zpF x5 a0 5 3 (.ref S4.2)) fun S6 =>
  Option.bind (fX3_init S6.2 (zno S6 3 [.null, .int 0])) fun x7 =>
  Option.bind (zpF x7 a0 5 4 (.ref S6.2)) fun S8 =>
  Option.bind (zpF (zna S8 0 64) a0 5 5 (.ref S8.2)) fun S9 =>
  Option.bind (zpF S9 a0 5 6 (.int (2 : Int32))) fun S10 =>
  Option.bind (zpF S10 a0 5 7 (.int (0 : Int32))) fun S11 =>
  Option.bind (zpF S11 a0 5 8 (.int (0 : Int32))) fun S12 =>
  some S12
def fX5_prime_J25 (l0 : Nat) (l1 : Int32) (S : ZS) : Option ((Int32 × ZS) ⊕ ZX) :=
  Option.bind (zgI S l0 5 7) fun v1 =>
  (if v1 ≤ 0 then
  Option.bind (zgI S l0 5 6) fun v2 =>
  Option.bind (zpF S l0 5 6 (.int l1)) fun S3 =>
  some (.inl (v2, S3))
  else
  some (.inr ("java/lang/IllegalStateException", S.1)))
def fX5_prime (a0 : Nat) (a1 : Int32) (S : ZS) : Option ((Int32 × ZS) ⊕ ZX) :=
  (if a1 = (2 : Int32) then
  fX5_prime_J25 a0 a1 S
  else
  (if a1 = (3 : Int32) then
  fX5_prime_J25 a0 a1 S
  else
  (if a1 = (5 : Int32) then
  fX5_prime_J25 a0 a1 S
  else
  some (.inr ("java/lang/IllegalArgumentException", S.1)))))
def fX5_needSize_J10  (S : ZS) : Option ((Unit × ZS) ⊕ ZX) :=
  some (.inr ("java/lang/IllegalArgumentException", S.1))
def fX5_needSize (a0 : Int32) (S : ZS) : Option ((Unit × ZS) ⊕ ZX) :=
  (if a0 < (1 : Int32) then
  fX5_needSize_J10  S
  else
  (if a0 ≤ (4 : Int32) then
  some (.inl ((), S))
  else
  fX5_needSize_J10  S))
def fX0_init (a0 : Nat) (a1 : Int32) (a2 : Int32) (a3 : Int32) (S : ZS) : Option ZS :=
  Option.bind (zpF S a0 0 0 (.int a1)) fun S1 =>
  Option.bind (zpF S1 a0 0 1 (.int a2)) fun S2 =>
  Option.bind (zpF S2 a0 0 2 (.int a3)) fun S3 =>
  Option.bind (zpF (zna S3 0 64) a0 0 3 (.ref S3.2)) fun S4 =>
  Option.bind (zpF S4 a0 0 4 (.int (0 : Int32))) fun S5 =>
  some S5
def fX5_addCube_J31  (S : ZS) : Option ((Nat × ZS) ⊕ ZX) :=
  some (.inr ("java/lang/IllegalStateException", S.1))
def fX5_addCube (a0 : Nat) (a1 : Int32) (a2 : Int32) (a3 : Int32) (S : ZS) : Option ((Nat × ZS) ⊕ ZX) :=
  zbT (fX5_needSize a1 S) fun x1 =>
  zbT (fX5_needSize a2 x1.2) fun x2 =>
  zbT (fX5_needSize a3 x2.2) fun x3 =>
  Option.bind (zgI x3.2 a0 5 7) fun v4 =>
  (if v4 < 0 then
  fX5_addCube_J31  x3.2
  else
  Option.bind (zgI x3.2 a0 5 7) fun v5 =>
  Option.bind (zgR x3.2 a0 5 0) fun v6 =>
  Option.bind (zal x3.2 v6) fun v7 =>
  (if v5 < v7 then
  Option.bind (fX0_init (Prod.snd x3.2) a1 a2 a3 (zno x3.2 0 [.int 0, .int 0, .int 0, .null, .int 0])) fun x8 =>
  Option.bind (zgR x8 a0 5 0) fun v9 =>
  Option.bind (zgI x8 a0 5 7) fun v10 =>
  Option.bind (zsQ x8 v9 3 0 v10 (Prod.snd x3.2)) fun S11 =>
  Option.bind (zgI S11 a0 5 7) fun v12 =>
  Option.bind (zpF S11 a0 5 7 (.int (v12 + (1 : Int32)))) fun S13 =>
  some (.inl ((Prod.snd x3.2), S13))
  else
  fX5_addCube_J31  x3.2))
def fX5_cube (a0 : Nat) (a1 : Int32) (a2 : Int32) (a3 : Int32) (S : ZS) : Option ((Int32 × ZS) ⊕ ZX) :=
  zbT (zcl S a0 5 (fX5_addCube a0 a1 a2 a3 S)) fun x1 =>
  Option.bind (zgI x1.2 a0 5 7) fun v2 =>
  some (.inl (v2 - (1 : Int32), x1.2))
def fX0_indexOf (a0 : Int32) (a1 : Int32) (a2 : Int32) : Option Int32 :=
  some ((((a0 * (4 : Int32)) + a1) * (4 : Int32)) + a2)
def fX5_put_J18  (S : ZS) : Option ZS :=
  some S
def fX5_put (a0 : Nat) (a1 : Int32) (a2 : Int32) (S : ZS) : Option ZS :=
  (if a1 < 0 then
  fX5_put_J18  S
  else
  Option.bind (zal S a0) fun v1 =>
  (if v1 ≤ a1 then
  fX5_put_J18  S
  else
  Option.bind (zsI S a0 0 a1 a2) fun S2 =>
  fX5_put_J18  S2))
def fX0_enter (a0 : Nat) (a1 : Int32) (a2 : Int32) (a3 : Int32) (a4 : Int32) (S : ZS) : Option ZS :=
  Option.bind (zgR S a0 0 3) fun v1 =>
  Option.bind (fX0_indexOf a1 a2 a3) fun x2 =>
  Option.bind (fX5_put v1 x2 a4 S) fun x3 =>
  some x3
def fX5_matrices_J116 (l0 : Nat) (s0 : Nat) (s1 : Int32) (S : ZS) : Option ((Int32 × ZS) ⊕ ZX) :=
  Option.bind (zpF S s0 0 4 (.int s1)) fun S5 =>
  Option.bind (zgI S5 l0 5 7) fun v6 =>
  some (.inl (v6 - (1 : Int32), S5))
def fX5_matrices_J115 (l0 : Nat) (s0 : Nat) (S : ZS) : Option ((Int32 × ZS) ⊕ ZX) :=
  fX5_matrices_J116 l0 s0 (0 : Int32) S
def fX5_matrices_B48 (l0 : Nat) (l1 : Int32) (l2 : Int32) (l3 : Int32) (l4 : Nat) (l5 : Int32) (l6 : Int32) (t48 : (Int32 × ZS)) : Option ((Int32 × ZS) ⊕ ((Int32 × ZS) ⊕ ((Int32 × ZS) ⊕ ((Int32 × ZS) ⊕ ZX)))) :=
  (if l3 ≤ t48.1 then
  zex (some (.inl (l6 + (1 : Int32), t48.2)))
  else
  Option.bind (zcl t48.2 l4 0 (fX0_enter l4 ((l5 * l2) + l6) ((l6 * l3) + t48.1) ((l5 * l3) + t48.1) (1 : Int32) t48.2)) fun x7 =>
  some (.inl (t48.1 + (1 : Int32), x7)))
def fX5_matrices_B39 (l0 : Nat) (l1 : Int32) (l2 : Int32) (l3 : Int32) (l4 : Nat) (l5 : Int32) (t39 : (Int32 × ZS)) : Option ((Int32 × ZS) ⊕ ((Int32 × ZS) ⊕ ((Int32 × ZS) ⊕ ZX))) :=
  (if l2 ≤ t39.1 then
  zex (some (.inl (l5 + (1 : Int32), t39.2)))
  else
  ziter (fX5_matrices_B48 l0 l1 l2 l3 l4 l5 t39.1) zF ((0 : Int32), t39.2))
def fX5_matrices_B30 (l0 : Nat) (l1 : Int32) (l2 : Int32) (l3 : Int32) (l4 : Nat) (t30 : (Int32 × ZS)) : Option ((Int32 × ZS) ⊕ ((Int32 × ZS) ⊕ ZX)) :=
  (if l1 ≤ t30.1 then
  zex ((if l1 = l2 then
  (if l2 = l3 then
  fX5_matrices_J116 l0 l4 l1 t30.2
  else
  fX5_matrices_J115 l0 l4 t30.2)
  else
  fX5_matrices_J115 l0 l4 t30.2))
  else
  ziter (fX5_matrices_B39 l0 l1 l2 l3 l4 t30.1) zF ((0 : Int32), t30.2))
def fX5_matrices (a0 : Nat) (a1 : Int32) (a2 : Int32) (a3 : Int32) (S : ZS) : Option ((Int32 × ZS) ⊕ ZX) :=
  zbT (fX5_needSize a1 S) fun x1 =>
  zbT (fX5_needSize a2 x1.2) fun x2 =>
  zbT (fX5_needSize a3 x2.2) fun x3 =>
  zbT (zcl x3.2 a0 5 (fX5_addCube a0 (a1 * a2) (a2 * a3) (a1 * a3) x3.2)) fun x4 =>
  ziter (fX5_matrices_B30 a0 a1 a2 a3 x4.1) zF ((0 : Int32), x4.2)
def fX5_polynomials_B32 (l0 : Nat) (l1 : Int32) (l2 : Int32) (l3 : Nat) (l4 : Int32) (t32 : (Int32 × ZS)) : Option ((Int32 × ZS) ⊕ ((Int32 × ZS) ⊕ ((Int32 × ZS) ⊕ ZX))) :=
  (if l2 ≤ t32.1 then
  zex (some (.inl (l4 + (1 : Int32), t32.2)))
  else
  Option.bind (zcl t32.2 l3 0 (fX0_enter l3 l4 t32.1 (l4 + t32.1) (1 : Int32) t32.2)) fun x5 =>
  some (.inl (t32.1 + (1 : Int32), x5)))
def fX5_polynomials_B23 (l0 : Nat) (l1 : Int32) (l2 : Int32) (l3 : Nat) (t23 : (Int32 × ZS)) : Option ((Int32 × ZS) ⊕ ((Int32 × ZS) ⊕ ZX)) :=
  (if l1 ≤ t23.1 then
  zex (Option.bind (zgI t23.2 l0 5 7) fun v4 =>
  some (.inl (v4 - (1 : Int32), t23.2)))
  else
  ziter (fX5_polynomials_B32 l0 l1 l2 l3 t23.1) zF ((0 : Int32), t23.2))
def fX5_polynomials (a0 : Nat) (a1 : Int32) (a2 : Int32) (S : ZS) : Option ((Int32 × ZS) ⊕ ZX) :=
  zbT (fX5_needSize a1 S) fun x1 =>
  zbT (fX5_needSize a2 x1.2) fun x2 =>
  zbT (zcl x2.2 a0 5 (fX5_addCube a0 a1 a2 ((a1 + a2) - (1 : Int32)) x2.2)) fun x3 =>
  ziter (fX5_polynomials_B23 a0 a1 a2 x3.1) zF ((0 : Int32), x3.2)
def fX5_remainder_J11 (s0 : Int32) : Option Int32 :=
  some s0
def fX5_remainder (a0 : Int32) (a1 : Int32) : Option Int32 :=
  (if a1 ≤ 0 then
  fX5_remainder_J11 (0 : Int32)
  else
  Option.bind (zrem a0 a1) fun v1 =>
  fX5_remainder_J11 v1)
def fX5_group_B18 (l0 : Nat) (l1 : Int32) (l2 : Nat) (l3 : Int32) (t18 : (Int32 × ZS)) : Option ((Int32 × ZS) ⊕ ((Int32 × ZS) ⊕ ((Int32 × ZS) ⊕ ZX))) :=
  (if l1 ≤ t18.1 then
  zex (some (.inl (l3 + (1 : Int32), t18.2)))
  else
  Option.bind (fX5_remainder (l3 + t18.1) l1) fun x3 =>
  Option.bind (zcl t18.2 l2 0 (fX0_enter l2 l3 t18.1 x3 (1 : Int32) t18.2)) fun x4 =>
  some (.inl (t18.1 + (1 : Int32), x4)))
def fX5_group_B10 (l0 : Nat) (l1 : Int32) (l2 : Nat) (t10 : (Int32 × ZS)) : Option ((Int32 × ZS) ⊕ ((Int32 × ZS) ⊕ ZX)) :=
  (if l1 ≤ t10.1 then
  zex (Option.bind (zgI t10.2 l0 5 7) fun v2 =>
  some (.inl (v2 - (1 : Int32), t10.2)))
  else
  ziter (fX5_group_B18 l0 l1 l2 t10.1) zF ((0 : Int32), t10.2))
def fX5_group (a0 : Nat) (a1 : Int32) (S : ZS) : Option ((Int32 × ZS) ⊕ ZX) :=
  zbT (zcl S a0 5 (fX5_addCube a0 a1 a1 a1 S)) fun x1 =>
  ziter (fX5_group_B10 a0 a1 x1.1) zF ((0 : Int32), x1.2)
def fX5_needCube_J23 (s0 : Option Nat) (S : ZS) : Option ((Nat × ZS) ⊕ ZX) :=
  zmq s0 (some (.inr ("java/lang/IndexOutOfBoundsException", S.1))) fun as0 =>
  some (.inl (as0, S))
def fX5_needCube_J22  (S : ZS) : Option ((Nat × ZS) ⊕ ZX) :=
  fX5_needCube_J23 none S
def fX5_needCube (a0 : Nat) (a1 : Int32) (S : ZS) : Option ((Nat × ZS) ⊕ ZX) :=
  (if a1 < 0 then
  fX5_needCube_J22  S
  else
  Option.bind (zgR S a0 5 0) fun v1 =>
  Option.bind (zal S v1) fun v2 =>
  (if v2 ≤ a1 then
  fX5_needCube_J22  S
  else
  Option.bind (zgR S a0 5 0) fun v3 =>
  Option.bind (zaQ S v3 3 a1) fun v4 =>
  fX5_needCube_J23 v4 S))
def fX5_isBelow_J14 (s0 : Int32) : Option Int32 :=
  Option.bind (zbl s0) fun w => some w
def fX5_isBelow_J13  : Option Int32 :=
  fX5_isBelow_J14 (0 : Int32)
def fX5_isBelow (a0 : Int32) (a1 : Int32) : Option Int32 :=
  (if a0 < 0 then
  fX5_isBelow_J13
  else
  (if a1 ≤ a0 then
  fX5_isBelow_J13
  else
  fX5_isBelow_J14 (1 : Int32)))
def fX5_needPlace_J33  (S : ZS) : Option ((Unit × ZS) ⊕ ZX) :=
  some (.inr ("java/lang/IndexOutOfBoundsException", S.1))
def fX5_needPlace (a0 : Nat) (a1 : Int32) (a2 : Int32) (a3 : Int32) (S : ZS) : Option ((Unit × ZS) ⊕ ZX) :=
  Option.bind (zgI S a0 0 0) fun v1 =>
  Option.bind (fX5_isBelow a1 v1) fun x2 =>
  (if x2 = 0 then
  fX5_needPlace_J33  S
  else
  Option.bind (zgI S a0 0 1) fun v3 =>
  Option.bind (fX5_isBelow a2 v3) fun x4 =>
  (if x4 = 0 then
  fX5_needPlace_J33  S
  else
  Option.bind (zgI S a0 0 2) fun v5 =>
  Option.bind (fX5_isBelow a3 v5) fun x6 =>
  (if x6 = 0 then
  fX5_needPlace_J33  S
  else
  some (.inl ((), S)))))
def fX5_get_J21 (s0 : Int32) (S : ZS) : Option Int32 :=
  some s0
def fX5_get_J20  (S : ZS) : Option Int32 :=
  fX5_get_J21 (0 : Int32) S
def fX5_get (a0 : Nat) (a1 : Int32) (S : ZS) : Option Int32 :=
  (if a1 < 0 then
  fX5_get_J20  S
  else
  Option.bind (zal S a0) fun v1 =>
  (if v1 ≤ a1 then
  fX5_get_J20  S
  else
  Option.bind (zaI S a0 0 a1) fun v2 =>
  fX5_get_J21 v2 S))
def fX0_numberAt (a0 : Nat) (a1 : Int32) (a2 : Int32) (a3 : Int32) (S : ZS) : Option Int32 :=
  Option.bind (zgR S a0 0 3) fun v1 =>
  Option.bind (fX0_indexOf a1 a2 a3) fun x2 =>
  Option.bind (fX5_get v1 x2 S) fun x3 =>
  some x3
def fX5_set_J30  (S : ZS) : Option ((Int32 × ZS) ⊕ ZX) :=
  some (.inr ("java/lang/IllegalArgumentException", S.1))
def fX5_set (a0 : Nat) (a1 : Int32) (a2 : Int32) (a3 : Int32) (a4 : Int32) (a5 : Int32) (S : ZS) : Option ((Int32 × ZS) ⊕ ZX) :=
  zbT (zcl S a0 5 (fX5_needCube a0 a1 S)) fun x1 =>
  zbT (fX5_needPlace x1.1 a2 a3 a4 x1.2) fun x2 =>
  (if a5 < 0 then
  fX5_set_J30  x2.2
  else
  Option.bind (zgI x2.2 a0 5 6) fun v3 =>
  (if a5 < v3 then
  Option.bind (zcl x2.2 x1.1 0 (fX0_numberAt x1.1 a2 a3 a4 x2.2)) fun x4 =>
  Option.bind (zcl x2.2 x1.1 0 (fX0_enter x1.1 a2 a3 a4 a5 x2.2)) fun x5 =>
  Option.bind (zpF x5 x1.1 0 4 (.int (0 : Int32))) fun S6 =>
  some (.inl (x4, S6))
  else
  fX5_set_J30  x2.2))
def fX5_needSide (a0 : Int32) (S : ZS) : Option ((Unit × ZS) ⊕ ZX) :=
  Option.bind (fX5_isBelow a0 (3 : Int32)) fun x1 =>
  (if x1 = 0 then
  some (.inr ("java/lang/IndexOutOfBoundsException", S.1))
  else
  some (.inl ((), S)))
def fX0_sizeOf_J27 (s0 : Int32) (S : ZS) : Option Int32 :=
  some s0
def fX0_sizeOf (a0 : Nat) (a1 : Int32) (S : ZS) : Option Int32 :=
  (if a1 = 0 then
  Option.bind (zgI S a0 0 0) fun v1 =>
  fX0_sizeOf_J27 v1 S
  else
  (if a1 = (1 : Int32) then
  Option.bind (zgI S a0 0 1) fun v2 =>
  fX0_sizeOf_J27 v2 S
  else
  Option.bind (zgI S a0 0 2) fun v3 =>
  fX0_sizeOf_J27 v3 S))
def fX5_needSlice (a0 : Nat) (a1 : Int32) (a2 : Int32) (S : ZS) : Option ((Unit × ZS) ⊕ ZX) :=
  Option.bind (zcl S a0 0 (fX0_sizeOf a0 a1 S)) fun x1 =>
  Option.bind (fX5_isBelow a2 x1) fun x2 =>
  (if x2 = 0 then
  some (.inr ("java/lang/IndexOutOfBoundsException", S.1))
  else
  some (.inl ((), S)))
def fX0_indexInSlice_J45 (s0 : Int32) : Option Int32 :=
  some s0
def fX0_indexInSlice (a0 : Int32) (a1 : Int32) (a2 : Int32) : Option Int32 :=
  (if a0 = 0 then
  Option.bind (fX0_indexOf a1 (a2 / (4 : Int32)) (a2 % (4 : Int32))) fun x1 =>
  fX0_indexInSlice_J45 x1
  else
  (if a0 = (1 : Int32) then
  Option.bind (fX0_indexOf (a2 / (4 : Int32)) a1 (a2 % (4 : Int32))) fun x2 =>
  fX0_indexInSlice_J45 x2
  else
  Option.bind (fX0_indexOf (a2 / (4 : Int32)) (a2 % (4 : Int32)) a1) fun x3 =>
  fX0_indexInSlice_J45 x3))
def fX0_addSlice_B3 (l0 : Nat) (l1 : Int32) (l2 : Int32) (l3 : Int32) (l4 : Int32) (l5 : Int32) (t3 : (Int32 × ZS)) : Option ((Int32 × ZS) ⊕ ZS) :=
  (if (16 : Int32) ≤ t3.1 then
  zex (some t3.2)
  else
  Option.bind (fX0_indexInSlice l1 l3 t3.1) fun x1 =>
  Option.bind (zgR t3.2 l0 0 3) fun v2 =>
  Option.bind (fX5_get v2 x1 t3.2) fun x3 =>
  Option.bind (zgR t3.2 l0 0 3) fun v4 =>
  Option.bind (fX0_indexInSlice l1 l2 t3.1) fun x5 =>
  Option.bind (fX5_get v4 x5 t3.2) fun x6 =>
  Option.bind (zgR t3.2 l0 0 3) fun v7 =>
  Option.bind (fX5_remainder (x3 + (l4 * x6)) l5) fun x8 =>
  Option.bind (fX5_put v7 x1 x8 t3.2) fun x9 =>
  some (.inl (t3.1 + (1 : Int32), x9)))
def fX0_addSlice (a0 : Nat) (a1 : Int32) (a2 : Int32) (a3 : Int32) (a4 : Int32) (a5 : Int32) (S : ZS) : Option ZS :=
  ziter (fX0_addSlice_B3 a0 a1 a2 a3 a4 a5) zF ((0 : Int32), S)
def fX0_countOthersThanZero_J27 (l0 : Nat) (l2 : Int32) (s0 : Int32) (s1 : Int32) (S : ZS) : Option ((Int32 × Int32) ⊕ Int32) :=
  some (.inl (s0 + s1, l2 + (1 : Int32)))
def fX0_countOthersThanZero_B4 (l0 : Nat) (S : ZS) (t4 : (Int32 × Int32)) : Option ((Int32 × Int32) ⊕ Int32) :=
  (if (64 : Int32) ≤ t4.2 then
  zex (some t4.1)
  else
  Option.bind (zgR S l0 0 3) fun v1 =>
  Option.bind (fX5_get v1 t4.2 S) fun x2 =>
  (if x2 = 0 then
  fX0_countOthersThanZero_J27 l0 t4.2 t4.1 (0 : Int32) S
  else
  fX0_countOthersThanZero_J27 l0 t4.2 t4.1 (1 : Int32) S))
def fX0_countOthersThanZero (a0 : Nat) (S : ZS) : Option Int32 :=
  ziter (fX0_countOthersThanZero_B4 a0 S) zF ((0 : Int32), (0 : Int32))
def fX5_move_J57  (S : ZS) : Option ((Int32 × ZS) ⊕ ZX) :=
  some (.inr ("java/lang/IllegalArgumentException", S.1))
def fX5_move (a0 : Nat) (a1 : Int32) (a2 : Int32) (a3 : Int32) (a4 : Int32) (a5 : Int32) (S : ZS) : Option ((Int32 × ZS) ⊕ ZX) :=
  zbT (zcl S a0 5 (fX5_needCube a0 a1 S)) fun x1 =>
  zbT (fX5_needSide a2 x1.2) fun x2 =>
  zbT (fX5_needSlice x1.1 a2 a3 x2.2) fun x3 =>
  zbT (fX5_needSlice x1.1 a2 a4 x3.2) fun x4 =>
  (if a3 = a4 then
  some (.inr ("java/lang/IllegalArgumentException", x4.2.1))
  else
  (if a5 < (1 : Int32) then
  fX5_move_J57  x4.2
  else
  Option.bind (zgI x4.2 a0 5 6) fun v5 =>
  (if a5 < v5 then
  Option.bind (zgI x4.2 a0 5 6) fun v6 =>
  Option.bind (zcl x4.2 x1.1 0 (fX0_addSlice x1.1 a2 a3 a4 a5 v6 x4.2)) fun x7 =>
  Option.bind (zpF x7 x1.1 0 4 (.int (0 : Int32))) fun S8 =>
  Option.bind (zcl S8 x1.1 0 (fX0_countOthersThanZero x1.1 S8)) fun x9 =>
  some (.inl (x9, S8))
  else
  fX5_move_J57  x4.2)))
def fX0_isLike_J38 (s0 : Int32) (S : ZS) : Option Int32 :=
  Option.bind (zbl s0) fun w => some w
def fX0_isLike_J37  (S : ZS) : Option Int32 :=
  fX0_isLike_J38 (0 : Int32) S
def fX0_isLike (a0 : Nat) (a1 : Nat) (S : ZS) : Option Int32 :=
  Option.bind (zgI S a0 0 0) fun v1 =>
  Option.bind (zgI S a1 0 0) fun v2 =>
  (if v1 = v2 then
  Option.bind (zgI S a0 0 1) fun v3 =>
  Option.bind (zgI S a1 0 1) fun v4 =>
  (if v3 = v4 then
  Option.bind (zgI S a0 0 2) fun v5 =>
  Option.bind (zgI S a1 0 2) fun v6 =>
  (if v5 = v6 then
  fX0_isLike_J38 (1 : Int32) S
  else
  fX0_isLike_J37  S)
  else
  fX0_isLike_J37  S)
  else
  fX0_isLike_J37  S)
def fX5_sum_B79 (l0 : Nat) (l3 : Nat) (l4 : Nat) (l5 : Nat) (l6 : Int32) (l7 : Int32) (t79 : (Int32 × ZS)) : Option ((Int32 × ZS) ⊕ ((Int32 × ZS) ⊕ ((Int32 × ZS) ⊕ ((Int32 × ZS) ⊕ ZX)))) :=
  Option.bind (zgI t79.2 l5 0 2) fun v11 =>
  (if v11 ≤ t79.1 then
  zex (some (.inl (l7 + (1 : Int32), t79.2)))
  else
  Option.bind (zcl t79.2 l3 0 (fX0_numberAt l3 l6 l7 t79.1 t79.2)) fun x12 =>
  Option.bind (zcl t79.2 l4 0 (fX0_numberAt l4 l6 l7 t79.1 t79.2)) fun x13 =>
  Option.bind (zgI t79.2 l0 5 6) fun v14 =>
  Option.bind (fX5_remainder (x12 + x13) v14) fun x15 =>
  Option.bind (zcl t79.2 l5 0 (fX0_enter l5 l6 l7 t79.1 x15 t79.2)) fun x16 =>
  some (.inl (t79.1 + (1 : Int32), x16)))
def fX5_sum_B66 (l0 : Nat) (l3 : Nat) (l4 : Nat) (l5 : Nat) (l6 : Int32) (t66 : (Int32 × ZS)) : Option ((Int32 × ZS) ⊕ ((Int32 × ZS) ⊕ ((Int32 × ZS) ⊕ ZX))) :=
  Option.bind (zgI t66.2 l5 0 1) fun v10 =>
  (if v10 ≤ t66.1 then
  zex (some (.inl (l6 + (1 : Int32), t66.2)))
  else
  ziter (fX5_sum_B79 l0 l3 l4 l5 l6 t66.1) zF ((0 : Int32), t66.2))
def fX5_sum_B53 (l0 : Nat) (l3 : Nat) (l4 : Nat) (l5 : Nat) (t53 : (Int32 × ZS)) : Option ((Int32 × ZS) ⊕ ((Int32 × ZS) ⊕ ZX)) :=
  Option.bind (zgI t53.2 l5 0 0) fun v8 =>
  (if v8 ≤ t53.1 then
  zex (Option.bind (zgI t53.2 l0 5 7) fun v9 =>
  some (.inl (v9 - (1 : Int32), t53.2)))
  else
  ziter (fX5_sum_B66 l0 l3 l4 l5 t53.1) zF ((0 : Int32), t53.2))
def fX5_sum (a0 : Nat) (a1 : Int32) (a2 : Int32) (S : ZS) : Option ((Int32 × ZS) ⊕ ZX) :=
  zbT (zcl S a0 5 (fX5_needCube a0 a1 S)) fun x1 =>
  zbT (zcl x1.2 a0 5 (fX5_needCube a0 a2 x1.2)) fun x2 =>
  Option.bind (zcl x2.2 x1.1 0 (fX0_isLike x1.1 x2.1 x2.2)) fun x3 =>
  (if x3 = 0 then
  some (.inr ("java/lang/IllegalArgumentException", x2.2.1))
  else
  Option.bind (zgI x2.2 x1.1 0 0) fun v4 =>
  Option.bind (zgI x2.2 x1.1 0 1) fun v5 =>
  Option.bind (zgI x2.2 x1.1 0 2) fun v6 =>
  zbT (zcl x2.2 a0 5 (fX5_addCube a0 v4 v5 v6 x2.2)) fun x7 =>
  ziter (fX5_sum_B53 a0 x1.1 x2.1 x7.1) zF ((0 : Int32), x7.2))
def fX5_quotient_J11 (s0 : Int32) : Option Int32 :=
  some s0
def fX5_quotient (a0 : Int32) (a1 : Int32) : Option Int32 :=
  (if a1 ≤ 0 then
  fX5_quotient_J11 (0 : Int32)
  else
  Option.bind (zdiv a0 a1) fun v1 =>
  fX5_quotient_J11 v1)
def fX5_numberOfProduct (a0 : Nat) (a1 : Nat) (a2 : Int32) (a3 : Int32) (a4 : Int32) (S : ZS) : Option Int32 :=
  Option.bind (zgI S a1 0 0) fun v1 =>
  Option.bind (fX5_quotient a2 v1) fun x2 =>
  Option.bind (zgI S a1 0 1) fun v3 =>
  Option.bind (fX5_quotient a3 v3) fun x4 =>
  Option.bind (zgI S a1 0 2) fun v5 =>
  Option.bind (fX5_quotient a4 v5) fun x6 =>
  Option.bind (zcl S a0 0 (fX0_numberAt a0 x2 x4 x6 S)) fun x7 =>
  Option.bind (zgI S a1 0 0) fun v8 =>
  Option.bind (fX5_remainder a2 v8) fun x9 =>
  Option.bind (zgI S a1 0 1) fun v10 =>
  Option.bind (fX5_remainder a3 v10) fun x11 =>
  Option.bind (zgI S a1 0 2) fun v12 =>
  Option.bind (fX5_remainder a4 v12) fun x13 =>
  Option.bind (zcl S a1 0 (fX0_numberAt a1 x9 x11 x13 S)) fun x14 =>
  some (x7 * x14)
def fX5_product_B78 (l0 : Nat) (l3 : Nat) (l4 : Nat) (l5 : Nat) (l6 : Int32) (l7 : Int32) (t78 : (Int32 × ZS)) : Option ((Int32 × ZS) ⊕ ((Int32 × ZS) ⊕ ((Int32 × ZS) ⊕ ((Int32 × ZS) ⊕ ZX)))) :=
  Option.bind (zgI t78.2 l5 0 2) fun v13 =>
  (if v13 ≤ t78.1 then
  zex (some (.inl (l7 + (1 : Int32), t78.2)))
  else
  Option.bind (fX5_numberOfProduct l3 l4 l6 l7 t78.1 t78.2) fun x14 =>
  Option.bind (zgI t78.2 l0 5 6) fun v15 =>
  Option.bind (fX5_remainder x14 v15) fun x16 =>
  Option.bind (zcl t78.2 l5 0 (fX0_enter l5 l6 l7 t78.1 x16 t78.2)) fun x17 =>
  some (.inl (t78.1 + (1 : Int32), x17)))
def fX5_product_B65 (l0 : Nat) (l3 : Nat) (l4 : Nat) (l5 : Nat) (l6 : Int32) (t65 : (Int32 × ZS)) : Option ((Int32 × ZS) ⊕ ((Int32 × ZS) ⊕ ((Int32 × ZS) ⊕ ZX))) :=
  Option.bind (zgI t65.2 l5 0 1) fun v12 =>
  (if v12 ≤ t65.1 then
  zex (some (.inl (l6 + (1 : Int32), t65.2)))
  else
  ziter (fX5_product_B78 l0 l3 l4 l5 l6 t65.1) zF ((0 : Int32), t65.2))
def fX5_product_B52 (l0 : Nat) (l3 : Nat) (l4 : Nat) (l5 : Nat) (t52 : (Int32 × ZS)) : Option ((Int32 × ZS) ⊕ ((Int32 × ZS) ⊕ ZX)) :=
  Option.bind (zgI t52.2 l5 0 0) fun v10 =>
  (if v10 ≤ t52.1 then
  zex (Option.bind (zgI t52.2 l0 5 7) fun v11 =>
  some (.inl (v11 - (1 : Int32), t52.2)))
  else
  ziter (fX5_product_B65 l0 l3 l4 l5 t52.1) zF ((0 : Int32), t52.2))
def fX5_product (a0 : Nat) (a1 : Int32) (a2 : Int32) (S : ZS) : Option ((Int32 × ZS) ⊕ ZX) :=
  zbT (zcl S a0 5 (fX5_needCube a0 a1 S)) fun x1 =>
  zbT (zcl x1.2 a0 5 (fX5_needCube a0 a2 x1.2)) fun x2 =>
  Option.bind (zgI x2.2 x1.1 0 0) fun v3 =>
  Option.bind (zgI x2.2 x2.1 0 0) fun v4 =>
  Option.bind (zgI x2.2 x1.1 0 1) fun v5 =>
  Option.bind (zgI x2.2 x2.1 0 1) fun v6 =>
  Option.bind (zgI x2.2 x1.1 0 2) fun v7 =>
  Option.bind (zgI x2.2 x2.1 0 2) fun v8 =>
  zbT (zcl x2.2 a0 5 (fX5_addCube a0 (v3 * v4) (v5 * v6) (v7 * v8) x2.2)) fun x9 =>
  ziter (fX5_product_B52 a0 x1.1 x2.1 x9.1) zF ((0 : Int32), x9.2)
def fX0_copied_B22 (l0 : Nat) (l1 : Nat) (t22 : (Int32 × ZS)) : Option ((Int32 × ZS) ⊕ (Nat × ZS)) :=
  (if (64 : Int32) ≤ t22.1 then
  zex (Option.bind (zgI t22.2 l0 0 4) fun v5 =>
  Option.bind (zpF t22.2 l1 0 4 (.int v5)) fun S6 =>
  some (l1, S6))
  else
  Option.bind (zgR t22.2 l1 0 3) fun v7 =>
  Option.bind (zgR t22.2 l0 0 3) fun v8 =>
  Option.bind (fX5_get v8 t22.1 t22.2) fun x9 =>
  Option.bind (fX5_put v7 t22.1 x9 t22.2) fun x10 =>
  some (.inl (t22.1 + (1 : Int32), x10)))
def fX0_copied (a0 : Nat) (S : ZS) : Option (Nat × ZS) :=
  Option.bind (zgI (zno S 0 [.int 0, .int 0, .int 0, .null, .int 0]) a0 0 0) fun v1 =>
  Option.bind (zgI (zno S 0 [.int 0, .int 0, .int 0, .null, .int 0]) a0 0 1) fun v2 =>
  Option.bind (zgI (zno S 0 [.int 0, .int 0, .int 0, .null, .int 0]) a0 0 2) fun v3 =>
  Option.bind (fX0_init S.2 v1 v2 v3 (zno S 0 [.int 0, .int 0, .int 0, .null, .int 0])) fun x4 =>
  ziter (fX0_copied_B22 a0 S.2) zF ((0 : Int32), x4)
def fX4_init (a0 : Nat) (a1 : Nat) (a2 : Int32) (S : ZS) : Option ZS :=
  Option.bind (zpF S a0 4 0 (.ref a1)) fun S1 =>
  Option.bind (zpF S1 a0 4 1 (.int a2)) fun S2 =>
  Option.bind (zpF (zna S2 0 40) a0 4 2 (.ref S2.2)) fun S3 =>
  Option.bind (zpF S3 a0 4 3 (.int (0 : Int32))) fun S4 =>
  some S4
def fX5_way_J25  (S : ZS) : Option ((Int32 × ZS) ⊕ ZX) :=
  some (.inr ("java/lang/IllegalStateException", S.1))
def fX5_way (a0 : Nat) (a1 : Int32) (S : ZS) : Option ((Int32 × ZS) ⊕ ZX) :=
  zbT (zcl S a0 5 (fX5_needCube a0 a1 S)) fun x1 =>
  Option.bind (zgI x1.2 a0 5 8) fun v2 =>
  (if v2 < 0 then
  fX5_way_J25  x1.2
  else
  Option.bind (zgI x1.2 a0 5 8) fun v3 =>
  Option.bind (zgR x1.2 a0 5 1) fun v4 =>
  Option.bind (zal x1.2 v4) fun v5 =>
  (if v3 < v5 then
  Option.bind (zgR x1.2 a0 5 1) fun v6 =>
  Option.bind (zgI x1.2 a0 5 8) fun v7 =>
  Option.bind (zcl (zno x1.2 4 [.null, .int 0, .null, .int 0]) x1.1 0 (fX0_copied x1.1 (zno x1.2 4 [.null, .int 0, .null, .int 0]))) fun x8 =>
  Option.bind (zgI x8.2 a0 5 6) fun v9 =>
  Option.bind (fX4_init (Prod.snd x1.2) x8.1 v9 x8.2) fun x10 =>
  Option.bind (zsQ x10 v6 4 4 v7 (Prod.snd x1.2)) fun S11 =>
  Option.bind (zgI S11 a0 5 8) fun v12 =>
  Option.bind (zpF S11 a0 5 8 (.int (v12 + (1 : Int32)))) fun S13 =>
  Option.bind (zgI S13 a0 5 8) fun v14 =>
  some (.inl (v14 - (1 : Int32), S13))
  else
  fX5_way_J25  x1.2))
def fX5_needWay_J23 (s0 : Option Nat) (S : ZS) : Option ((Nat × ZS) ⊕ ZX) :=
  zmq s0 (some (.inr ("java/lang/IndexOutOfBoundsException", S.1))) fun as0 =>
  some (.inl (as0, S))
def fX5_needWay_J22  (S : ZS) : Option ((Nat × ZS) ⊕ ZX) :=
  fX5_needWay_J23 none S
def fX5_needWay (a0 : Nat) (a1 : Int32) (S : ZS) : Option ((Nat × ZS) ⊕ ZX) :=
  (if a1 < 0 then
  fX5_needWay_J22  S
  else
  Option.bind (zgR S a0 5 1) fun v1 =>
  Option.bind (zal S v1) fun v2 =>
  (if v2 ≤ a1 then
  fX5_needWay_J22  S
  else
  Option.bind (zgR S a0 5 1) fun v3 =>
  Option.bind (zaQ S v3 4 a1) fun v4 =>
  fX5_needWay_J23 v4 S))
def fX5_power_B4 (l0 : Int32) (l1 : Int32) (t4 : (Int32 × Int32)) : Option ((Int32 × Int32) ⊕ Int32) :=
  (if l1 ≤ t4.2 then
  zex (some t4.1)
  else
  some (.inl (t4.1 * l0, t4.2 + (1 : Int32))))
def fX5_power (a0 : Int32) (a1 : Int32) : Option Int32 :=
  ziter (fX5_power_B4 a0 a1) zF ((1 : Int32), (0 : Int32))
def fX5_needCode (a0 : Nat) (a1 : Int32) (a2 : Int32) (S : ZS) : Option ((Unit × ZS) ⊕ ZX) :=
  Option.bind (zgI S a0 5 6) fun v1 =>
  Option.bind (fX5_power v1 a2) fun x2 =>
  Option.bind (fX5_isBelow a1 x2) fun x3 =>
  (if x3 = 0 then
  some (.inr ("java/lang/IllegalArgumentException", S.1))
  else
  some (.inl ((), S)))
def fX5_needRoom (a0 : Nat) (a1 : Int32) (S : ZS) : Option ((Unit × ZS) ⊕ ZX) :=
  Option.bind (zgI S a0 4 3) fun v1 =>
  (if (v1 + a1) ≤ (40 : Int32) then
  some (.inl ((), S))
  else
  some (.inr ("java/lang/IllegalStateException", S.1)))
def fX4_shiftOf (a0 : Int32) : Option Int32 :=
  some (a0 * (10 : Int32))
def fX4_append (a0 : Nat) (a1 : Int32) (a2 : Int32) (a3 : Int32) (S : ZS) : Option ZS :=
  Option.bind (zgR S a0 4 2) fun v1 =>
  Option.bind (zgI S a0 4 3) fun v2 =>
  Option.bind (fX4_shiftOf (0 : Int32)) fun x3 =>
  Option.bind (fX4_shiftOf (1 : Int32)) fun x4 =>
  Option.bind (fX4_shiftOf (2 : Int32)) fun x5 =>
  Option.bind (fX5_put v1 v2 (((a1 <<< (x3 &&& 31)) ||| (a2 <<< (x4 &&& 31))) ||| (a3 <<< (x5 &&& 31))) S) fun x6 =>
  Option.bind (zgI x6 a0 4 3) fun v7 =>
  Option.bind (zpF x6 a0 4 3 (.int (v7 + (1 : Int32)))) fun S8 =>
  some S8
def fX5_multiply (a0 : Nat) (a1 : Int32) (a2 : Int32) (a3 : Int32) (a4 : Int32) (S : ZS) : Option ((Int32 × ZS) ⊕ ZX) :=
  zbT (zcl S a0 5 (fX5_needWay a0 a1 S)) fun x1 =>
  Option.bind (zgR x1.2 x1.1 4 0) fun v2 =>
  Option.bind (zgI x1.2 v2 0 0) fun v3 =>
  zbT (zcl x1.2 a0 5 (fX5_needCode a0 a2 v3 x1.2)) fun x4 =>
  Option.bind (zgR x4.2 x1.1 4 0) fun v5 =>
  Option.bind (zgI x4.2 v5 0 1) fun v6 =>
  zbT (zcl x4.2 a0 5 (fX5_needCode a0 a3 v6 x4.2)) fun x7 =>
  Option.bind (zgR x7.2 x1.1 4 0) fun v8 =>
  Option.bind (zgI x7.2 v8 0 2) fun v9 =>
  zbT (zcl x7.2 a0 5 (fX5_needCode a0 a4 v9 x7.2)) fun x10 =>
  zbT (fX5_needRoom x1.1 (1 : Int32) x10.2) fun x11 =>
  Option.bind (zcl x11.2 x1.1 4 (fX4_append x1.1 a2 a3 a4 x11.2)) fun x12 =>
  Option.bind (zgI x12 x1.1 4 3) fun v13 =>
  some (.inl (v13, x12))
def fX5_codeOf (a0 : Int32) (a1 : Int32) (a2 : Int32) (a3 : Int32) : Option Int32 :=
  Option.bind (fX5_power a3 ((a1 - (1 : Int32)) - a2)) fun x1 =>
  some (a0 * x1)
def fX4_appendPlaces_J109 (l0 : Nat) (l1 : Int32) (l2 : Int32) (l3 : Int32) (S : ZS) : Option ((Int32 × ZS) ⊕ ((Int32 × ZS) ⊕ ((Int32 × ZS) ⊕ ZS))) :=
  some (.inl (l3 + (1 : Int32), S))
def fX4_appendPlaces_B28 (l0 : Nat) (l1 : Int32) (l2 : Int32) (t28 : (Int32 × ZS)) : Option ((Int32 × ZS) ⊕ ((Int32 × ZS) ⊕ ((Int32 × ZS) ⊕ ZS))) :=
  Option.bind (zgR t28.2 l0 4 0) fun v5 =>
  Option.bind (zgI t28.2 v5 0 2) fun v6 =>
  (if v6 ≤ t28.1 then
  zex (some (.inl (l2 + (1 : Int32), t28.2)))
  else
  Option.bind (zgR t28.2 l0 4 0) fun v7 =>
  Option.bind (zcl t28.2 v7 0 (fX0_numberAt v7 l1 l2 t28.1 t28.2)) fun x8 =>
  (if x8 = 0 then
  fX4_appendPlaces_J109 l0 l1 l2 t28.1 t28.2
  else
  Option.bind (zgR t28.2 l0 4 0) fun v9 =>
  Option.bind (zgI t28.2 v9 0 0) fun v10 =>
  Option.bind (zgI t28.2 l0 4 1) fun v11 =>
  Option.bind (fX5_codeOf x8 v10 l1 v11) fun x12 =>
  Option.bind (zgR t28.2 l0 4 0) fun v13 =>
  Option.bind (zgI t28.2 v13 0 1) fun v14 =>
  Option.bind (zgI t28.2 l0 4 1) fun v15 =>
  Option.bind (fX5_codeOf (1 : Int32) v14 l2 v15) fun x16 =>
  Option.bind (zgR t28.2 l0 4 0) fun v17 =>
  Option.bind (zgI t28.2 v17 0 2) fun v18 =>
  Option.bind (zgI t28.2 l0 4 1) fun v19 =>
  Option.bind (fX5_codeOf (1 : Int32) v18 t28.1 v19) fun x20 =>
  Option.bind (zcl t28.2 l0 4 (fX4_append l0 x12 x16 x20 t28.2)) fun x21 =>
  fX4_appendPlaces_J109 l0 l1 l2 t28.1 x21))
def fX4_appendPlaces_B15 (l0 : Nat) (l1 : Int32) (t15 : (Int32 × ZS)) : Option ((Int32 × ZS) ⊕ ((Int32 × ZS) ⊕ ZS)) :=
  Option.bind (zgR t15.2 l0 4 0) fun v3 =>
  Option.bind (zgI t15.2 v3 0 1) fun v4 =>
  (if v4 ≤ t15.1 then
  zex (some (.inl (l1 + (1 : Int32), t15.2)))
  else
  ziter (fX4_appendPlaces_B28 l0 l1 t15.1) zF ((0 : Int32), t15.2))
def fX4_appendPlaces_B2 (l0 : Nat) (t2 : (Int32 × ZS)) : Option ((Int32 × ZS) ⊕ ZS) :=
  Option.bind (zgR t2.2 l0 4 0) fun v1 =>
  Option.bind (zgI t2.2 v1 0 0) fun v2 =>
  (if v2 ≤ t2.1 then
  zex (some t2.2)
  else
  ziter (fX4_appendPlaces_B15 l0 t2.1) zF ((0 : Int32), t2.2))
def fX4_appendPlaces (a0 : Nat) (S : ZS) : Option ZS :=
  ziter (fX4_appendPlaces_B2 a0) zF ((0 : Int32), S)
def fX5_plain (a0 : Nat) (a1 : Int32) (S : ZS) : Option ((Int32 × ZS) ⊕ ZX) :=
  zbT (zcl S a0 5 (fX5_needWay a0 a1 S)) fun x1 =>
  Option.bind (zgR x1.2 x1.1 4 0) fun v2 =>
  Option.bind (zcl x1.2 v2 0 (fX0_countOthersThanZero v2 x1.2)) fun x3 =>
  zbT (fX5_needRoom x1.1 x3 x1.2) fun x4 =>
  Option.bind (zcl x4.2 x1.1 4 (fX4_appendPlaces x1.1 x4.2)) fun x5 =>
  Option.bind (zgI x5 x1.1 4 3) fun v6 =>
  some (.inl (v6, x5))
def fX5_needProduct (a0 : Nat) (a1 : Int32) (S : ZS) : Option ((Unit × ZS) ⊕ ZX) :=
  Option.bind (zgI S a0 4 3) fun v1 =>
  Option.bind (fX5_isBelow a1 v1) fun x2 =>
  (if x2 = 0 then
  some (.inr ("java/lang/IndexOutOfBoundsException", S.1))
  else
  some (.inl ((), S)))
def fX4_code (a0 : Nat) (a1 : Int32) (a2 : Int32) (S : ZS) : Option Int32 :=
  Option.bind (zgR S a0 4 2) fun v1 =>
  Option.bind (fX5_get v1 a1 S) fun x2 =>
  Option.bind (fX4_shiftOf a2) fun x3 =>
  some ((((Int32.toUInt32 x2) >>> ((Int32.toUInt32 x3) &&& Int32.toUInt32 31)).toInt32) &&& (1023 : Int32))
def fX4_isSame_J20 (s0 : Int32) (S : ZS) : Option Int32 :=
  Option.bind (zbl s0) fun w => some w
def fX4_isSame (a0 : Nat) (a1 : Int32) (a2 : Int32) (a3 : Int32) (S : ZS) : Option Int32 :=
  Option.bind (zcl S a0 4 (fX4_code a0 a1 a3 S)) fun x1 =>
  Option.bind (zcl S a0 4 (fX4_code a0 a2 a3 S)) fun x2 =>
  (if x1 = x2 then
  fX4_isSame_J20 (1 : Int32) S
  else
  fX4_isSame_J20 (0 : Int32) S)
def fX5_numberIn_B15 (l1 : Int32) (l3 : Int32) (t15 : (Int32 × Int32)) : Option ((Int32 × Int32) ⊕ Int32) :=
  (if l1 ≤ t15.2 then
  zex (Option.bind (zrem t15.1 l3) fun v1 =>
  some v1)
  else
  Option.bind (zdiv t15.1 l3) fun v2 =>
  some (.inl (v2, t15.2 + (1 : Int32))))
def fX5_numberIn (a0 : Int32) (a1 : Int32) (a2 : Int32) (a3 : Int32) : Option Int32 :=
  (if (2 : Int32) ≤ a3 then
  ziter (fX5_numberIn_B15 a1 a3) zF (a0, a2 + (1 : Int32))
  else
  some (0 : Int32))
def fX5_addedCode_B6 (l0 : Int32) (l1 : Int32) (l2 : Int32) (l3 : Int32) (l4 : Int32) (t6 : (Int32 × Int32)) : Option ((Int32 × Int32) ⊕ Int32) :=
  (if l3 ≤ t6.2 then
  zex (some t6.1)
  else
  Option.bind (fX5_numberIn l0 l3 t6.2 l4) fun x1 =>
  Option.bind (fX5_numberIn l1 l3 t6.2 l4) fun x2 =>
  Option.bind (fX5_remainder (x1 + (l2 * x2)) l4) fun x3 =>
  some (.inl ((t6.1 * l4) + x3, t6.2 + (1 : Int32))))
def fX5_addedCode (a0 : Int32) (a1 : Int32) (a2 : Int32) (a3 : Int32) (a4 : Int32) : Option Int32 :=
  ziter (fX5_addedCode_B6 a0 a1 a2 a3 a4) zF ((0 : Int32), (0 : Int32))
def fX4_enterCode (a0 : Nat) (a1 : Int32) (a2 : Int32) (a3 : Int32) (S : ZS) : Option ZS :=
  Option.bind (zgR S a0 4 2) fun v1 =>
  Option.bind (fX5_get v1 a1 S) fun x2 =>
  Option.bind (fX4_shiftOf a2) fun x3 =>
  Option.bind (zgR S a0 4 2) fun v4 =>
  Option.bind (fX4_shiftOf a2) fun x5 =>
  Option.bind (fX5_put v4 a1 ((x2 &&& (((1023 : Int32) <<< (x3 &&& 31)) ^^^ (-1 : Int32))) ||| (a3 <<< (x5 &&& 31))) S) fun x6 =>
  some x6
def fX4_addVector (a0 : Nat) (a1 : Int32) (a2 : Int32) (a3 : Int32) (a4 : Int32) (S : ZS) : Option ZS :=
  Option.bind (zgR S a0 4 0) fun v1 =>
  Option.bind (zcl S v1 0 (fX0_sizeOf v1 a3 S)) fun x2 =>
  Option.bind (zcl S a0 4 (fX4_code a0 a1 a3 S)) fun x3 =>
  Option.bind (zcl S a0 4 (fX4_code a0 a2 a3 S)) fun x4 =>
  Option.bind (zgI S a0 4 1) fun v5 =>
  Option.bind (fX5_addedCode x3 x4 a4 x2 v5) fun x6 =>
  Option.bind (zcl S a0 4 (fX4_enterCode a0 a1 a3 x6 S)) fun x7 =>
  some x7
def fX4_turn_J21 (l0 : Nat) (l1 : Int32) (l2 : Int32) (l4 : Int32) (s0 : Int32) (S : ZS) : Option ZS :=
  Option.bind (zcl S l0 4 (fX4_addVector l0 l1 l2 l4 (1 : Int32) S)) fun x1 =>
  Option.bind (zgI x1 l0 4 1) fun v2 =>
  Option.bind (zcl x1 l0 4 (fX4_addVector l0 l2 l1 s0 (v2 - (1 : Int32)) x1)) fun x3 =>
  some x3
def fX4_turn_J9 (l0 : Nat) (l1 : Int32) (l2 : Int32) (l3 : Int32) (s0 : Int32) (S : ZS) : Option ZS :=
  (if l3 = (2 : Int32) then
  fX4_turn_J21 l0 l1 l2 s0 (1 : Int32) S
  else
  fX4_turn_J21 l0 l1 l2 s0 (2 : Int32) S)
def fX4_turn (a0 : Nat) (a1 : Int32) (a2 : Int32) (a3 : Int32) (S : ZS) : Option ZS :=
  (if a3 = 0 then
  fX4_turn_J9 a0 a1 a2 a3 (1 : Int32) S
  else
  fX4_turn_J9 a0 a1 a2 a3 (0 : Int32) S)
def fX5_flip (a0 : Nat) (a1 : Int32) (a2 : Int32) (a3 : Int32) (a4 : Int32) (S : ZS) : Option ((Unit × ZS) ⊕ ZX) :=
  zbT (zcl S a0 5 (fX5_needWay a0 a1 S)) fun x1 =>
  zbT (fX5_needProduct x1.1 a2 x1.2) fun x2 =>
  zbT (fX5_needProduct x1.1 a3 x2.2) fun x3 =>
  zbT (fX5_needSide a4 x3.2) fun x4 =>
  (if a2 = a3 then
  some (.inr ("java/lang/IllegalArgumentException", x4.2.1))
  else
  Option.bind (zcl x4.2 x1.1 4 (fX4_isSame x1.1 a2 a3 a4 x4.2)) fun x5 =>
  (if x5 = 0 then
  some (.inr ("java/lang/IllegalStateException", x4.2.1))
  else
  Option.bind (zcl x4.2 x1.1 4 (fX4_turn x1.1 a2 a3 a4 x4.2)) fun x6 =>
  some (.inl ((), x6))))
def fX4_hasZeros_J32 (s0 : Int32) (S : ZS) : Option Int32 :=
  Option.bind (zbl s0) fun w => some w
def fX4_hasZeros_J27  (S : ZS) : Option Int32 :=
  fX4_hasZeros_J32 (1 : Int32) S
def fX4_hasZeros (a0 : Nat) (a1 : Int32) (S : ZS) : Option Int32 :=
  Option.bind (zcl S a0 4 (fX4_code a0 a1 (0 : Int32) S)) fun x1 =>
  (if x1 = 0 then
  fX4_hasZeros_J27  S
  else
  Option.bind (zcl S a0 4 (fX4_code a0 a1 (1 : Int32) S)) fun x2 =>
  (if x2 = 0 then
  fX4_hasZeros_J27  S
  else
  Option.bind (zcl S a0 4 (fX4_code a0 a1 (2 : Int32) S)) fun x3 =>
  (if x3 = 0 then
  fX4_hasZeros_J27  S
  else
  fX4_hasZeros_J32 (0 : Int32) S)))
def fX4_takeOut_B4 (l0 : Nat) (t4 : (Int32 × ZS)) : Option ((Int32 × ZS) ⊕ ZS) :=
  Option.bind (zgI t4.2 l0 4 3) fun v1 =>
  (if v1 ≤ t4.1 then
  zex (Option.bind (zgI t4.2 l0 4 3) fun v2 =>
  Option.bind (zpF t4.2 l0 4 3 (.int (v2 - (1 : Int32)))) fun S3 =>
  some S3)
  else
  Option.bind (zgR t4.2 l0 4 2) fun v4 =>
  Option.bind (zgR t4.2 l0 4 2) fun v5 =>
  Option.bind (fX5_get v5 t4.1 t4.2) fun x6 =>
  Option.bind (fX5_put v4 (t4.1 - (1 : Int32)) x6 t4.2) fun x7 =>
  some (.inl (t4.1 + (1 : Int32), x7)))
def fX4_takeOut (a0 : Nat) (a1 : Int32) (S : ZS) : Option ZS :=
  ziter (fX4_takeOut_B4 a0) zF (a1 + (1 : Int32), S)
def fX4_takeOutZeros_B2 (l0 : Nat) (S : ZS) (t2 : Int32) : Option (Int32 ⊕ (Int32 × ZS)) :=
  Option.bind (zgI S l0 4 3) fun v1 =>
  (if v1 ≤ t2 then
  zex (some ((0 : Int32), S))
  else
  Option.bind (zcl S l0 4 (fX4_hasZeros l0 t2 S)) fun x2 =>
  (if x2 = 0 then
  some (.inl (t2 + (1 : Int32)))
  else
  zex (Option.bind (zcl S l0 4 (fX4_takeOut l0 t2 S)) fun x3 =>
  some ((1 : Int32), x3))))
def fX4_takeOutZeros (a0 : Nat) (S : ZS) : Option (Int32 × ZS) :=
  ziter (fX4_takeOutZeros_B2 a0 S) zF (0 : Int32)
def fX4_sideToJoin_J117 (s0 : Int32) (S : ZS) : Option Int32 :=
  some s0
def fX4_sideToJoin_J116  (S : ZS) : Option Int32 :=
  fX4_sideToJoin_J117 (-1 : Int32) S
def fX4_sideToJoin_J102 (l5 : Int32) (l6 : Int32) (S : ZS) : Option Int32 :=
  (if l5 = 0 then
  fX4_sideToJoin_J116  S
  else
  (if l6 = 0 then
  fX4_sideToJoin_J116  S
  else
  fX4_sideToJoin_J117 (0 : Int32) S))
def fX4_sideToJoin_J90 (l4 : Int32) (l5 : Int32) (l6 : Int32) (S : ZS) : Option Int32 :=
  (if l4 = 0 then
  fX4_sideToJoin_J102 l5 l6 S
  else
  (if l6 = 0 then
  fX4_sideToJoin_J102 l5 l6 S
  else
  some (1 : Int32)))
def fX4_sideToJoin_J76 (l4 : Int32) (l5 : Int32) (s0 : Int32) (S : ZS) : Option Int32 :=
  (if l4 = 0 then
  fX4_sideToJoin_J90 l4 l5 s0 S
  else
  (if l5 = 0 then
  fX4_sideToJoin_J90 l4 l5 s0 S
  else
  some (2 : Int32)))
def fX4_sideToJoin_J56 (l3 : Int32) (l4 : Int32) (s0 : Int32) (S : ZS) : Option Int32 :=
  Option.bind (fX4_shiftOf (2 : Int32)) fun x7 =>
  (if (l3 &&& ((1023 : Int32) <<< (x7 &&& 31))) = 0 then
  fX4_sideToJoin_J76 l4 s0 (1 : Int32) S
  else
  fX4_sideToJoin_J76 l4 s0 (0 : Int32) S)
def fX4_sideToJoin_J36 (l3 : Int32) (s0 : Int32) (S : ZS) : Option Int32 :=
  Option.bind (fX4_shiftOf (1 : Int32)) fun x6 =>
  (if (l3 &&& ((1023 : Int32) <<< (x6 &&& 31))) = 0 then
  fX4_sideToJoin_J56 l3 s0 (1 : Int32) S
  else
  fX4_sideToJoin_J56 l3 s0 (0 : Int32) S)
def fX4_sideToJoin (a0 : Nat) (a1 : Int32) (a2 : Int32) (S : ZS) : Option Int32 :=
  Option.bind (zgR S a0 4 2) fun v1 =>
  Option.bind (fX5_get v1 a1 S) fun x2 =>
  Option.bind (zgR S a0 4 2) fun v3 =>
  Option.bind (fX5_get v3 a2 S) fun x4 =>
  Option.bind (fX4_shiftOf (0 : Int32)) fun x5 =>
  (if ((x2 ^^^ x4) &&& ((1023 : Int32) <<< (x5 &&& 31))) = 0 then
  fX4_sideToJoin_J36 (x2 ^^^ x4) (1 : Int32) S
  else
  fX4_sideToJoin_J36 (x2 ^^^ x4) (0 : Int32) S)
def fX4_joinProducts_B14 (l0 : Nat) (l1 : Int32) (S : ZS) (t14 : Int32) : Option (Int32 ⊕ (Int32 ⊕ (Int32 × ZS))) :=
  Option.bind (zgI S l0 4 3) fun v2 =>
  (if v2 ≤ t14 then
  zex (some (.inl (l1 + (1 : Int32))))
  else
  Option.bind (zcl S l0 4 (fX4_sideToJoin l0 l1 t14 S)) fun x3 =>
  (if x3 = (-1 : Int32) then
  some (.inl (t14 + (1 : Int32)))
  else
  zex (zex (Option.bind (zcl S l0 4 (fX4_addVector l0 l1 t14 x3 (1 : Int32) S)) fun x4 =>
  Option.bind (zcl x4 l0 4 (fX4_takeOut l0 t14 x4)) fun x5 =>
  some ((1 : Int32), x5)))))
def fX4_joinProducts_B2 (l0 : Nat) (S : ZS) (t2 : Int32) : Option (Int32 ⊕ (Int32 × ZS)) :=
  Option.bind (zgI S l0 4 3) fun v1 =>
  (if v1 ≤ t2 then
  zex (some ((0 : Int32), S))
  else
  ziter (fX4_joinProducts_B14 l0 t2 S) zF (t2 + (1 : Int32)))
def fX4_joinProducts (a0 : Nat) (S : ZS) : Option (Int32 × ZS) :=
  ziter (fX4_joinProducts_B2 a0 S) zF (0 : Int32)
def fX4_shrink_J35 (l0 : Nat) (l1 : Int32) (S : ZS) : Option (Int32 × ZS) :=
  Option.bind (zgI S l0 4 3) fun v2 =>
  some (l1 - v2, S)
def fX4_shrink_J29 (l0 : Nat) (l1 : Int32) (l2 : Int32) (S : ZS) : Option ((Int32 × ZS) ⊕ (Int32 × ZS)) :=
  some (.inl (l2 + (1 : Int32), S))
def fX4_shrink_B7 (l0 : Nat) (l1 : Int32) (t7 : (Int32 × ZS)) : Option ((Int32 × ZS) ⊕ (Int32 × ZS)) :=
  (if l1 ≤ t7.1 then
  zex (fX4_shrink_J35 l0 l1 t7.2)
  else
  Option.bind (zcl t7.2 l0 4 (fX4_takeOutZeros l0 t7.2)) fun x3 =>
  (if x3.1 = 0 then
  Option.bind (zcl x3.2 l0 4 (fX4_joinProducts l0 x3.2)) fun x4 =>
  (if x4.1 = 0 then
  zex (fX4_shrink_J35 l0 l1 x4.2)
  else
  fX4_shrink_J29 l0 l1 t7.1 x4.2)
  else
  fX4_shrink_J29 l0 l1 t7.1 x3.2))
def fX4_shrink (a0 : Nat) (S : ZS) : Option (Int32 × ZS) :=
  Option.bind (zgI S a0 4 3) fun v1 =>
  ziter (fX4_shrink_B7 a0 v1) zF ((0 : Int32), S)
def fX5_reduce (a0 : Nat) (a1 : Int32) (S : ZS) : Option ((Int32 × ZS) ⊕ ZX) :=
  zbT (zcl S a0 5 (fX5_needWay a0 a1 S)) fun x1 =>
  Option.bind (zcl x1.2 x1.1 4 (fX4_shrink x1.1 x1.2)) fun x2 =>
  some (.inl (x2.1, x2.2))
def fX4_draw (a0 : Int32) : Option Int32 :=
  Option.bind (fX5_remainder ((a0 * (25173 : Int32)) + (13849 : Int32)) (65536 : Int32)) fun x1 =>
  some x1
def fX4_isReducible_J37 (l0 : Nat) (l1 : Int32) (l2 : Int32) (S : ZS) : Option (Int32 ⊕ Int32) :=
  some (.inl (l2 + (1 : Int32)))
def fX4_isReducible_B12 (l0 : Nat) (l1 : Int32) (S : ZS) (t12 : Int32) : Option (Int32 ⊕ Int32) :=
  Option.bind (zgI S l0 4 3) fun v2 =>
  (if v2 ≤ t12 then
  zex (some (0 : Int32))
  else
  (if t12 = l1 then
  fX4_isReducible_J37 l0 l1 t12 S
  else
  Option.bind (zcl S l0 4 (fX4_sideToJoin l0 l1 t12 S)) fun x3 =>
  (if x3 = (-1 : Int32) then
  fX4_isReducible_J37 l0 l1 t12 S
  else
  zex (some (1 : Int32)))))
def fX4_isReducible (a0 : Nat) (a1 : Int32) (S : ZS) : Option Int32 :=
  Option.bind (zcl S a0 4 (fX4_hasZeros a0 a1 S)) fun x1 =>
  (if x1 = 0 then
  ziter (fX4_isReducible_B12 a0 a1 S) zF (0 : Int32)
  else
  some (1 : Int32))
def fX4_wander_J142 (l3 : Int32) (S : ZS) : Option (Int32 × ZS) :=
  some (l3, S)
def fX4_wander_J136 (l0 : Nat) (l2 : Int32) (l3 : Int32) (l4 : Int32) (l5 : Int32) (S : ZS) : Option ((Int32 × Int32 × Int32 × ZS) ⊕ (Int32 × ZS)) :=
  some (.inl (l3, l4, l5 + (1 : Int32), S))
def fX4_wander_J123 (l0 : Nat) (l2 : Int32) (l3 : Int32) (l4 : Int32) (l5 : Int32) (S : ZS) : Option ((Int32 × Int32 × Int32 × ZS) ⊕ (Int32 × ZS)) :=
  (if l4 = 0 then
  Option.bind (zcl S l0 4 (fX4_shrink l0 S)) fun x10 =>
  fX4_wander_J136 l0 l2 l3 (1 : Int32) l5 x10.2
  else
  fX4_wander_J136 l0 l2 l3 l4 l5 S)
def fX4_wander_J121 (l0 : Nat) (l2 : Int32) (l3 : Int32) (l5 : Int32) (s0 : Int32) (S : ZS) : Option ((Int32 × Int32 × Int32 × ZS) ⊕ (Int32 × ZS)) :=
  fX4_wander_J123 l0 l2 l3 s0 l5 S
def fX4_wander_J120 (l0 : Nat) (l2 : Int32) (l3 : Int32) (l5 : Int32) (S : ZS) : Option ((Int32 × Int32 × Int32 × ZS) ⊕ (Int32 × ZS)) :=
  fX4_wander_J121 l0 l2 l3 l5 (0 : Int32) S
def fX4_wander_B8 (l0 : Nat) (l2 : Int32) (t8 : (Int32 × Int32 × Int32 × ZS)) : Option ((Int32 × Int32 × Int32 × ZS) ⊕ (Int32 × ZS)) :=
  (if l2 ≤ t8.2.2.1 then
  zex (fX4_wander_J142 t8.1 t8.2.2.2)
  else
  Option.bind (zgI t8.2.2.2 l0 4 3) fun v1 =>
  (if v1 ≤ 0 then
  zex (fX4_wander_J142 t8.1 t8.2.2.2)
  else
  Option.bind (fX4_draw t8.1) fun x2 =>
  Option.bind (zgI t8.2.2.2 l0 4 3) fun v3 =>
  Option.bind (fX5_remainder x2 v3) fun x4 =>
  Option.bind (fX4_draw x2) fun x5 =>
  Option.bind (zgI t8.2.2.2 l0 4 3) fun v6 =>
  Option.bind (fX5_remainder x5 v6) fun x7 =>
  Option.bind (fX4_draw x5) fun x8 =>
  Option.bind (fX5_remainder x8 (3 : Int32)) fun x9 =>
  (if x4 = x7 then
  fX4_wander_J123 l0 l2 x8 t8.2.1 t8.2.2.1 t8.2.2.2
  else
  Option.bind (zcl t8.2.2.2 l0 4 (fX4_isSame l0 x4 x7 x9 t8.2.2.2)) fun x11 =>
  (if x11 = 0 then
  fX4_wander_J123 l0 l2 x8 t8.2.1 t8.2.2.1 t8.2.2.2
  else
  Option.bind (zcl t8.2.2.2 l0 4 (fX4_turn l0 x4 x7 x9 t8.2.2.2)) fun x12 =>
  (if t8.2.1 = 0 then
  fX4_wander_J120 l0 l2 x8 t8.2.2.1 x12
  else
  Option.bind (zcl x12 l0 4 (fX4_isReducible l0 x4 x12)) fun x13 =>
  (if x13 = 0 then
  Option.bind (zcl x12 l0 4 (fX4_isReducible l0 x7 x12)) fun x14 =>
  (if x14 = 0 then
  fX4_wander_J121 l0 l2 x8 t8.2.2.1 (1 : Int32) x12
  else
  fX4_wander_J120 l0 l2 x8 t8.2.2.1 x12)
  else
  fX4_wander_J120 l0 l2 x8 t8.2.2.1 x12))))))
def fX4_wander (a0 : Nat) (a1 : Int32) (a2 : Int32) (S : ZS) : Option (Int32 × ZS) :=
  ziter (fX4_wander_B8 a0 a2) zF (a1, (0 : Int32), (0 : Int32), S)
def fX5_walk_J17  (S : ZS) : Option ((Int32 × ZS) ⊕ ZX) :=
  some (.inr ("java/lang/IllegalArgumentException", S.1))
def fX5_walk_J39  (S : ZS) : Option ((Int32 × ZS) ⊕ ZX) :=
  some (.inr ("java/lang/IllegalArgumentException", S.1))
def fX5_walk (a0 : Nat) (a1 : Int32) (a2 : Int32) (a3 : Int32) (S : ZS) : Option ((Int32 × ZS) ⊕ ZX) :=
  zbT (zcl S a0 5 (fX5_needWay a0 a1 S)) fun x1 =>
  (if a2 < 0 then
  fX5_walk_J17  x1.2
  else
  (if a2 < (65536 : Int32) then
  (if a3 < (1 : Int32) then
  fX5_walk_J39  x1.2
  else
  (if a3 ≤ (200 : Int32) then
  Option.bind (zcl x1.2 x1.1 4 (fX4_wander x1.1 a2 a3 x1.2)) fun x2 =>
  some (.inl (x2.1, x2.2))
  else
  fX5_walk_J39  x1.2))
  else
  fX5_walk_J17  x1.2))
def fX5_at (a0 : Nat) (a1 : Int32) (a2 : Int32) (a3 : Int32) (a4 : Int32) (S : ZS) : Option ((Int32 × ZS) ⊕ ZX) :=
  zbT (zcl S a0 5 (fX5_needCube a0 a1 S)) fun x1 =>
  zbT (fX5_needPlace x1.1 a2 a3 a4 x1.2) fun x2 =>
  Option.bind (zcl x2.2 x1.1 0 (fX0_numberAt x1.1 a2 a3 a4 x2.2)) fun x3 =>
  some (.inl (x3, x2.2))
def fX0_numberInSlice (a0 : Nat) (a1 : Int32) (a2 : Int32) (a3 : Int32) (S : ZS) : Option Int32 :=
  Option.bind (zgR S a0 0 3) fun v1 =>
  Option.bind (fX0_indexInSlice a1 a2 a3) fun x2 =>
  Option.bind (fX5_get v1 x2 S) fun x3 =>
  some x3
def fX1_enter (a0 : Nat) (a1 : Int32) (a2 : Int32) (a3 : Int32) (S : ZS) : Option ZS :=
  Option.bind (zgR S a0 1 0) fun v1 =>
  Option.bind (fX5_put v1 ((a1 * (16 : Int32)) + a2) a3 S) fun x2 =>
  some x2
def fX1_take_B29 (l0 : Nat) (l1 : Nat) (l2 : Int32) (l4 : Int32) (t29 : (Int32 × ZS)) : Option ((Int32 × ZS) ⊕ ((Int32 × ZS) ⊕ ZS)) :=
  (if (16 : Int32) ≤ t29.1 then
  zex (some (.inl (l4 + (1 : Int32), t29.2)))
  else
  Option.bind (zcl t29.2 l1 0 (fX0_numberInSlice l1 l2 l4 t29.1 t29.2)) fun x5 =>
  Option.bind (zcl t29.2 l0 1 (fX1_enter l0 l4 t29.1 x5 t29.2)) fun x6 =>
  some (.inl (t29.1 + (1 : Int32), x6)))
def fX1_take_B17 (l0 : Nat) (l1 : Nat) (l2 : Int32) (t17 : (Int32 × ZS)) : Option ((Int32 × ZS) ⊕ ZS) :=
  Option.bind (zgI t17.2 l0 1 1) fun v4 =>
  (if v4 ≤ t17.1 then
  zex (some t17.2)
  else
  ziter (fX1_take_B29 l0 l1 l2 t17.1) zF ((0 : Int32), t17.2))
def fX1_take (a0 : Nat) (a1 : Nat) (a2 : Int32) (a3 : Int32) (S : ZS) : Option ZS :=
  Option.bind (zcl S a1 0 (fX0_sizeOf a1 a2 S)) fun x1 =>
  Option.bind (zpF S a0 1 1 (.int x1)) fun S2 =>
  Option.bind (zpF S2 a0 1 2 (.int a3)) fun S3 =>
  ziter (fX1_take_B17 a0 a1 a2) zF ((0 : Int32), S3)
def fX1_number (a0 : Nat) (a1 : Int32) (a2 : Int32) (S : ZS) : Option Int32 :=
  Option.bind (zgR S a0 1 0) fun v1 =>
  Option.bind (fX5_get v1 ((a1 * (16 : Int32)) + a2) S) fun x2 =>
  some x2
def fX1_rowWithNumber_B2 (l0 : Nat) (l1 : Int32) (S : ZS) (t2 : Int32) : Option (Int32 ⊕ Int32) :=
  Option.bind (zgI S l0 1 1) fun v1 =>
  (if v1 ≤ t2 then
  zex (some (-1 : Int32))
  else
  Option.bind (zcl S l0 1 (fX1_number l0 t2 l1 S)) fun x2 =>
  (if x2 = 0 then
  some (.inl (t2 + (1 : Int32)))
  else
  zex (some t2)))
def fX1_rowWithNumber (a0 : Nat) (a1 : Int32) (a2 : Int32) (S : ZS) : Option Int32 :=
  ziter (fX1_rowWithNumber_B2 a0 a1 S) zF a2
def fX1_swapRows_B2 (l0 : Nat) (l1 : Int32) (l2 : Int32) (t2 : (Int32 × ZS)) : Option ((Int32 × ZS) ⊕ ZS) :=
  (if (16 : Int32) ≤ t2.1 then
  zex (some t2.2)
  else
  Option.bind (zcl t2.2 l0 1 (fX1_number l0 l1 t2.1 t2.2)) fun x1 =>
  Option.bind (zcl t2.2 l0 1 (fX1_number l0 l2 t2.1 t2.2)) fun x2 =>
  Option.bind (zcl t2.2 l0 1 (fX1_enter l0 l1 t2.1 x2 t2.2)) fun x3 =>
  Option.bind (zcl x3 l0 1 (fX1_enter l0 l2 t2.1 x1 x3)) fun x4 =>
  some (.inl (t2.1 + (1 : Int32), x4)))
def fX1_swapRows (a0 : Nat) (a1 : Int32) (a2 : Int32) (S : ZS) : Option ZS :=
  ziter (fX1_swapRows_B2 a0 a1 a2) zF ((0 : Int32), S)
def fX1_clearBelow_B38 (l0 : Nat) (l1 : Int32) (l2 : Int32) (l3 : Int32) (l4 : Int32) (l5 : Int32) (t38 : (Int32 × ZS)) : Option ((Int32 × ZS) ⊕ ((Int32 × ZS) ⊕ ZS)) :=
  (if (16 : Int32) ≤ t38.1 then
  zex (some (.inl (l4 + (1 : Int32), t38.2)))
  else
  Option.bind (zcl t38.2 l0 1 (fX1_number l0 l4 t38.1 t38.2)) fun x5 =>
  Option.bind (zcl t38.2 l0 1 (fX1_number l0 l2 t38.1 t38.2)) fun x6 =>
  Option.bind (zgI t38.2 l0 1 2) fun v7 =>
  Option.bind (fX5_remainder ((l3 * x5) + (l5 * x6)) v7) fun x8 =>
  Option.bind (zcl t38.2 l0 1 (fX1_enter l0 l4 t38.1 x8 t38.2)) fun x9 =>
  some (.inl (t38.1 + (1 : Int32), x9)))
def fX1_clearBelow_B12 (l0 : Nat) (l1 : Int32) (l2 : Int32) (l3 : Int32) (t12 : (Int32 × ZS)) : Option ((Int32 × ZS) ⊕ ZS) :=
  Option.bind (zgI t12.2 l0 1 1) fun v2 =>
  (if v2 ≤ t12.1 then
  zex (some t12.2)
  else
  Option.bind (zgI t12.2 l0 1 2) fun v3 =>
  Option.bind (zcl t12.2 l0 1 (fX1_number l0 t12.1 l1 t12.2)) fun x4 =>
  ziter (fX1_clearBelow_B38 l0 l1 l2 l3 t12.1 (v3 - x4)) zF (l1, t12.2))
def fX1_clearBelow (a0 : Nat) (a1 : Int32) (a2 : Int32) (S : ZS) : Option ZS :=
  Option.bind (zcl S a0 1 (fX1_number a0 a2 a1 S)) fun x1 =>
  ziter (fX1_clearBelow_B12 a0 a1 a2 x1) zF (a2 + (1 : Int32), S)
def fX1_rankOf_J55 (l0 : Nat) (l4 : Int32) (l5 : Int32) (S : ZS) : Option ((Int32 × Int32 × ZS) ⊕ (Int32 × ZS)) :=
  some (.inl (l4, l5 + (1 : Int32), S))
def fX1_rankOf_B13 (l0 : Nat) (t13 : (Int32 × Int32 × ZS)) : Option ((Int32 × Int32 × ZS) ⊕ (Int32 × ZS)) :=
  (if (16 : Int32) ≤ t13.2.1 then
  zex (some (t13.1, t13.2.2))
  else
  Option.bind (zcl t13.2.2 l0 1 (fX1_rowWithNumber l0 t13.2.1 t13.1 t13.2.2)) fun x2 =>
  (if x2 = (-1 : Int32) then
  fX1_rankOf_J55 l0 t13.1 t13.2.1 t13.2.2
  else
  Option.bind (zcl t13.2.2 l0 1 (fX1_swapRows l0 x2 t13.1 t13.2.2)) fun x3 =>
  Option.bind (zcl x3 l0 1 (fX1_clearBelow l0 t13.2.1 t13.1 x3)) fun x4 =>
  fX1_rankOf_J55 l0 (t13.1 + (1 : Int32)) t13.2.1 x4))
def fX1_rankOf (a0 : Nat) (a1 : Nat) (a2 : Int32) (a3 : Int32) (S : ZS) : Option (Int32 × ZS) :=
  Option.bind (zcl S a0 1 (fX1_take a0 a1 a2 a3 S)) fun x1 =>
  ziter (fX1_rankOf_B13 a0) zF ((0 : Int32), (0 : Int32), x1)
def fX5_flattening (a0 : Nat) (a1 : Int32) (a2 : Int32) (S : ZS) : Option ((Int32 × ZS) ⊕ ZX) :=
  zbT (zcl S a0 5 (fX5_needCube a0 a1 S)) fun x1 =>
  zbT (fX5_needSide a2 x1.2) fun x2 =>
  Option.bind (zgR x2.2 a0 5 2) fun v3 =>
  Option.bind (zgI x2.2 a0 5 6) fun v4 =>
  Option.bind (zcl x2.2 v3 1 (fX1_rankOf v3 x1.1 a2 v4 x2.2)) fun x5 =>
  some (.inl (x5.1, x5.2))
def fJ9_max_7cf53_J10 (s0 : Int32) : Option Int32 :=
  some s0
def fJ9_max_7cf53 (a0 : Int32) (a1 : Int32) : Option Int32 :=
  (if a0 < a1 then
  fJ9_max_7cf53_J10 a1
  else
  fJ9_max_7cf53_J10 a0)
def fX5_greatestRank_B4 (l0 : Nat) (l1 : Nat) (t4 : (Int32 × Int32 × ZS)) : Option ((Int32 × Int32 × ZS) ⊕ (Int32 × ZS)) :=
  (if (3 : Int32) ≤ t4.2.1 then
  zex (some (t4.1, t4.2.2))
  else
  Option.bind (zgR t4.2.2 l0 5 2) fun v1 =>
  Option.bind (zgI t4.2.2 l0 5 6) fun v2 =>
  Option.bind (zcl t4.2.2 v1 1 (fX1_rankOf v1 l1 t4.2.1 v2 t4.2.2)) fun x3 =>
  Option.bind (fJ9_max_7cf53 t4.1 x3.1) fun x4 =>
  some (.inl (x4, t4.2.1 + (1 : Int32), x3.2)))
def fX5_greatestRank (a0 : Nat) (a1 : Nat) (S : ZS) : Option (Int32 × ZS) :=
  ziter (fX5_greatestRank_B4 a0 a1) zF ((0 : Int32), (0 : Int32), S)
def fX5_bound (a0 : Nat) (a1 : Int32) (S : ZS) : Option ((Int32 × ZS) ⊕ ZX) :=
  zbT (zcl S a0 5 (fX5_needCube a0 a1 S)) fun x1 =>
  Option.bind (zcl x1.2 a0 5 (fX5_greatestRank a0 x1.1 x1.2)) fun x2 =>
  some (.inl (x2.1, x2.2))
def fX5_needSmall_J26  (S : ZS) : Option ((Unit × ZS) ⊕ ZX) :=
  some (.inr ("java/lang/IllegalStateException", S.1))
def fX5_needSmall (a0 : Nat) (a1 : Nat) (a2 : Int32) (S : ZS) : Option ((Unit × ZS) ⊕ ZX) :=
  Option.bind (zgI S a0 5 6) fun v1 =>
  (if v1 = (2 : Int32) then
  Option.bind (zgI S a1 0 0) fun v2 =>
  Option.bind (zgI S a1 0 1) fun v3 =>
  Option.bind (zgI S a1 0 2) fun v4 =>
  (if ((v2 * v3) * v4) ≤ a2 then
  some (.inl ((), S))
  else
  fX5_needSmall_J26  S)
  else
  fX5_needSmall_J26  S)
def fX5_putLong_J18  (S : ZS) : Option ZS :=
  some S
def fX5_putLong (a0 : Nat) (a1 : Int32) (a2 : Int64) (S : ZS) : Option ZS :=
  (if a1 < 0 then
  fX5_putLong_J18  S
  else
  Option.bind (zal S a0) fun v1 =>
  (if v1 ≤ a1 then
  fX5_putLong_J18  S
  else
  Option.bind (zsJ S a0 a1 a2) fun S2 =>
  fX5_putLong_J18  S2))
def fX2_bitsOfSingle_B31 (l0 : Nat) (l1 : Int32) (l2 : Int32) (l3 : Int32) (l5 : Int32) (l6 : Int32) (S : ZS) (t31 : (Int32 × Int32)) : Option ((Int32 × Int32) ⊕ ((Int32 × Int32) ⊕ Int32)) :=
  Option.bind (zgI S l0 0 1) fun v4 =>
  (if v4 ≤ t31.2 then
  zex (some (.inl (t31.1, l5 + (1 : Int32))))
  else
  Option.bind (zgI S l0 0 1) fun v5 =>
  Option.bind (fX5_numberIn l2 v5 t31.2 (2 : Int32)) fun x6 =>
  Option.bind (zgI S l0 0 2) fun v7 =>
  some (.inl ((t31.1 <<< (v7 &&& 31)) ||| ((l6 * x6) * l3), t31.2 + (1 : Int32))))
def fX2_bitsOfSingle_B6 (l0 : Nat) (l1 : Int32) (l2 : Int32) (l3 : Int32) (S : ZS) (t6 : (Int32 × Int32)) : Option ((Int32 × Int32) ⊕ Int32) :=
  Option.bind (zgI S l0 0 0) fun v1 =>
  (if v1 ≤ t6.2 then
  zex (some t6.1)
  else
  Option.bind (zgI S l0 0 0) fun v2 =>
  Option.bind (fX5_numberIn l1 v2 t6.2 (2 : Int32)) fun x3 =>
  ziter (fX2_bitsOfSingle_B31 l0 l1 l2 l3 t6.2 x3 S) zF (t6.1, (0 : Int32)))
def fX2_bitsOfSingle (a0 : Nat) (a1 : Int32) (a2 : Int32) (a3 : Int32) (S : ZS) : Option Int32 :=
  ziter (fX2_bitsOfSingle_B6 a0 a1 a2 a3 S) zF ((0 : Int32), (0 : Int32))
def fX5_getLong_J21 (s0 : Int64) (S : ZS) : Option Int64 :=
  some s0
def fX5_getLong_J20  (S : ZS) : Option Int64 :=
  fX5_getLong_J21 (0 : Int64) S
def fX5_getLong (a0 : Nat) (a1 : Int32) (S : ZS) : Option Int64 :=
  (if a1 < 0 then
  fX5_getLong_J20  S
  else
  Option.bind (zal S a0) fun v1 =>
  (if v1 ≤ a1 then
  fX5_getLong_J20  S
  else
  Option.bind (zaJ S a0 a1) fun v2 =>
  fX5_getLong_J21 v2 S))
def fX2_addSingle (a0 : Nat) (a1 : Int32) (S : ZS) : Option ZS :=
  Option.bind (zgR S a0 2 0) fun v1 =>
  Option.bind (zgI S a0 2 2) fun v2 =>
  Option.bind (fX5_put v1 v2 a1 S) fun x3 =>
  Option.bind (zgI x3 a0 2 2) fun v4 =>
  Option.bind (zpF x3 a0 2 2 (.int (v4 + (1 : Int32)))) fun S5 =>
  Option.bind (zgR S5 a0 2 1) fun v6 =>
  Option.bind (zgR S5 a0 2 1) fun v7 =>
  Option.bind (fX5_getLong v7 (a1 / (64 : Int32)) S5) fun x8 =>
  Option.bind (fX5_putLong v6 (a1 / (64 : Int32)) (x8 ||| ((1 : Int64) <<< ((Int32.toInt64 (a1 % (64 : Int32))) &&& 63))) S5) fun x9 =>
  some x9
def fX2_gatherSingles_B59 (l0 : Nat) (l1 : Nat) (l2 : Int32) (l3 : Int32) (t59 : (Int32 × ZS)) : Option ((Int32 × ZS) ⊕ ((Int32 × ZS) ⊕ ((Int32 × ZS) ⊕ ZS))) :=
  Option.bind (zgI t59.2 l1 0 2) fun v6 =>
  Option.bind (fX5_power (2 : Int32) v6) fun x7 =>
  (if x7 ≤ t59.1 then
  zex (some (.inl (l3 + (1 : Int32), t59.2)))
  else
  Option.bind (fX2_bitsOfSingle l1 l2 l3 t59.1 t59.2) fun x8 =>
  Option.bind (zcl t59.2 l0 2 (fX2_addSingle l0 x8 t59.2)) fun x9 =>
  some (.inl (t59.1 + (1 : Int32), x9)))
def fX2_gatherSingles_B44 (l0 : Nat) (l1 : Nat) (l2 : Int32) (t44 : (Int32 × ZS)) : Option ((Int32 × ZS) ⊕ ((Int32 × ZS) ⊕ ZS)) :=
  Option.bind (zgI t44.2 l1 0 1) fun v4 =>
  Option.bind (fX5_power (2 : Int32) v4) fun x5 =>
  (if x5 ≤ t44.1 then
  zex (some (.inl (l2 + (1 : Int32), t44.2)))
  else
  ziter (fX2_gatherSingles_B59 l0 l1 l2 t44.1) zF ((1 : Int32), t44.2))
def fX2_gatherSingles_B30 (l0 : Nat) (l1 : Nat) (t30 : (Int32 × ZS)) : Option ((Int32 × ZS) ⊕ ZS) :=
  Option.bind (zgI t30.2 l1 0 0) fun v2 =>
  Option.bind (fX5_power (2 : Int32) v2) fun x3 =>
  (if x3 ≤ t30.1 then
  zex (some t30.2)
  else
  ziter (fX2_gatherSingles_B44 l0 l1 t30.1) zF ((1 : Int32), t30.2))
def fX2_gatherSingles_B2 (l0 : Nat) (l1 : Nat) (t2 : (Int32 × ZS)) : Option ((Int32 × ZS) ⊕ ZS) :=
  (if (64 : Int32) ≤ t2.1 then
  zex (Option.bind (zpF t2.2 l0 2 2 (.int (0 : Int32))) fun S1 =>
  ziter (fX2_gatherSingles_B30 l0 l1) zF ((1 : Int32), S1))
  else
  Option.bind (zgR t2.2 l0 2 1) fun v28 =>
  Option.bind (fX5_putLong v28 t2.1 (0 : Int64) t2.2) fun x29 =>
  some (.inl (t2.1 + (1 : Int32), x29)))
def fX2_gatherSingles (a0 : Nat) (a1 : Nat) (S : ZS) : Option ZS :=
  ziter (fX2_gatherSingles_B2 a0 a1) zF ((0 : Int32), S)
def fX2_bitsOf_B25 (l0 : Nat) (l2 : Int32) (l3 : Int32) (S : ZS) (t25 : (Int32 × Int32)) : Option ((Int32 × Int32) ⊕ ((Int32 × Int32) ⊕ ((Int32 × Int32) ⊕ Int32))) :=
  Option.bind (zgI S l0 0 2) fun v3 =>
  (if v3 ≤ t25.2 then
  zex (some (.inl (t25.1, l3 + (1 : Int32))))
  else
  Option.bind (zcl S l0 0 (fX0_numberAt l0 l2 l3 t25.2 S)) fun x4 =>
  some (.inl ((t25.1 <<< ((1 : Int32) &&& 31)) ||| x4, t25.2 + (1 : Int32))))
def fX2_bitsOf_B14 (l0 : Nat) (l2 : Int32) (S : ZS) (t14 : (Int32 × Int32)) : Option ((Int32 × Int32) ⊕ ((Int32 × Int32) ⊕ Int32)) :=
  Option.bind (zgI S l0 0 1) fun v2 =>
  (if v2 ≤ t14.2 then
  zex (some (.inl (t14.1, l2 + (1 : Int32))))
  else
  ziter (fX2_bitsOf_B25 l0 l2 t14.2 S) zF (t14.1, (0 : Int32)))
def fX2_bitsOf_B4 (l0 : Nat) (S : ZS) (t4 : (Int32 × Int32)) : Option ((Int32 × Int32) ⊕ Int32) :=
  Option.bind (zgI S l0 0 0) fun v1 =>
  (if v1 ≤ t4.2 then
  zex (some t4.1)
  else
  ziter (fX2_bitsOf_B14 l0 t4.2 S) zF (t4.1, (0 : Int32)))
def fX2_bitsOf (a0 : Nat) (S : ZS) : Option Int32 :=
  ziter (fX2_bitsOf_B4 a0 S) zF ((0 : Int32), (0 : Int32))
def fX2_isSingle_J28 (s0 : Int32) (S : ZS) : Option Int32 :=
  Option.bind (zbl s0) fun w => some w
def fX2_isSingle (a0 : Nat) (a1 : Int32) (S : ZS) : Option Int32 :=
  Option.bind (zgR S a0 2 1) fun v1 =>
  Option.bind (fX5_getLong v1 (a1 / (64 : Int32)) S) fun x2 =>
  (if (lg_cmp ((((Int64.toUInt64 x2) >>> ((Int64.toUInt64 (Int32.toInt64 (a1 % (64 : Int32)))) &&& Int64.toUInt64 63)).toInt64) &&& (1 : Int64)) (0 : Int64)) = 0 then
  fX2_isSingle_J28 (0 : Int32) S
  else
  fX2_isSingle_J28 (1 : Int32) S)
def fX2_isMade_B29 (rc : Nat → Int32 → Int32 → Int32 → ZS → Option Int32) (l0 : Nat) (l1 : Int32) (l2 : Int32) (S : ZS) (t29 : Int32) : Option (Int32 ⊕ Int32) :=
  Option.bind (zgI S l0 2 2) fun v2 =>
  (if v2 ≤ t29 then
  zex (some (0 : Int32))
  else
  Option.bind (zgR S l0 2 0) fun v3 =>
  Option.bind (fX5_get v3 t29 S) fun x4 =>
  Option.bind (zcl S l0 2 (rc l0 (l1 ^^^ x4) (l2 - (1 : Int32)) (t29 + (1 : Int32)) S)) fun x5 =>
  (if x5 = 0 then
  some (.inl (t29 + (1 : Int32)))
  else
  zex (some (1 : Int32))))
def fX2_isMade_J14 (rc : Nat → Int32 → Int32 → Int32 → ZS → Option Int32) (s0 : Int32) (S : ZS) : Option Int32 :=
  Option.bind (zbl s0) fun w => some w
def fX2_isMade_F (rc : Nat → Int32 → Int32 → Int32 → ZS → Option Int32) (a0 : Nat) (a1 : Int32) (a2 : Int32) (a3 : Int32) (S : ZS) : Option Int32 :=
  (if (1 : Int32) ≤ a2 then
  (if a2 = (1 : Int32) then
  Option.bind (zcl S a0 2 (fX2_isSingle a0 a1 S)) fun x1 =>
  Option.bind (zbl x1) fun w => some w
  else
  ziter (fX2_isMade_B29 rc a0 a1 a2 S) zF a3)
  else
  (if a1 = 0 then
  fX2_isMade_J14 rc (1 : Int32) S
  else
  fX2_isMade_J14 rc (0 : Int32) S))
def fX2_isMade : Nat → Nat → Int32 → Int32 → Int32 → ZS → Option Int32
  | 0 => fun _ _ _ _ _ => none
  | d + 1 => fX2_isMade_F (fX2_isMade d)
def fX2_fewest_B13 (l0 : Nat) (l3 : Int32) (S : ZS) (t13 : Int32) : Option (Int32 ⊕ (Int32 × ZS)) :=
  (if (12 : Int32) ≤ t13 then
  zex (some ((12 : Int32), S))
  else
  Option.bind (zcl S l0 2 (fX2_isMade 13 l0 l3 t13 (0 : Int32) S)) fun x3 =>
  (if x3 = 0 then
  some (.inl (t13 + (1 : Int32)))
  else
  zex (some (t13, S))))
def fX2_fewest (a0 : Nat) (a1 : Nat) (a2 : Int32) (S : ZS) : Option (Int32 × ZS) :=
  Option.bind (zcl S a0 2 (fX2_gatherSingles a0 a1 S)) fun x1 =>
  Option.bind (fX2_bitsOf a1 x1) fun x2 =>
  ziter (fX2_fewest_B13 a0 x2 x1) zF a2
def fX5_least (a0 : Nat) (a1 : Int32) (S : ZS) : Option ((Int32 × ZS) ⊕ ZX) :=
  zbT (zcl S a0 5 (fX5_needCube a0 a1 S)) fun x1 =>
  zbT (zcl x1.2 a0 5 (fX5_needSmall a0 x1.1 (12 : Int32) x1.2)) fun x2 =>
  Option.bind (zgR x2.2 a0 5 3) fun v3 =>
  Option.bind (zcl x2.2 a0 5 (fX5_greatestRank a0 x1.1 x2.2)) fun x4 =>
  Option.bind (zcl x4.2 v3 2 (fX2_fewest v3 x1.1 x4.1 x4.2)) fun x5 =>
  some (.inl (x5.1, x5.2))
def fX5_leastAnew (a0 : Nat) (a1 : Int32) (S : ZS) : Option ((Int32 × ZS) ⊕ ZX) :=
  zbT (zcl S a0 5 (fX5_needCube a0 a1 S)) fun x1 =>
  zbT (zcl x1.2 a0 5 (fX5_needSmall a0 x1.1 (8 : Int32) x1.2)) fun x2 =>
  Option.bind (zgR x2.2 a0 5 3) fun v3 =>
  Option.bind (zcl x2.2 v3 2 (fX2_fewest v3 x1.1 (0 : Int32) x2.2)) fun x4 =>
  some (.inl (x4.1, x4.2))
def fX4_number (a0 : Nat) (a1 : Int32) (a2 : Int32) (a3 : Int32) (S : ZS) : Option Int32 :=
  Option.bind (zcl S a0 4 (fX4_code a0 a1 a2 S)) fun x1 =>
  Option.bind (zgR S a0 4 0) fun v2 =>
  Option.bind (zcl S v2 0 (fX0_sizeOf v2 a2 S)) fun x3 =>
  Option.bind (zgI S a0 4 1) fun v4 =>
  Option.bind (fX5_numberIn x1 x3 a3 v4) fun x5 =>
  some x5
def fX4_addEntries_J121 (l0 : Nat) (l1 : Int32) (l2 : Nat) (l3 : Int32) (S : ZS) : Option ((Int32 × ZS) ⊕ ZS) :=
  some (.inl (l3 + (1 : Int32), S))
def fX4_addEntries_J115 (l0 : Nat) (l1 : Int32) (l2 : Nat) (l3 : Int32) (l4 : Int32) (l5 : Int32) (S : ZS) : Option ((Int32 × ZS) ⊕ ((Int32 × ZS) ⊕ ZS)) :=
  some (.inl (l5 + (1 : Int32), S))
def fX4_addEntries_B58 (l0 : Nat) (l1 : Int32) (l2 : Nat) (l3 : Int32) (l4 : Int32) (l5 : Int32) (l6 : Int32) (t58 : (Int32 × ZS)) : Option ((Int32 × ZS) ⊕ ((Int32 × ZS) ⊕ ((Int32 × ZS) ⊕ ZS))) :=
  Option.bind (zgR t58.2 l0 4 0) fun v7 =>
  Option.bind (zgI t58.2 v7 0 2) fun v8 =>
  (if v8 ≤ t58.1 then
  zex (fX4_addEntries_J115 l0 l1 l2 l3 l4 l5 t58.2)
  else
  (if l6 = 0 then
  zex (fX4_addEntries_J115 l0 l1 l2 l3 l4 l5 t58.2)
  else
  Option.bind (fX0_indexOf l3 l5 t58.1) fun x9 =>
  Option.bind (fX5_get l2 x9 t58.2) fun x10 =>
  Option.bind (zcl t58.2 l0 4 (fX4_number l0 l1 (2 : Int32) t58.1 t58.2)) fun x11 =>
  Option.bind (fX5_put l2 x9 (x10 + (l6 * x11)) t58.2) fun x12 =>
  some (.inl (t58.1 + (1 : Int32), x12))))
def fX4_addEntries_B25 (l0 : Nat) (l1 : Int32) (l2 : Nat) (l3 : Int32) (l4 : Int32) (t25 : (Int32 × ZS)) : Option ((Int32 × ZS) ⊕ ((Int32 × ZS) ⊕ ZS)) :=
  Option.bind (zgR t25.2 l0 4 0) fun v4 =>
  Option.bind (zgI t25.2 v4 0 1) fun v5 =>
  (if v5 ≤ t25.1 then
  zex (fX4_addEntries_J121 l0 l1 l2 l3 t25.2)
  else
  (if l4 = 0 then
  zex (fX4_addEntries_J121 l0 l1 l2 l3 t25.2)
  else
  Option.bind (zcl t25.2 l0 4 (fX4_number l0 l1 (1 : Int32) t25.1 t25.2)) fun x6 =>
  ziter (fX4_addEntries_B58 l0 l1 l2 l3 l4 t25.1 (l4 * x6)) zF ((0 : Int32), t25.2)))
def fX4_addEntries_B2 (l0 : Nat) (l1 : Int32) (l2 : Nat) (t2 : (Int32 × ZS)) : Option ((Int32 × ZS) ⊕ ZS) :=
  Option.bind (zgR t2.2 l0 4 0) fun v1 =>
  Option.bind (zgI t2.2 v1 0 0) fun v2 =>
  (if v2 ≤ t2.1 then
  zex (some t2.2)
  else
  Option.bind (zcl t2.2 l0 4 (fX4_number l0 l1 (0 : Int32) t2.1 t2.2)) fun x3 =>
  ziter (fX4_addEntries_B25 l0 l1 l2 t2.1 x3) zF ((0 : Int32), t2.2))
def fX4_addEntries (a0 : Nat) (a1 : Int32) (a2 : Nat) (S : ZS) : Option ZS :=
  ziter (fX4_addEntries_B2 a0 a1 a2) zF ((0 : Int32), S)
def fX4_countWrongPlaces_J84 (l0 : Nat) (l1 : Nat) (l3 : Int32) (s0 : Int32) (s1 : Int32) (S : ZS) : Option ((Int32 × Int32) ⊕ (Int32 × ZS)) :=
  some (.inl (s0 + s1, l3 + (1 : Int32)))
def fX4_countWrongPlaces_B46 (l0 : Nat) (l1 : Nat) (S : ZS) (t46 : (Int32 × Int32)) : Option ((Int32 × Int32) ⊕ (Int32 × ZS)) :=
  (if (64 : Int32) ≤ t46.2 then
  zex (some (t46.1, S))
  else
  Option.bind (fX5_get l1 t46.2 S) fun x2 =>
  Option.bind (zgI S l0 4 1) fun v3 =>
  Option.bind (fX5_remainder x2 v3) fun x4 =>
  Option.bind (zgR S l0 4 0) fun v5 =>
  Option.bind (zgR S v5 0 3) fun v6 =>
  Option.bind (fX5_get v6 t46.2 S) fun x7 =>
  (if x4 = x7 then
  fX4_countWrongPlaces_J84 l0 l1 t46.2 t46.1 (0 : Int32) S
  else
  fX4_countWrongPlaces_J84 l0 l1 t46.2 t46.1 (1 : Int32) S))
def fX4_countWrongPlaces_B22 (l0 : Nat) (l1 : Nat) (t22 : (Int32 × ZS)) : Option ((Int32 × ZS) ⊕ (Int32 × ZS)) :=
  Option.bind (zgI t22.2 l0 4 3) fun v1 =>
  (if v1 ≤ t22.1 then
  zex (ziter (fX4_countWrongPlaces_B46 l0 l1 t22.2) zF ((0 : Int32), (0 : Int32)))
  else
  Option.bind (zcl t22.2 l0 4 (fX4_addEntries l0 t22.1 l1 t22.2)) fun x14 =>
  some (.inl (t22.1 + (1 : Int32), x14)))
def fX4_countWrongPlaces_B2 (l0 : Nat) (l1 : Nat) (t2 : (Int32 × ZS)) : Option ((Int32 × ZS) ⊕ (Int32 × ZS)) :=
  (if (64 : Int32) ≤ t2.1 then
  zex (ziter (fX4_countWrongPlaces_B22 l0 l1) zF ((0 : Int32), t2.2))
  else
  Option.bind (fX5_put l1 t2.1 (0 : Int32) t2.2) fun x23 =>
  some (.inl (t2.1 + (1 : Int32), x23)))
def fX4_countWrongPlaces (a0 : Nat) (a1 : Nat) (S : ZS) : Option (Int32 × ZS) :=
  ziter (fX4_countWrongPlaces_B2 a0 a1) zF ((0 : Int32), S)
def fX3_clear (a0 : Nat) (S : ZS) : Option ZS :=
  Option.bind (zpF S a0 3 1 (.int (0 : Int32))) fun S1 =>
  some S1
def fX4_filledPlaces_J38 (l0 : Nat) (l1 : Int32) (l2 : Int32) (l5 : Int32) (s0 : Int64) (s1 : Int64) (S : ZS) : Option ((Int64 × Int32) ⊕ Int64) :=
  some (.inl (s0 ||| s1, l5 + (1 : Int32)))
def fX4_filledPlaces_B5 (l0 : Nat) (l1 : Int32) (l2 : Int32) (S : ZS) (t5 : (Int64 × Int32)) : Option ((Int64 × Int32) ⊕ Int64) :=
  Option.bind (zgR S l0 4 0) fun v1 =>
  Option.bind (zcl S v1 0 (fX0_sizeOf v1 l2 S)) fun x2 =>
  (if x2 ≤ t5.2 then
  zex (some t5.1)
  else
  Option.bind (zcl S l0 4 (fX4_number l0 l1 l2 t5.2 S)) fun x3 =>
  (if x3 = 0 then
  fX4_filledPlaces_J38 l0 l1 l2 t5.2 t5.1 (0 : Int64) S
  else
  fX4_filledPlaces_J38 l0 l1 l2 t5.2 t5.1 ((1 : Int64) <<< ((Int32.toInt64 t5.2) &&& 63)) S))
def fX4_filledPlaces (a0 : Nat) (a1 : Int32) (a2 : Int32) (S : ZS) : Option Int64 :=
  ziter (fX4_filledPlaces_B5 a0 a1 a2 S) zF ((0 : Int64), (0 : Int32))
def fX3_append (a0 : Nat) (a1 : Int64) (S : ZS) : Option ZS :=
  Option.bind (zgR S a0 3 0) fun v1 =>
  Option.bind (zgI S a0 3 1) fun v2 =>
  Option.bind (fX5_putLong v1 v2 a1 S) fun x3 =>
  Option.bind (zgI x3 a0 3 1) fun v4 =>
  Option.bind (zpF x3 a0 3 1 (.int (v4 + (1 : Int32)))) fun S5 =>
  some S5
def fX4_filledProducts_J34 (l0 : Nat) (l1 : Int32) (l2 : Int32) (l5 : Int32) (s0 : Int64) (s1 : Int64) (S : ZS) : Option ((Int64 × Int32) ⊕ Int64) :=
  some (.inl (s0 ||| s1, l5 + (1 : Int32)))
def fX4_filledProducts_B5 (l0 : Nat) (l1 : Int32) (l2 : Int32) (S : ZS) (t5 : (Int64 × Int32)) : Option ((Int64 × Int32) ⊕ Int64) :=
  Option.bind (zgI S l0 4 3) fun v1 =>
  (if v1 ≤ t5.2 then
  zex (some t5.1)
  else
  Option.bind (zcl S l0 4 (fX4_number l0 t5.2 l1 l2 S)) fun x2 =>
  (if x2 = 0 then
  fX4_filledProducts_J34 l0 l1 l2 t5.2 t5.1 (0 : Int64) S
  else
  fX4_filledProducts_J34 l0 l1 l2 t5.2 t5.1 ((1 : Int64) <<< ((Int32.toInt64 t5.2) &&& 63)) S))
def fX4_filledProducts (a0 : Nat) (a1 : Int32) (a2 : Int32) (S : ZS) : Option Int64 :=
  ziter (fX4_filledProducts_B5 a0 a1 a2 S) zF ((0 : Int64), (0 : Int32))
def fX4_tellSums_J68  (S : ZS) : Option ZS :=
  some S
def fX4_tellSums_B11 (l0 : Nat) (l1 : Int32) (l2 : Nat) (t11 : (Int32 × ZS)) : Option ((Int32 × ZS) ⊕ ZS) :=
  Option.bind (zgI t11.2 l0 4 3) fun v2 =>
  (if v2 ≤ t11.1 then
  zex (fX4_tellSums_J68  t11.2)
  else
  Option.bind (zcl t11.2 l0 4 (fX4_filledPlaces l0 t11.1 l1 t11.2)) fun x3 =>
  Option.bind (zcl t11.2 l2 3 (fX3_append l2 x3 t11.2)) fun x4 =>
  some (.inl (t11.1 + (1 : Int32), x4)))
def fX4_tellSums_B40 (l0 : Nat) (l1 : Int32) (l2 : Nat) (t40 : (Int32 × ZS)) : Option ((Int32 × ZS) ⊕ ZS) :=
  Option.bind (zgR t40.2 l0 4 0) fun v8 =>
  Option.bind (zcl t40.2 v8 0 (fX0_sizeOf v8 l1 t40.2)) fun x9 =>
  (if x9 ≤ t40.1 then
  zex (fX4_tellSums_J68  t40.2)
  else
  Option.bind (zcl t40.2 l0 4 (fX4_filledProducts l0 l1 t40.1 t40.2)) fun x10 =>
  Option.bind (zcl t40.2 l2 3 (fX3_append l2 x10 t40.2)) fun x11 =>
  some (.inl (t40.1 + (1 : Int32), x11)))
def fX4_tellSums (a0 : Nat) (a1 : Int32) (a2 : Nat) (S : ZS) : Option ZS :=
  Option.bind (zcl S a2 3 (fX3_clear a2 S)) fun x1 =>
  (if a1 = (2 : Int32) then
  ziter (fX4_tellSums_B11 a0 a1 a2) zF ((0 : Int32), x1)
  else
  ziter (fX4_tellSums_B40 a0 a1 a2) zF ((0 : Int32), x1))
def fJ13_bitCount_95d88 (a0 : Int64) : Option Int32 :=
  some ((Int64.toInt32 ((((((((a0 - ((((Int64.toUInt64 a0) >>> ((Int64.toUInt64 (Int32.toInt64 (1 : Int32))) &&& Int64.toUInt64 63)).toInt64) &&& (6148914691236517205 : Int64))) &&& (3689348814741910323 : Int64)) + ((((Int64.toUInt64 (a0 - ((((Int64.toUInt64 a0) >>> ((Int64.toUInt64 (Int32.toInt64 (1 : Int32))) &&& Int64.toUInt64 63)).toInt64) &&& (6148914691236517205 : Int64)))) >>> ((Int64.toUInt64 (Int32.toInt64 (2 : Int32))) &&& Int64.toUInt64 63)).toInt64) &&& (3689348814741910323 : Int64))) + (((Int64.toUInt64 (((a0 - ((((Int64.toUInt64 a0) >>> ((Int64.toUInt64 (Int32.toInt64 (1 : Int32))) &&& Int64.toUInt64 63)).toInt64) &&& (6148914691236517205 : Int64))) &&& (3689348814741910323 : Int64)) + ((((Int64.toUInt64 (a0 - ((((Int64.toUInt64 a0) >>> ((Int64.toUInt64 (Int32.toInt64 (1 : Int32))) &&& Int64.toUInt64 63)).toInt64) &&& (6148914691236517205 : Int64)))) >>> ((Int64.toUInt64 (Int32.toInt64 (2 : Int32))) &&& Int64.toUInt64 63)).toInt64) &&& (3689348814741910323 : Int64)))) >>> ((Int64.toUInt64 (Int32.toInt64 (4 : Int32))) &&& Int64.toUInt64 63)).toInt64)) &&& (1085102592571150095 : Int64)) + (((Int64.toUInt64 (((((a0 - ((((Int64.toUInt64 a0) >>> ((Int64.toUInt64 (Int32.toInt64 (1 : Int32))) &&& Int64.toUInt64 63)).toInt64) &&& (6148914691236517205 : Int64))) &&& (3689348814741910323 : Int64)) + ((((Int64.toUInt64 (a0 - ((((Int64.toUInt64 a0) >>> ((Int64.toUInt64 (Int32.toInt64 (1 : Int32))) &&& Int64.toUInt64 63)).toInt64) &&& (6148914691236517205 : Int64)))) >>> ((Int64.toUInt64 (Int32.toInt64 (2 : Int32))) &&& Int64.toUInt64 63)).toInt64) &&& (3689348814741910323 : Int64))) + (((Int64.toUInt64 (((a0 - ((((Int64.toUInt64 a0) >>> ((Int64.toUInt64 (Int32.toInt64 (1 : Int32))) &&& Int64.toUInt64 63)).toInt64) &&& (6148914691236517205 : Int64))) &&& (3689348814741910323 : Int64)) + ((((Int64.toUInt64 (a0 - ((((Int64.toUInt64 a0) >>> ((Int64.toUInt64 (Int32.toInt64 (1 : Int32))) &&& Int64.toUInt64 63)).toInt64) &&& (6148914691236517205 : Int64)))) >>> ((Int64.toUInt64 (Int32.toInt64 (2 : Int32))) &&& Int64.toUInt64 63)).toInt64) &&& (3689348814741910323 : Int64)))) >>> ((Int64.toUInt64 (Int32.toInt64 (4 : Int32))) &&& Int64.toUInt64 63)).toInt64)) &&& (1085102592571150095 : Int64))) >>> ((Int64.toUInt64 (Int32.toInt64 (8 : Int32))) &&& Int64.toUInt64 63)).toInt64)) + (((Int64.toUInt64 ((((((a0 - ((((Int64.toUInt64 a0) >>> ((Int64.toUInt64 (Int32.toInt64 (1 : Int32))) &&& Int64.toUInt64 63)).toInt64) &&& (6148914691236517205 : Int64))) &&& (3689348814741910323 : Int64)) + ((((Int64.toUInt64 (a0 - ((((Int64.toUInt64 a0) >>> ((Int64.toUInt64 (Int32.toInt64 (1 : Int32))) &&& Int64.toUInt64 63)).toInt64) &&& (6148914691236517205 : Int64)))) >>> ((Int64.toUInt64 (Int32.toInt64 (2 : Int32))) &&& Int64.toUInt64 63)).toInt64) &&& (3689348814741910323 : Int64))) + (((Int64.toUInt64 (((a0 - ((((Int64.toUInt64 a0) >>> ((Int64.toUInt64 (Int32.toInt64 (1 : Int32))) &&& Int64.toUInt64 63)).toInt64) &&& (6148914691236517205 : Int64))) &&& (3689348814741910323 : Int64)) + ((((Int64.toUInt64 (a0 - ((((Int64.toUInt64 a0) >>> ((Int64.toUInt64 (Int32.toInt64 (1 : Int32))) &&& Int64.toUInt64 63)).toInt64) &&& (6148914691236517205 : Int64)))) >>> ((Int64.toUInt64 (Int32.toInt64 (2 : Int32))) &&& Int64.toUInt64 63)).toInt64) &&& (3689348814741910323 : Int64)))) >>> ((Int64.toUInt64 (Int32.toInt64 (4 : Int32))) &&& Int64.toUInt64 63)).toInt64)) &&& (1085102592571150095 : Int64)) + (((Int64.toUInt64 (((((a0 - ((((Int64.toUInt64 a0) >>> ((Int64.toUInt64 (Int32.toInt64 (1 : Int32))) &&& Int64.toUInt64 63)).toInt64) &&& (6148914691236517205 : Int64))) &&& (3689348814741910323 : Int64)) + ((((Int64.toUInt64 (a0 - ((((Int64.toUInt64 a0) >>> ((Int64.toUInt64 (Int32.toInt64 (1 : Int32))) &&& Int64.toUInt64 63)).toInt64) &&& (6148914691236517205 : Int64)))) >>> ((Int64.toUInt64 (Int32.toInt64 (2 : Int32))) &&& Int64.toUInt64 63)).toInt64) &&& (3689348814741910323 : Int64))) + (((Int64.toUInt64 (((a0 - ((((Int64.toUInt64 a0) >>> ((Int64.toUInt64 (Int32.toInt64 (1 : Int32))) &&& Int64.toUInt64 63)).toInt64) &&& (6148914691236517205 : Int64))) &&& (3689348814741910323 : Int64)) + ((((Int64.toUInt64 (a0 - ((((Int64.toUInt64 a0) >>> ((Int64.toUInt64 (Int32.toInt64 (1 : Int32))) &&& Int64.toUInt64 63)).toInt64) &&& (6148914691236517205 : Int64)))) >>> ((Int64.toUInt64 (Int32.toInt64 (2 : Int32))) &&& Int64.toUInt64 63)).toInt64) &&& (3689348814741910323 : Int64)))) >>> ((Int64.toUInt64 (Int32.toInt64 (4 : Int32))) &&& Int64.toUInt64 63)).toInt64)) &&& (1085102592571150095 : Int64))) >>> ((Int64.toUInt64 (Int32.toInt64 (8 : Int32))) &&& Int64.toUInt64 63)).toInt64))) >>> ((Int64.toUInt64 (Int32.toInt64 (16 : Int32))) &&& Int64.toUInt64 63)).toInt64)) + (((Int64.toUInt64 (((((((a0 - ((((Int64.toUInt64 a0) >>> ((Int64.toUInt64 (Int32.toInt64 (1 : Int32))) &&& Int64.toUInt64 63)).toInt64) &&& (6148914691236517205 : Int64))) &&& (3689348814741910323 : Int64)) + ((((Int64.toUInt64 (a0 - ((((Int64.toUInt64 a0) >>> ((Int64.toUInt64 (Int32.toInt64 (1 : Int32))) &&& Int64.toUInt64 63)).toInt64) &&& (6148914691236517205 : Int64)))) >>> ((Int64.toUInt64 (Int32.toInt64 (2 : Int32))) &&& Int64.toUInt64 63)).toInt64) &&& (3689348814741910323 : Int64))) + (((Int64.toUInt64 (((a0 - ((((Int64.toUInt64 a0) >>> ((Int64.toUInt64 (Int32.toInt64 (1 : Int32))) &&& Int64.toUInt64 63)).toInt64) &&& (6148914691236517205 : Int64))) &&& (3689348814741910323 : Int64)) + ((((Int64.toUInt64 (a0 - ((((Int64.toUInt64 a0) >>> ((Int64.toUInt64 (Int32.toInt64 (1 : Int32))) &&& Int64.toUInt64 63)).toInt64) &&& (6148914691236517205 : Int64)))) >>> ((Int64.toUInt64 (Int32.toInt64 (2 : Int32))) &&& Int64.toUInt64 63)).toInt64) &&& (3689348814741910323 : Int64)))) >>> ((Int64.toUInt64 (Int32.toInt64 (4 : Int32))) &&& Int64.toUInt64 63)).toInt64)) &&& (1085102592571150095 : Int64)) + (((Int64.toUInt64 (((((a0 - ((((Int64.toUInt64 a0) >>> ((Int64.toUInt64 (Int32.toInt64 (1 : Int32))) &&& Int64.toUInt64 63)).toInt64) &&& (6148914691236517205 : Int64))) &&& (3689348814741910323 : Int64)) + ((((Int64.toUInt64 (a0 - ((((Int64.toUInt64 a0) >>> ((Int64.toUInt64 (Int32.toInt64 (1 : Int32))) &&& Int64.toUInt64 63)).toInt64) &&& (6148914691236517205 : Int64)))) >>> ((Int64.toUInt64 (Int32.toInt64 (2 : Int32))) &&& Int64.toUInt64 63)).toInt64) &&& (3689348814741910323 : Int64))) + (((Int64.toUInt64 (((a0 - ((((Int64.toUInt64 a0) >>> ((Int64.toUInt64 (Int32.toInt64 (1 : Int32))) &&& Int64.toUInt64 63)).toInt64) &&& (6148914691236517205 : Int64))) &&& (3689348814741910323 : Int64)) + ((((Int64.toUInt64 (a0 - ((((Int64.toUInt64 a0) >>> ((Int64.toUInt64 (Int32.toInt64 (1 : Int32))) &&& Int64.toUInt64 63)).toInt64) &&& (6148914691236517205 : Int64)))) >>> ((Int64.toUInt64 (Int32.toInt64 (2 : Int32))) &&& Int64.toUInt64 63)).toInt64) &&& (3689348814741910323 : Int64)))) >>> ((Int64.toUInt64 (Int32.toInt64 (4 : Int32))) &&& Int64.toUInt64 63)).toInt64)) &&& (1085102592571150095 : Int64))) >>> ((Int64.toUInt64 (Int32.toInt64 (8 : Int32))) &&& Int64.toUInt64 63)).toInt64)) + (((Int64.toUInt64 ((((((a0 - ((((Int64.toUInt64 a0) >>> ((Int64.toUInt64 (Int32.toInt64 (1 : Int32))) &&& Int64.toUInt64 63)).toInt64) &&& (6148914691236517205 : Int64))) &&& (3689348814741910323 : Int64)) + ((((Int64.toUInt64 (a0 - ((((Int64.toUInt64 a0) >>> ((Int64.toUInt64 (Int32.toInt64 (1 : Int32))) &&& Int64.toUInt64 63)).toInt64) &&& (6148914691236517205 : Int64)))) >>> ((Int64.toUInt64 (Int32.toInt64 (2 : Int32))) &&& Int64.toUInt64 63)).toInt64) &&& (3689348814741910323 : Int64))) + (((Int64.toUInt64 (((a0 - ((((Int64.toUInt64 a0) >>> ((Int64.toUInt64 (Int32.toInt64 (1 : Int32))) &&& Int64.toUInt64 63)).toInt64) &&& (6148914691236517205 : Int64))) &&& (3689348814741910323 : Int64)) + ((((Int64.toUInt64 (a0 - ((((Int64.toUInt64 a0) >>> ((Int64.toUInt64 (Int32.toInt64 (1 : Int32))) &&& Int64.toUInt64 63)).toInt64) &&& (6148914691236517205 : Int64)))) >>> ((Int64.toUInt64 (Int32.toInt64 (2 : Int32))) &&& Int64.toUInt64 63)).toInt64) &&& (3689348814741910323 : Int64)))) >>> ((Int64.toUInt64 (Int32.toInt64 (4 : Int32))) &&& Int64.toUInt64 63)).toInt64)) &&& (1085102592571150095 : Int64)) + (((Int64.toUInt64 (((((a0 - ((((Int64.toUInt64 a0) >>> ((Int64.toUInt64 (Int32.toInt64 (1 : Int32))) &&& Int64.toUInt64 63)).toInt64) &&& (6148914691236517205 : Int64))) &&& (3689348814741910323 : Int64)) + ((((Int64.toUInt64 (a0 - ((((Int64.toUInt64 a0) >>> ((Int64.toUInt64 (Int32.toInt64 (1 : Int32))) &&& Int64.toUInt64 63)).toInt64) &&& (6148914691236517205 : Int64)))) >>> ((Int64.toUInt64 (Int32.toInt64 (2 : Int32))) &&& Int64.toUInt64 63)).toInt64) &&& (3689348814741910323 : Int64))) + (((Int64.toUInt64 (((a0 - ((((Int64.toUInt64 a0) >>> ((Int64.toUInt64 (Int32.toInt64 (1 : Int32))) &&& Int64.toUInt64 63)).toInt64) &&& (6148914691236517205 : Int64))) &&& (3689348814741910323 : Int64)) + ((((Int64.toUInt64 (a0 - ((((Int64.toUInt64 a0) >>> ((Int64.toUInt64 (Int32.toInt64 (1 : Int32))) &&& Int64.toUInt64 63)).toInt64) &&& (6148914691236517205 : Int64)))) >>> ((Int64.toUInt64 (Int32.toInt64 (2 : Int32))) &&& Int64.toUInt64 63)).toInt64) &&& (3689348814741910323 : Int64)))) >>> ((Int64.toUInt64 (Int32.toInt64 (4 : Int32))) &&& Int64.toUInt64 63)).toInt64)) &&& (1085102592571150095 : Int64))) >>> ((Int64.toUInt64 (Int32.toInt64 (8 : Int32))) &&& Int64.toUInt64 63)).toInt64))) >>> ((Int64.toUInt64 (Int32.toInt64 (16 : Int32))) &&& Int64.toUInt64 63)).toInt64))) >>> ((Int64.toUInt64 (Int32.toInt64 (32 : Int32))) &&& Int64.toUInt64 63)).toInt64))) &&& (127 : Int32))
def fX3_replace (a0 : Nat) (a1 : Int32) (a2 : Int32) (S : ZS) : Option ZS :=
  Option.bind (zgR S a0 3 0) fun v1 =>
  Option.bind (fX5_getLong v1 a1 S) fun x2 =>
  Option.bind (zgR S a0 3 0) fun v3 =>
  Option.bind (fX5_getLong v3 a2 S) fun x4 =>
  Option.bind (zgR S a0 3 0) fun v5 =>
  Option.bind (zgR S a0 3 0) fun v6 =>
  Option.bind (fX5_getLong v6 a1 S) fun x7 =>
  Option.bind (fX5_putLong v5 a1 (x7 &&& ((x2 &&& x4) ^^^ (-1 : Int64))) S) fun x8 =>
  Option.bind (zgR x8 a0 3 0) fun v9 =>
  Option.bind (zgR x8 a0 3 0) fun v10 =>
  Option.bind (fX5_getLong v10 a2 x8) fun x11 =>
  Option.bind (fX5_putLong v9 a2 (x11 &&& ((x2 &&& x4) ^^^ (-1 : Int64))) x8) fun x12 =>
  Option.bind (zcl x12 a0 3 (fX3_append a0 (x2 &&& x4) x12)) fun x13 =>
  some x13
def fX3_shareBestPair_J91 (l0 : Nat) (l1 : Int32) (l2 : Int32) (l3 : Int32) (l4 : Int32) (S : ZS) : Option ((Int32 × Int32 × Int32 × Int32) ⊕ (Int32 × ZS)) :=
  some (.inl (l1, l2, l3, l4 + (1 : Int32)))
def fX3_shareBestPair_J85 (l0 : Nat) (l1 : Int32) (l2 : Int32) (l3 : Int32) (l4 : Int32) (l5 : Int64) (l7 : Int32) (S : ZS) : Option ((Int32 × Int32 × Int32 × Int32) ⊕ ((Int32 × Int32 × Int32 × Int32) ⊕ (Int32 × ZS))) :=
  some (.inl (l1, l2, l3, l7 + (1 : Int32)))
def fX3_shareBestPair_B35 (l0 : Nat) (l4 : Int32) (l5 : Int64) (S : ZS) (t35 : (Int32 × Int32 × Int32 × Int32)) : Option ((Int32 × Int32 × Int32 × Int32) ⊕ ((Int32 × Int32 × Int32 × Int32) ⊕ (Int32 × ZS))) :=
  Option.bind (zgI S l0 3 1) fun v5 =>
  (if v5 ≤ t35.2.2.2 then
  zex (fX3_shareBestPair_J91 l0 t35.1 t35.2.1 t35.2.2.1 l4 S)
  else
  Option.bind (fJ13_bitCount_95d88 l5) fun x6 =>
  (if x6 ≤ t35.2.2.1 then
  zex (fX3_shareBestPair_J91 l0 t35.1 t35.2.1 t35.2.2.1 l4 S)
  else
  Option.bind (zgR S l0 3 0) fun v7 =>
  Option.bind (fX5_getLong v7 t35.2.2.2 S) fun x8 =>
  Option.bind (fJ13_bitCount_95d88 (l5 &&& x8)) fun x9 =>
  (if x9 ≤ t35.2.2.1 then
  fX3_shareBestPair_J85 l0 t35.1 t35.2.1 t35.2.2.1 l4 l5 t35.2.2.2 S
  else
  fX3_shareBestPair_J85 l0 l4 t35.2.2.2 x9 l4 l5 t35.2.2.2 S)))
def fX3_shareBestPair_B9 (l0 : Nat) (S : ZS) (t9 : (Int32 × Int32 × Int32 × Int32)) : Option ((Int32 × Int32 × Int32 × Int32) ⊕ (Int32 × ZS)) :=
  Option.bind (zgI S l0 3 1) fun v1 =>
  (if v1 ≤ t9.2.2.2 then
  zex ((if t9.1 = (-1 : Int32) then
  some ((0 : Int32), S)
  else
  Option.bind (zcl S l0 3 (fX3_replace l0 t9.1 t9.2.1 S)) fun x2 =>
  some ((1 : Int32), x2)))
  else
  Option.bind (zgR S l0 3 0) fun v3 =>
  Option.bind (fX5_getLong v3 t9.2.2.2 S) fun x4 =>
  ziter (fX3_shareBestPair_B35 l0 t9.2.2.2 x4 S) zF (t9.1, t9.2.1, t9.2.2.1, t9.2.2.2 + (1 : Int32)))
def fX3_shareBestPair (a0 : Nat) (S : ZS) : Option (Int32 × ZS) :=
  ziter (fX3_shareBestPair_B9 a0 S) zF ((-1 : Int32), (-1 : Int32), (1 : Int32), (0 : Int32))
def fX3_sharePairs_J21 (l1 : Int32) (S : ZS) : Option (Int32 × ZS) :=
  some (l1, S)
def fX3_sharePairs_B2 (l0 : Nat) (t2 : (Int32 × ZS)) : Option ((Int32 × ZS) ⊕ (Int32 × ZS)) :=
  (if (80 : Int32) ≤ t2.1 then
  zex (fX3_sharePairs_J21 t2.1 t2.2)
  else
  Option.bind (zcl t2.2 l0 3 (fX3_shareBestPair l0 t2.2)) fun x1 =>
  (if x1.1 = 0 then
  zex (fX3_sharePairs_J21 t2.1 x1.2)
  else
  some (.inl (t2.1 + (1 : Int32), x1.2))))
def fX3_sharePairs (a0 : Nat) (S : ZS) : Option (Int32 × ZS) :=
  ziter (fX3_sharePairs_B2 a0) zF ((0 : Int32), S)
def fX3_countAdditions_B7 (l0 : Nat) (S : ZS) (t7 : (Int32 × Int64 × Int32)) : Option ((Int32 × Int64 × Int32) ⊕ Int32) :=
  Option.bind (zgI S l0 3 1) fun v1 =>
  (if v1 ≤ t7.2.2 then
  zex (Option.bind (fJ13_bitCount_95d88 t7.2.1) fun x2 =>
  some (t7.1 - x2))
  else
  Option.bind (zgR S l0 3 0) fun v3 =>
  Option.bind (fX5_getLong v3 t7.2.2 S) fun x4 =>
  Option.bind (fJ13_bitCount_95d88 x4) fun x5 =>
  some (.inl (t7.1 + x5, t7.2.1 ||| x4, t7.2.2 + (1 : Int32))))
def fX3_countAdditions (a0 : Nat) (S : ZS) : Option Int32 :=
  ziter (fX3_countAdditions_B7 a0 S) zF ((0 : Int32), (0 : Int64), (0 : Int32))
def fX5_countAdditions_J37 (l0 : Nat) (l1 : Nat) (l2 : Int32) (l4 : Int32) (s0 : Int32) (s1 : Int32) (S : ZS) : Option ((Int32 × Int32 × ZS) ⊕ (Int32 × ZS)) :=
  Option.bind (zgR S l0 5 4) fun v3 =>
  Option.bind (zcl S v3 3 (fX3_countAdditions v3 S)) fun x4 =>
  some (.inl ((s0 + s1) + x4, l4 + (1 : Int32), S))
def fX5_countAdditions_B5 (l0 : Nat) (l1 : Nat) (l2 : Int32) (t5 : (Int32 × Int32 × ZS)) : Option ((Int32 × Int32 × ZS) ⊕ (Int32 × ZS)) :=
  (if (3 : Int32) ≤ t5.2.1 then
  zex (some (t5.1, t5.2.2))
  else
  Option.bind (zgR t5.2.2 l0 5 4) fun v1 =>
  Option.bind (zcl t5.2.2 l1 4 (fX4_tellSums l1 t5.2.1 v1 t5.2.2)) fun x2 =>
  (if l2 = 0 then
  fX5_countAdditions_J37 l0 l1 l2 t5.2.1 t5.1 (0 : Int32) x2
  else
  Option.bind (zgR x2 l0 5 4) fun v5 =>
  Option.bind (zcl x2 v5 3 (fX3_sharePairs v5 x2)) fun x6 =>
  fX5_countAdditions_J37 l0 l1 l2 t5.2.1 t5.1 x6.1 x6.2))
def fX5_countAdditions (a0 : Nat) (a1 : Nat) (a2 : Int32) (S : ZS) : Option (Int32 × ZS) :=
  ziter (fX5_countAdditions_B5 a0 a1 a2) zF ((0 : Int32), (0 : Int32), S)
def fX4_growthAt_J52 (l0 : Nat) (l1 : Int32) (l2 : Int32) (l3 : Int32) (S : ZS) : Option ((Int32 × Int32) ⊕ Int32) :=
  some (.inl (l2, l3 + (1 : Int32)))
def fX4_growthAt_B4 (l0 : Nat) (l1 : Int32) (S : ZS) (t4 : (Int32 × Int32)) : Option ((Int32 × Int32) ⊕ Int32) :=
  Option.bind (zgI S l0 4 3) fun v1 =>
  (if v1 ≤ t4.2 then
  zex (some t4.1)
  else
  Option.bind (zcl S l0 4 (fX4_number l0 t4.2 (2 : Int32) l1 S)) fun x2 =>
  (if x2 = 0 then
  fX4_growthAt_J52 l0 l1 t4.1 t4.2 S
  else
  Option.bind (zcl S l0 4 (fX4_filledPlaces l0 t4.2 (0 : Int32) S)) fun x3 =>
  Option.bind (fJ13_bitCount_95d88 x3) fun x4 =>
  Option.bind (zcl S l0 4 (fX4_filledPlaces l0 t4.2 (1 : Int32) S)) fun x5 =>
  Option.bind (fJ13_bitCount_95d88 x5) fun x6 =>
  fX4_growthAt_J52 l0 l1 (t4.1 + (x4 * x6)) t4.2 S))
def fX4_growthAt (a0 : Nat) (a1 : Int32) (S : ZS) : Option Int32 :=
  ziter (fX4_growthAt_B4 a0 a1 S) zF ((0 : Int32), (0 : Int32))
def fX4_greatestGrowth_B4 (l0 : Nat) (S : ZS) (t4 : (Int32 × Int32)) : Option ((Int32 × Int32) ⊕ Int32) :=
  Option.bind (zgR S l0 4 0) fun v1 =>
  Option.bind (zgI S v1 0 2) fun v2 =>
  (if v2 ≤ t4.2 then
  zex (some t4.1)
  else
  Option.bind (zcl S l0 4 (fX4_growthAt l0 t4.2 S)) fun x3 =>
  Option.bind (fJ9_max_7cf53 t4.1 x3) fun x4 =>
  some (.inl (x4, t4.2 + (1 : Int32))))
def fX4_greatestGrowth (a0 : Nat) (S : ZS) : Option Int32 :=
  ziter (fX4_greatestGrowth_B4 a0 S) zF ((0 : Int32), (0 : Int32))
def fX5_ofWay_J15  (S : ZS) : Option ((Int32 × ZS) ⊕ ZX) :=
  some (.inr ("java/lang/IllegalArgumentException", S.1))
def fX5_ofWay (a0 : Nat) (a1 : Int32) (a2 : Int32) (S : ZS) : Option ((Int32 × ZS) ⊕ ZX) :=
  zbT (zcl S a0 5 (fX5_needWay a0 a1 S)) fun x1 =>
  (if a2 < 0 then
  fX5_ofWay_J15  x1.2
  else
  (if a2 ≤ (4 : Int32) then
  zsw a2 0 [Option.bind (zgI x1.2 x1.1 4 3) fun v2 =>
  some (.inl (v2, x1.2)),
  Option.bind (zgR x1.2 a0 5 5) fun v3 =>
  Option.bind (zcl x1.2 x1.1 4 (fX4_countWrongPlaces x1.1 v3 x1.2)) fun x4 =>
  some (.inl (x4.1, x4.2)),
  Option.bind (zcl x1.2 a0 5 (fX5_countAdditions a0 x1.1 (0 : Int32) x1.2)) fun x5 =>
  some (.inl (x5.1, x5.2)),
  Option.bind (zcl x1.2 a0 5 (fX5_countAdditions a0 x1.1 (1 : Int32) x1.2)) fun x6 =>
  some (.inl (x6.1, x6.2))] (Option.bind (zcl x1.2 x1.1 4 (fX4_greatestGrowth x1.1 x1.2)) fun x7 =>
  some (.inl (x7, x1.2)))
  else
  fX5_ofWay_J15  x1.2))
def fX5_vector (a0 : Nat) (a1 : Int32) (a2 : Int32) (a3 : Int32) (S : ZS) : Option ((Int32 × ZS) ⊕ ZX) :=
  zbT (zcl S a0 5 (fX5_needWay a0 a1 S)) fun x1 =>
  zbT (fX5_needProduct x1.1 a2 x1.2) fun x2 =>
  zbT (fX5_needSide a3 x2.2) fun x3 =>
  Option.bind (zcl x3.2 x1.1 4 (fX4_code x1.1 a2 a3 x3.2)) fun x4 =>
  some (.inl (x4, x3.2))
def fX5_needFactors (a0 : Nat) (a1 : Nat) (a2 : Int32) (a3 : Int32) (a4 : Int32) (S : ZS) : Option ((Unit × ZS) ⊕ ZX) :=
  Option.bind (zgR S a1 4 0) fun v1 =>
  Option.bind (zgI S v1 0 2) fun v2 =>
  Option.bind (fX5_isBelow a4 v2) fun x3 =>
  (if x3 = 0 then
  some (.inr ("java/lang/IndexOutOfBoundsException", S.1))
  else
  Option.bind (zgR S a1 4 0) fun v4 =>
  Option.bind (zgI S v4 0 0) fun v5 =>
  zbT (zcl S a0 5 (fX5_needCode a0 a2 v5 S)) fun x6 =>
  Option.bind (zgR x6.2 a1 4 0) fun v7 =>
  Option.bind (zgI x6.2 v7 0 1) fun v8 =>
  zbT (zcl x6.2 a0 5 (fX5_needCode a0 a3 v8 x6.2)) fun x9 =>
  some (.inl ((), x9.2)))
def fX5_multipliedCodes_B6 (l0 : Int32) (l1 : Int32) (l2 : Int32) (l3 : Int32) (t6 : (Int32 × Int32)) : Option ((Int32 × Int32) ⊕ Int32) :=
  (if l2 ≤ t6.2 then
  zex (Option.bind (fX5_remainder t6.1 l3) fun x1 =>
  some x1)
  else
  Option.bind (fX5_numberIn l0 l2 t6.2 l3) fun x2 =>
  Option.bind (fX5_numberIn l1 l2 t6.2 l3) fun x3 =>
  some (.inl (t6.1 + (x2 * x3), t6.2 + (1 : Int32))))
def fX5_multipliedCodes (a0 : Int32) (a1 : Int32) (a2 : Int32) (a3 : Int32) : Option Int32 :=
  ziter (fX5_multipliedCodes_B6 a0 a1 a2 a3) zF ((0 : Int32), (0 : Int32))
def fX4_multiplied_B6 (l0 : Nat) (l1 : Int32) (l2 : Int32) (l3 : Int32) (S : ZS) (t6 : (Int32 × Int32)) : Option ((Int32 × Int32) ⊕ Int32) :=
  Option.bind (zgI S l0 4 3) fun v1 =>
  (if v1 ≤ t6.2 then
  zex (Option.bind (zgI S l0 4 1) fun v2 =>
  Option.bind (fX5_remainder t6.1 v2) fun x3 =>
  some x3)
  else
  Option.bind (zcl S l0 4 (fX4_code l0 t6.2 (0 : Int32) S)) fun x4 =>
  Option.bind (zgR S l0 4 0) fun v5 =>
  Option.bind (zgI S v5 0 0) fun v6 =>
  Option.bind (zgI S l0 4 1) fun v7 =>
  Option.bind (fX5_multipliedCodes x4 l1 v6 v7) fun x8 =>
  Option.bind (zcl S l0 4 (fX4_code l0 t6.2 (1 : Int32) S)) fun x9 =>
  Option.bind (zgR S l0 4 0) fun v10 =>
  Option.bind (zgI S v10 0 1) fun v11 =>
  Option.bind (zgI S l0 4 1) fun v12 =>
  Option.bind (fX5_multipliedCodes x9 l2 v11 v12) fun x13 =>
  Option.bind (zcl S l0 4 (fX4_number l0 t6.2 (2 : Int32) l3 S)) fun x14 =>
  some (.inl (t6.1 + ((x14 * x8) * x13), t6.2 + (1 : Int32))))
def fX4_multiplied (a0 : Nat) (a1 : Int32) (a2 : Int32) (a3 : Int32) (S : ZS) : Option Int32 :=
  ziter (fX4_multiplied_B6 a0 a1 a2 a3 S) zF ((0 : Int32), (0 : Int32))
def fX5_result (a0 : Nat) (a1 : Int32) (a2 : Int32) (a3 : Int32) (a4 : Int32) (S : ZS) : Option ((Int32 × ZS) ⊕ ZX) :=
  zbT (zcl S a0 5 (fX5_needWay a0 a1 S)) fun x1 =>
  zbT (zcl x1.2 a0 5 (fX5_needFactors a0 x1.1 a2 a3 a4 x1.2)) fun x2 =>
  Option.bind (zcl x2.2 x1.1 4 (fX4_multiplied x1.1 a2 a3 a4 x2.2)) fun x3 =>
  some (.inl (x3, x2.2))
def fX4_multipliedByCube_B40 (l0 : Nat) (l1 : Int32) (l2 : Int32) (l3 : Int32) (l5 : Int32) (l6 : Int32) (S : ZS) (t40 : (Int32 × Int32)) : Option ((Int32 × Int32) ⊕ ((Int32 × Int32) ⊕ Int32)) :=
  Option.bind (zgR S l0 4 0) fun v9 =>
  Option.bind (zgI S v9 0 1) fun v10 =>
  (if v10 ≤ t40.2 then
  zex (some (.inl (t40.1, l5 + (1 : Int32))))
  else
  Option.bind (zgR S l0 4 0) fun v11 =>
  Option.bind (zgI S v11 0 1) fun v12 =>
  Option.bind (zgI S l0 4 1) fun v13 =>
  Option.bind (fX5_numberIn l2 v12 t40.2 v13) fun x14 =>
  Option.bind (zgR S l0 4 0) fun v15 =>
  Option.bind (zcl S v15 0 (fX0_numberAt v15 l5 t40.2 l3 S)) fun x16 =>
  some (.inl (t40.1 + ((x16 * l6) * x14), t40.2 + (1 : Int32))))
def fX4_multipliedByCube_B6 (l0 : Nat) (l1 : Int32) (l2 : Int32) (l3 : Int32) (S : ZS) (t6 : (Int32 × Int32)) : Option ((Int32 × Int32) ⊕ Int32) :=
  Option.bind (zgR S l0 4 0) fun v1 =>
  Option.bind (zgI S v1 0 0) fun v2 =>
  (if v2 ≤ t6.2 then
  zex (Option.bind (zgI S l0 4 1) fun v3 =>
  Option.bind (fX5_remainder t6.1 v3) fun x4 =>
  some x4)
  else
  Option.bind (zgR S l0 4 0) fun v5 =>
  Option.bind (zgI S v5 0 0) fun v6 =>
  Option.bind (zgI S l0 4 1) fun v7 =>
  Option.bind (fX5_numberIn l1 v6 t6.2 v7) fun x8 =>
  ziter (fX4_multipliedByCube_B40 l0 l1 l2 l3 t6.2 x8 S) zF (t6.1, (0 : Int32)))
def fX4_multipliedByCube (a0 : Nat) (a1 : Int32) (a2 : Int32) (a3 : Int32) (S : ZS) : Option Int32 :=
  ziter (fX4_multipliedByCube_B6 a0 a1 a2 a3 S) zF ((0 : Int32), (0 : Int32))
def fX5_resultByCube (a0 : Nat) (a1 : Int32) (a2 : Int32) (a3 : Int32) (a4 : Int32) (S : ZS) : Option ((Int32 × ZS) ⊕ ZX) :=
  zbT (zcl S a0 5 (fX5_needWay a0 a1 S)) fun x1 =>
  zbT (zcl x1.2 a0 5 (fX5_needFactors a0 x1.1 a2 a3 a4 x1.2)) fun x2 =>
  Option.bind (zcl x2.2 x1.1 4 (fX4_multipliedByCube x1.1 a2 a3 a4 x2.2)) fun x3 =>
  some (.inl (x3, x2.2))
def fX5_additionsInLevels_B28 (l0 : Nat) (l1 : Int32) (l2 : Int64) (l4 : Int64) (S : ZS) (t28 : (Int64 × Int64 × Int32)) : Option ((Int64 × Int64 × Int32) ⊕ Int64) :=
  (if l1 < t28.2.2 then
  zex (some t28.2.1)
  else
  Option.bind (zgI S l0 4 3) fun v5 =>
  some (.inl (t28.1 * l4, (t28.2.1 * (Int32.toInt64 v5)) + (l2 * t28.1), t28.2.2 + (1 : Int32))))
def fX5_additionsInLevels (a0 : Nat) (a1 : Int32) (a2 : Int64) (S : ZS) : Option Int64 :=
  Option.bind (zgR S a0 4 0) fun v1 =>
  Option.bind (zgI S v1 0 4) fun v2 =>
  Option.bind (zgR S a0 4 0) fun v3 =>
  Option.bind (zgI S v3 0 4) fun v4 =>
  ziter (fX5_additionsInLevels_B28 a0 a1 a2 ((Int32.toInt64 v2) * (Int32.toInt64 v4)) S) zF ((1 : Int64), (0 : Int64), (1 : Int32))
def fX5_multiplicationsInLevels_B5 (l0 : Nat) (l1 : Int32) (S : ZS) (t5 : (Int64 × Int32)) : Option ((Int64 × Int32) ⊕ Int64) :=
  (if l1 < t5.2 then
  zex (some t5.1)
  else
  Option.bind (zgI S l0 4 3) fun v1 =>
  some (.inl (t5.1 * (Int32.toInt64 v1), t5.2 + (1 : Int32))))
def fX5_multiplicationsInLevels (a0 : Nat) (a1 : Int32) (S : ZS) : Option Int64 :=
  ziter (fX5_multiplicationsInLevels_B5 a0 a1 S) zF ((1 : Int64), (1 : Int32))
def fX5_levels_J17  (S : ZS) : Option ((Int64 × ZS) ⊕ ZX) :=
  some (.inr ("java/lang/IllegalArgumentException", S.1))
def fX5_levels_J76 (s0 : Int64) (S : ZS) : Option ((Int64 × ZS) ⊕ ZX) :=
  some (.inl (s0, S))
def fX5_levels (a0 : Nat) (a1 : Int32) (a2 : Int32) (a3 : Int32) (S : ZS) : Option ((Int64 × ZS) ⊕ ZX) :=
  zbT (zcl S a0 5 (fX5_needWay a0 a1 S)) fun x1 =>
  (if a2 < 0 then
  fX5_levels_J17  x1.2
  else
  (if a2 ≤ (6 : Int32) then
  Option.bind (zgR x1.2 x1.1 4 0) fun v2 =>
  Option.bind (zgI x1.2 v2 0 4) fun v3 =>
  (if (2 : Int32) ≤ v3 then
  (if a3 = 0 then
  Option.bind (fX5_multiplicationsInLevels x1.1 a2 x1.2) fun x4 =>
  fX5_levels_J76 x4 x1.2
  else
  Option.bind (zcl x1.2 a0 5 (fX5_countAdditions a0 x1.1 (0 : Int32) x1.2)) fun x5 =>
  Option.bind (fX5_additionsInLevels x1.1 a2 (Int32.toInt64 x5.1) x5.2) fun x6 =>
  fX5_levels_J76 x6 x5.2)
  else
  some (.inr ("java/lang/IllegalStateException", x1.2.1)))
  else
  fX5_levels_J17  x1.2))
def fX6_init (a0 : Nat) (S : ZS) : Option ZS :=
  Option.bind (zpF S a0 6 1 (.int (2 : Int32))) fun S1 =>
  Option.bind (zpF (zna S1 0 48) a0 6 3 (.ref S1.2)) fun S2 =>
  Option.bind (zpF (zna S2 0 1024) a0 6 4 (.ref S2.2)) fun S3 =>
  Option.bind (zpF (zna S3 0 16) a0 6 5 (.ref S3.2)) fun S4 =>
  Option.bind (zpF (zna S4 0 48) a0 6 7 (.ref S4.2)) fun S5 =>
  Option.bind (zpF (zna S5 0 1024) a0 6 8 (.ref S5.2)) fun S6 =>
  Option.bind (zpF (zna S6 0 16) a0 6 9 (.ref S6.2)) fun S7 =>
  Option.bind (zpF (zna S7 0 16) a0 6 10 (.ref S7.2)) fun S8 =>
  Option.bind (zpF (zna S8 0 7680) a0 6 11 (.ref S8.2)) fun S9 =>
  Option.bind (zpF (zna S9 0 64) a0 6 12 (.ref S9.2)) fun S10 =>
  Option.bind (zpF (zna S10 0 4096) a0 6 13 (.ref S10.2)) fun S11 =>
  Option.bind (zpF (zna S11 0 4096) a0 6 14 (.ref S11.2)) fun S12 =>
  Option.bind (zpF (zna S12 2 5120) a0 6 16 (.ref S12.2)) fun S13 =>
  some S13
def fX6_thrown (a0 : Nat) (S : ZS) : Option Int32 :=
  Option.bind (zgI S a0 6 0) fun v1 =>
  some v1
def fX6_goesWell_J14 (s0 : Int32) (S : ZS) : Option (Int32 × ZS) :=
  Option.bind (zbl s0) fun w => some (w, S)
def fX6_goesWell (a0 : Nat) (a1 : Int32) (S : ZS) : Option (Int32 × ZS) :=
  Option.bind (zpF S a0 6 0 (.int a1)) fun S1 =>
  (if a1 = 0 then
  fX6_goesWell_J14 (1 : Int32) S1
  else
  fX6_goesWell_J14 (0 : Int32) S1)
def fX6_in_J15 (s0 : Int32) : Option Int32 :=
  Option.bind (zbl s0) fun w => some w
def fX6_in_J14  : Option Int32 :=
  fX6_in_J15 (0 : Int32)
def fX6_in (a0 : Int32) (a1 : Int32) (a2 : Int32) : Option Int32 :=
  (if a0 < a1 then
  fX6_in_J14
  else
  (if a2 < a0 then
  fX6_in_J14
  else
  fX6_in_J15 (1 : Int32)))
def fX6_isCube (a0 : Nat) (a1 : Int32) (S : ZS) : Option Int32 :=
  Option.bind (zgI S a0 6 2) fun v1 =>
  Option.bind (fX6_in a1 (0 : Int32) (v1 - (1 : Int32))) fun x2 =>
  Option.bind (zbl x2) fun w => some w
def fX6_isWay (a0 : Nat) (a1 : Int32) (S : ZS) : Option Int32 :=
  Option.bind (zgI S a0 6 6) fun v1 =>
  Option.bind (fX6_in a1 (0 : Int32) (v1 - (1 : Int32))) fun x2 =>
  Option.bind (zbl x2) fun w => some w
def fX6_isSide (a0 : Int32) : Option Int32 :=
  Option.bind (fX6_in a0 (0 : Int32) (2 : Int32)) fun x1 =>
  Option.bind (zbl x1) fun w => some w
def fX6_place (a0 : Int32) (a1 : Int32) (a2 : Int32) : Option Int32 :=
  some ((((16 : Int32) * a0) + ((4 : Int32) * a1)) + a2)
def fX6_prime_J42 (l0 : Nat) (l1 : Int32) (s0 : Nat) (s1 : Int32) (S : ZS) : Option (Int32 × ZS) :=
  Option.bind (zcl S s0 6 (fX6_goesWell s0 s1 S)) fun x1 =>
  (if x1.1 = 0 then
  some ((0 : Int32), x1.2)
  else
  Option.bind (zgI x1.2 l0 6 1) fun v2 =>
  Option.bind (zpF x1.2 l0 6 1 (.int l1)) fun S3 =>
  some (v2, S3))
def fX6_prime_J20 (l0 : Nat) (l1 : Int32) (s0 : Int32) (S : ZS) : Option (Int32 × ZS) :=
  (if s0 = 0 then
  fX6_prime_J42 l0 l1 l0 (1 : Int32) S
  else
  Option.bind (zgI S l0 6 2) fun v4 =>
  (if v4 ≤ 0 then
  fX6_prime_J42 l0 l1 l0 (0 : Int32) S
  else
  fX6_prime_J42 l0 l1 l0 (2 : Int32) S))
def fX6_prime_J15 (l0 : Nat) (l1 : Int32) (S : ZS) : Option (Int32 × ZS) :=
  fX6_prime_J20 l0 l1 (1 : Int32) S
def fX6_prime (a0 : Nat) (a1 : Int32) (S : ZS) : Option (Int32 × ZS) :=
  (if a1 = (2 : Int32) then
  fX6_prime_J15 a0 a1 S
  else
  (if a1 = (3 : Int32) then
  fX6_prime_J15 a0 a1 S
  else
  (if a1 = (5 : Int32) then
  fX6_prime_J15 a0 a1 S
  else
  fX6_prime_J20 a0 a1 (0 : Int32) S)))
def fX6_make_B43 (l0 : Nat) (t43 : (Int32 × ZS)) : Option ((Int32 × ZS) ⊕ (Int32 × ZS)) :=
  (if (64 : Int32) ≤ t43.1 then
  zex (Option.bind (zgR t43.2 l0 6 5) fun v10 =>
  Option.bind (zgI t43.2 l0 6 2) fun v11 =>
  Option.bind (zsI t43.2 v10 0 v11 (0 : Int32)) fun S12 =>
  Option.bind (zgI S12 l0 6 2) fun v13 =>
  Option.bind (zpF S12 l0 6 2 (.int (v13 + (1 : Int32)))) fun S14 =>
  Option.bind (zgI S14 l0 6 2) fun v15 =>
  some (v15 - (1 : Int32), S14))
  else
  Option.bind (zgR t43.2 l0 6 4) fun v16 =>
  Option.bind (zgI t43.2 l0 6 2) fun v17 =>
  Option.bind (zsI t43.2 v16 0 (((64 : Int32) * v17) + t43.1) (0 : Int32)) fun S18 =>
  some (.inl (t43.1 + (1 : Int32), S18)))
def fX6_make (a0 : Nat) (a1 : Int32) (a2 : Int32) (a3 : Int32) (S : ZS) : Option (Int32 × ZS) :=
  Option.bind (zgR S a0 6 3) fun v1 =>
  Option.bind (zgI S a0 6 2) fun v2 =>
  Option.bind (zsI S v1 0 ((3 : Int32) * v2) a1) fun S3 =>
  Option.bind (zgR S3 a0 6 3) fun v4 =>
  Option.bind (zgI S3 a0 6 2) fun v5 =>
  Option.bind (zsI S3 v4 0 (((3 : Int32) * v5) + (1 : Int32)) a2) fun S6 =>
  Option.bind (zgR S6 a0 6 3) fun v7 =>
  Option.bind (zgI S6 a0 6 2) fun v8 =>
  Option.bind (zsI S6 v7 0 (((3 : Int32) * v8) + (2 : Int32)) a3) fun S9 =>
  ziter (fX6_make_B43 a0) zF ((0 : Int32), S9)
def fX6_canMake_J58 (s0 : Nat) (s1 : Int32) (S : ZS) : Option (Int32 × ZS) :=
  Option.bind (zcl S s0 6 (fX6_goesWell s0 s1 S)) fun x2 =>
  Option.bind (zbl x2.1) fun w => some (w, x2.2)
def fX6_canMake_J32 (l0 : Nat) (s0 : Int32) (S : ZS) : Option (Int32 × ZS) :=
  (if s0 = 0 then
  fX6_canMake_J58 l0 (1 : Int32) S
  else
  Option.bind (zgI S l0 6 2) fun v3 =>
  (if v3 = (16 : Int32) then
  fX6_canMake_J58 l0 (2 : Int32) S
  else
  fX6_canMake_J58 l0 (0 : Int32) S))
def fX6_canMake_J31 (l0 : Nat) (S : ZS) : Option (Int32 × ZS) :=
  fX6_canMake_J32 l0 (0 : Int32) S
def fX6_canMake (a0 : Nat) (a1 : Int32) (a2 : Int32) (a3 : Int32) (S : ZS) : Option (Int32 × ZS) :=
  Option.bind (fX6_in a1 (1 : Int32) (4 : Int32)) fun x1 =>
  (if x1 = 0 then
  fX6_canMake_J31 a0 S
  else
  Option.bind (fX6_in a2 (1 : Int32) (4 : Int32)) fun x4 =>
  (if x4 = 0 then
  fX6_canMake_J31 a0 S
  else
  Option.bind (fX6_in a3 (1 : Int32) (4 : Int32)) fun x5 =>
  (if x5 = 0 then
  fX6_canMake_J31 a0 S
  else
  fX6_canMake_J32 a0 (1 : Int32) S)))
def fX6_cube_J21 (s0 : Int32) (S : ZS) : Option (Int32 × ZS) :=
  some (s0, S)
def fX6_cube (a0 : Nat) (a1 : Int32) (a2 : Int32) (a3 : Int32) (S : ZS) : Option (Int32 × ZS) :=
  Option.bind (zcl S a0 6 (fX6_canMake a0 a1 a2 a3 S)) fun x1 =>
  (if x1.1 = 0 then
  fX6_cube_J21 (0 : Int32) x1.2
  else
  Option.bind (zcl x1.2 a0 6 (fX6_make a0 a1 a2 a3 x1.2)) fun x2 =>
  fX6_cube_J21 x2.1 x2.2)
def fX6_matrices_J201 (l5 : Int32) (s0 : Nat) (s1 : Int32) (s2 : Int32) (S : ZS) : Option (Int32 × ZS) :=
  Option.bind (zsI S s0 0 s1 s2) fun S5 =>
  some (l5, S5)
def fX6_matrices_J200 (l5 : Int32) (s0 : Nat) (s1 : Int32) (S : ZS) : Option (Int32 × ZS) :=
  fX6_matrices_J201 l5 s0 s1 (0 : Int32) S
def fX6_matrices_B115 (l0 : Nat) (l1 : Int32) (l2 : Int32) (l3 : Int32) (l5 : Int32) (l6 : Int32) (l7 : Int32) (t115 : (Int32 × ZS)) : Option ((Int32 × ZS) ⊕ ((Int32 × ZS) ⊕ ((Int32 × ZS) ⊕ (Int32 × ZS)))) :=
  (if l3 ≤ t115.1 then
  zex (some (.inl (l7 + (1 : Int32), t115.2)))
  else
  Option.bind (zgR t115.2 l0 6 4) fun v6 =>
  Option.bind (fX6_place ((l6 * l2) + l7) ((l7 * l3) + t115.1) ((l6 * l3) + t115.1)) fun x7 =>
  Option.bind (zsI t115.2 v6 0 (((64 : Int32) * l5) + x7) (1 : Int32)) fun S8 =>
  some (.inl (t115.1 + (1 : Int32), S8)))
def fX6_matrices_B106 (l0 : Nat) (l1 : Int32) (l2 : Int32) (l3 : Int32) (l5 : Int32) (l6 : Int32) (t106 : (Int32 × ZS)) : Option ((Int32 × ZS) ⊕ ((Int32 × ZS) ⊕ (Int32 × ZS))) :=
  (if l2 ≤ t106.1 then
  zex (some (.inl (l6 + (1 : Int32), t106.2)))
  else
  ziter (fX6_matrices_B115 l0 l1 l2 l3 l5 l6 t106.1) zF ((0 : Int32), t106.2))
def fX6_matrices_B97 (l0 : Nat) (l1 : Int32) (l2 : Int32) (l3 : Int32) (l5 : Int32) (t97 : (Int32 × ZS)) : Option ((Int32 × ZS) ⊕ (Int32 × ZS)) :=
  (if l1 ≤ t97.1 then
  zex (Option.bind (zgR t97.2 l0 6 5) fun v4 =>
  (if l1 = l2 then
  (if l2 = l3 then
  (if l1 ≤ (1 : Int32) then
  fX6_matrices_J200 l5 v4 l5 t97.2
  else
  fX6_matrices_J201 l5 v4 l5 l1 t97.2)
  else
  fX6_matrices_J200 l5 v4 l5 t97.2)
  else
  fX6_matrices_J200 l5 v4 l5 t97.2))
  else
  ziter (fX6_matrices_B106 l0 l1 l2 l3 l5 t97.1) zF ((0 : Int32), t97.2))
def fX6_matrices_J71 (l0 : Nat) (l1 : Int32) (l2 : Int32) (l3 : Int32) (s0 : Nat) (s1 : Int32) (s2 : Int32) (s3 : Int32) (S : ZS) : Option (Int32 × ZS) :=
  Option.bind (zcl S s0 6 (fX6_canMake s0 s1 s2 s3 S)) fun x2 =>
  (if x2.1 = 0 then
  some ((0 : Int32), x2.2)
  else
  Option.bind (zcl x2.2 l0 6 (fX6_make l0 (l1 * l2) (l2 * l3) (l1 * l3) x2.2)) fun x3 =>
  ziter (fX6_matrices_B97 l0 l1 l2 l3 x3.1) zF ((0 : Int32), x3.2))
def fX6_matrices_J59 (l0 : Nat) (l1 : Int32) (l2 : Int32) (l3 : Int32) (l4 : Int32) (s0 : Nat) (s1 : Int32) (s2 : Int32) (S : ZS) : Option (Int32 × ZS) :=
  (if l4 = 0 then
  fX6_matrices_J71 l0 l1 l2 l3 s0 s1 s2 (0 : Int32) S
  else
  fX6_matrices_J71 l0 l1 l2 l3 s0 s1 s2 (l1 * l3) S)
def fX6_matrices_J47 (l0 : Nat) (l1 : Int32) (l2 : Int32) (l3 : Int32) (l4 : Int32) (s0 : Nat) (s1 : Int32) (S : ZS) : Option (Int32 × ZS) :=
  (if l4 = 0 then
  fX6_matrices_J59 l0 l1 l2 l3 l4 s0 s1 (0 : Int32) S
  else
  fX6_matrices_J59 l0 l1 l2 l3 l4 s0 s1 (l2 * l3) S)
def fX6_matrices_J32 (l0 : Nat) (l1 : Int32) (l2 : Int32) (l3 : Int32) (s0 : Int32) (S : ZS) : Option (Int32 × ZS) :=
  (if s0 = 0 then
  fX6_matrices_J47 l0 l1 l2 l3 s0 l0 (0 : Int32) S
  else
  fX6_matrices_J47 l0 l1 l2 l3 s0 l0 (l1 * l2) S)
def fX6_matrices_J31 (l0 : Nat) (l1 : Int32) (l2 : Int32) (l3 : Int32) (S : ZS) : Option (Int32 × ZS) :=
  fX6_matrices_J32 l0 l1 l2 l3 (0 : Int32) S
def fX6_matrices (a0 : Nat) (a1 : Int32) (a2 : Int32) (a3 : Int32) (S : ZS) : Option (Int32 × ZS) :=
  Option.bind (fX6_in a1 (1 : Int32) (4 : Int32)) fun x1 =>
  (if x1 = 0 then
  fX6_matrices_J31 a0 a1 a2 a3 S
  else
  Option.bind (fX6_in a2 (1 : Int32) (4 : Int32)) fun x19 =>
  (if x19 = 0 then
  fX6_matrices_J31 a0 a1 a2 a3 S
  else
  Option.bind (fX6_in a3 (1 : Int32) (4 : Int32)) fun x20 =>
  (if x20 = 0 then
  fX6_matrices_J31 a0 a1 a2 a3 S
  else
  fX6_matrices_J32 a0 a1 a2 a3 (1 : Int32) S)))
def fX6_polynomials_B89 (l0 : Nat) (l1 : Int32) (l2 : Int32) (l4 : Int32) (l5 : Int32) (t89 : (Int32 × ZS)) : Option ((Int32 × ZS) ⊕ ((Int32 × ZS) ⊕ (Int32 × ZS))) :=
  (if l2 ≤ t89.1 then
  zex (some (.inl (l5 + (1 : Int32), t89.2)))
  else
  Option.bind (zgR t89.2 l0 6 4) fun v4 =>
  Option.bind (fX6_place l5 t89.1 (l5 + t89.1)) fun x5 =>
  Option.bind (zsI t89.2 v4 0 (((64 : Int32) * l4) + x5) (1 : Int32)) fun S6 =>
  some (.inl (t89.1 + (1 : Int32), S6)))
def fX6_polynomials_B80 (l0 : Nat) (l1 : Int32) (l2 : Int32) (l4 : Int32) (t80 : (Int32 × ZS)) : Option ((Int32 × ZS) ⊕ (Int32 × ZS)) :=
  (if l1 ≤ t80.1 then
  zex (some (l4, t80.2))
  else
  ziter (fX6_polynomials_B89 l0 l1 l2 l4 t80.1) zF ((0 : Int32), t80.2))
def fX6_polynomials_J56 (l0 : Nat) (l1 : Int32) (l2 : Int32) (s0 : Nat) (s1 : Int32) (s2 : Int32) (s3 : Int32) (S : ZS) : Option (Int32 × ZS) :=
  Option.bind (zcl S s0 6 (fX6_canMake s0 s1 s2 s3 S)) fun x2 =>
  (if x2.1 = 0 then
  some ((0 : Int32), x2.2)
  else
  Option.bind (zcl x2.2 l0 6 (fX6_make l0 l1 l2 ((l1 + l2) - (1 : Int32)) x2.2)) fun x3 =>
  ziter (fX6_polynomials_B80 l0 l1 l2 x3.1) zF ((0 : Int32), x3.2))
def fX6_polynomials_J43 (l0 : Nat) (l1 : Int32) (l2 : Int32) (l3 : Int32) (s0 : Nat) (s1 : Int32) (s2 : Int32) (S : ZS) : Option (Int32 × ZS) :=
  (if l3 = 0 then
  fX6_polynomials_J56 l0 l1 l2 s0 s1 s2 (0 : Int32) S
  else
  fX6_polynomials_J56 l0 l1 l2 s0 s1 s2 ((l1 + l2) - (1 : Int32)) S)
def fX6_polynomials_J34 (l0 : Nat) (l1 : Int32) (l2 : Int32) (l3 : Int32) (s0 : Nat) (s1 : Int32) (S : ZS) : Option (Int32 × ZS) :=
  (if l3 = 0 then
  fX6_polynomials_J43 l0 l1 l2 l3 s0 s1 (0 : Int32) S
  else
  fX6_polynomials_J43 l0 l1 l2 l3 s0 s1 l2 S)
def fX6_polynomials_J23 (l0 : Nat) (l1 : Int32) (l2 : Int32) (s0 : Int32) (S : ZS) : Option (Int32 × ZS) :=
  (if s0 = 0 then
  fX6_polynomials_J34 l0 l1 l2 s0 l0 (0 : Int32) S
  else
  fX6_polynomials_J34 l0 l1 l2 s0 l0 l1 S)
def fX6_polynomials_J22 (l0 : Nat) (l1 : Int32) (l2 : Int32) (S : ZS) : Option (Int32 × ZS) :=
  fX6_polynomials_J23 l0 l1 l2 (0 : Int32) S
def fX6_polynomials (a0 : Nat) (a1 : Int32) (a2 : Int32) (S : ZS) : Option (Int32 × ZS) :=
  Option.bind (fX6_in a1 (1 : Int32) (4 : Int32)) fun x1 =>
  (if x1 = 0 then
  fX6_polynomials_J22 a0 a1 a2 S
  else
  Option.bind (fX6_in a2 (1 : Int32) (4 : Int32)) fun x13 =>
  (if x13 = 0 then
  fX6_polynomials_J22 a0 a1 a2 S
  else
  fX6_polynomials_J23 a0 a1 a2 (1 : Int32) S))
def fX6_group_B30 (l0 : Nat) (l1 : Int32) (l2 : Int32) (l3 : Int32) (t30 : (Int32 × ZS)) : Option ((Int32 × ZS) ⊕ ((Int32 × ZS) ⊕ (Int32 × ZS))) :=
  (if l1 ≤ t30.1 then
  zex (some (.inl (l3 + (1 : Int32), t30.2)))
  else
  Option.bind (zgR t30.2 l0 6 4) fun v3 =>
  Option.bind (zrem (l3 + t30.1) l1) fun v4 =>
  Option.bind (fX6_place l3 t30.1 v4) fun x5 =>
  Option.bind (zsI t30.2 v3 0 (((64 : Int32) * l2) + x5) (1 : Int32)) fun S6 =>
  some (.inl (t30.1 + (1 : Int32), S6)))
def fX6_group_B22 (l0 : Nat) (l1 : Int32) (l2 : Int32) (t22 : (Int32 × ZS)) : Option ((Int32 × ZS) ⊕ (Int32 × ZS)) :=
  (if l1 ≤ t22.1 then
  zex (some (l2, t22.2))
  else
  ziter (fX6_group_B30 l0 l1 l2 t22.1) zF ((0 : Int32), t22.2))
def fX6_group (a0 : Nat) (a1 : Int32) (S : ZS) : Option (Int32 × ZS) :=
  Option.bind (zcl S a0 6 (fX6_canMake a0 a1 a1 a1 S)) fun x1 =>
  (if x1.1 = 0 then
  some ((0 : Int32), x1.2)
  else
  Option.bind (zcl x1.2 a0 6 (fX6_make a0 a1 a1 a1 x1.2)) fun x2 =>
  ziter (fX6_group_B22 a0 a1 x2.1) zF ((0 : Int32), x2.2))
def fX6_isPlace_J72 (s0 : Int32) (S : ZS) : Option Int32 :=
  Option.bind (zbl s0) fun w => some w
def fX6_isPlace_J71  (S : ZS) : Option Int32 :=
  fX6_isPlace_J72 (0 : Int32) S
def fX6_isPlace (a0 : Nat) (a1 : Int32) (a2 : Int32) (a3 : Int32) (a4 : Int32) (S : ZS) : Option Int32 :=
  Option.bind (zcl S a0 6 (fX6_isCube a0 a1 S)) fun x1 =>
  (if x1 = 0 then
  fX6_isPlace_J71  S
  else
  Option.bind (zgR S a0 6 3) fun v2 =>
  Option.bind (zaI S v2 0 ((3 : Int32) * a1)) fun v3 =>
  Option.bind (fX6_in a2 (0 : Int32) (v3 - (1 : Int32))) fun x4 =>
  (if x4 = 0 then
  fX6_isPlace_J71  S
  else
  Option.bind (zgR S a0 6 3) fun v5 =>
  Option.bind (zaI S v5 0 (((3 : Int32) * a1) + (1 : Int32))) fun v6 =>
  Option.bind (fX6_in a3 (0 : Int32) (v6 - (1 : Int32))) fun x7 =>
  (if x7 = 0 then
  fX6_isPlace_J71  S
  else
  Option.bind (zgR S a0 6 3) fun v8 =>
  Option.bind (zaI S v8 0 (((3 : Int32) * a1) + (2 : Int32))) fun v9 =>
  Option.bind (fX6_in a4 (0 : Int32) (v9 - (1 : Int32))) fun x10 =>
  (if x10 = 0 then
  fX6_isPlace_J71  S
  else
  fX6_isPlace_J72 (1 : Int32) S))))
def fX6_set_J41 (l0 : Nat) (l1 : Int32) (l2 : Int32) (l3 : Int32) (l4 : Int32) (l5 : Int32) (s0 : Nat) (s1 : Int32) (S : ZS) : Option (Int32 × ZS) :=
  Option.bind (zcl S s0 6 (fX6_goesWell s0 s1 S)) fun x2 =>
  (if x2.1 = 0 then
  some ((0 : Int32), x2.2)
  else
  Option.bind (fX6_place l2 l3 l4) fun x3 =>
  Option.bind (zgR x2.2 l0 6 4) fun v4 =>
  Option.bind (zaI x2.2 v4 0 (((64 : Int32) * l1) + x3)) fun v5 =>
  Option.bind (zgR x2.2 l0 6 4) fun v6 =>
  Option.bind (zsI x2.2 v6 0 (((64 : Int32) * l1) + x3) l5) fun S7 =>
  Option.bind (zgR S7 l0 6 5) fun v8 =>
  Option.bind (zsI S7 v8 0 l1 (0 : Int32)) fun S9 =>
  some (v5, S9))
def fX6_set (a0 : Nat) (a1 : Int32) (a2 : Int32) (a3 : Int32) (a4 : Int32) (a5 : Int32) (S : ZS) : Option (Int32 × ZS) :=
  Option.bind (zcl S a0 6 (fX6_isPlace a0 a1 a2 a3 a4 S)) fun x1 =>
  (if x1 = 0 then
  fX6_set_J41 a0 a1 a2 a3 a4 a5 a0 (1 : Int32) S
  else
  Option.bind (zgI S a0 6 1) fun v10 =>
  Option.bind (fX6_in a5 (0 : Int32) (v10 - (1 : Int32))) fun x11 =>
  (if x11 = 0 then
  fX6_set_J41 a0 a1 a2 a3 a4 a5 a0 (2 : Int32) S
  else
  fX6_set_J41 a0 a1 a2 a3 a4 a5 a0 (0 : Int32) S))
def fX6_placeBy_J33 (s0 : Int32) : Option Int32 :=
  some s0
def fX6_placeBy (a0 : Int32) (a1 : Int32) (a2 : Int32) (a3 : Int32) : Option Int32 :=
  (if a0 = 0 then
  Option.bind (fX6_place a1 a2 a3) fun x1 =>
  fX6_placeBy_J33 x1
  else
  (if a0 = (1 : Int32) then
  Option.bind (fX6_place a2 a1 a3) fun x2 =>
  fX6_placeBy_J33 x2
  else
  Option.bind (fX6_place a2 a3 a1) fun x3 =>
  fX6_placeBy_J33 x3))
def fX6_move_J253 (l0 : Nat) (l7 : Int32) (l9 : Int32) (s0 : Int32) (s1 : Int32) (S : ZS) : Option ((Int32 × Int32) ⊕ (Int32 × ZS)) :=
  some (.inl (s0 + s1, l9 + (1 : Int32)))
def fX6_move_B226 (l0 : Nat) (l7 : Int32) (S : ZS) (t226 : (Int32 × Int32)) : Option ((Int32 × Int32) ⊕ (Int32 × ZS)) :=
  (if (64 : Int32) ≤ t226.2 then
  zex (some (t226.1, S))
  else
  Option.bind (zgR S l0 6 4) fun v5 =>
  Option.bind (zaI S v5 0 (l7 + t226.2)) fun v6 =>
  (if v6 = 0 then
  fX6_move_J253 l0 l7 t226.2 t226.1 (0 : Int32) S
  else
  fX6_move_J253 l0 l7 t226.2 t226.1 (1 : Int32) S))
def fX6_move_B125 (l0 : Nat) (l1 : Int32) (l2 : Int32) (l3 : Int32) (l4 : Int32) (l5 : Int32) (l7 : Int32) (l8 : Int32) (t125 : (Int32 × ZS)) : Option ((Int32 × ZS) ⊕ ((Int32 × ZS) ⊕ (Int32 × ZS))) :=
  (if (4 : Int32) ≤ t125.1 then
  zex (some (.inl (l8 + (1 : Int32), t125.2)))
  else
  Option.bind (zgR t125.2 l0 6 4) fun v9 =>
  Option.bind (fX6_placeBy l2 l3 l8 t125.1) fun x10 =>
  Option.bind (zaI t125.2 v9 0 (l7 + x10)) fun v11 =>
  Option.bind (zgR t125.2 l0 6 4) fun v12 =>
  Option.bind (fX6_placeBy l2 l4 l8 t125.1) fun x13 =>
  Option.bind (zaI t125.2 v12 0 (l7 + x13)) fun v14 =>
  Option.bind (zgR t125.2 l0 6 4) fun v15 =>
  Option.bind (fX6_placeBy l2 l4 l8 t125.1) fun x16 =>
  Option.bind (zgI t125.2 l0 6 1) fun v17 =>
  Option.bind (zrem (v14 + (l5 * v11)) v17) fun v18 =>
  Option.bind (zsI t125.2 v15 0 (l7 + x16) v18) fun S19 =>
  some (.inl (t125.1 + (1 : Int32), S19)))
def fX6_move_B116 (l0 : Nat) (l1 : Int32) (l2 : Int32) (l3 : Int32) (l4 : Int32) (l5 : Int32) (l7 : Int32) (t116 : (Int32 × ZS)) : Option ((Int32 × ZS) ⊕ (Int32 × ZS)) :=
  (if (4 : Int32) ≤ t116.1 then
  zex (Option.bind (zgR t116.2 l0 6 5) fun v3 =>
  Option.bind (zsI t116.2 v3 0 l1 (0 : Int32)) fun S4 =>
  ziter (fX6_move_B226 l0 l7 S4) zF ((0 : Int32), (0 : Int32)))
  else
  ziter (fX6_move_B125 l0 l1 l2 l3 l4 l5 l7 t116.1) zF ((0 : Int32), t116.2))
def fX6_move_J99 (l0 : Nat) (l1 : Int32) (l2 : Int32) (l3 : Int32) (l4 : Int32) (l5 : Int32) (s0 : Nat) (s1 : Int32) (S : ZS) : Option (Int32 × ZS) :=
  Option.bind (zcl S s0 6 (fX6_goesWell s0 s1 S)) fun x2 =>
  (if x2.1 = 0 then
  some ((0 : Int32), x2.2)
  else
  ziter (fX6_move_B116 l0 l1 l2 l3 l4 l5 ((64 : Int32) * l1)) zF ((0 : Int32), x2.2))
def fX6_move_J98 (l0 : Nat) (l1 : Int32) (l2 : Int32) (l3 : Int32) (l4 : Int32) (l5 : Int32) (s0 : Nat) (S : ZS) : Option (Int32 × ZS) :=
  fX6_move_J99 l0 l1 l2 l3 l4 l5 s0 (2 : Int32) S
def fX6_move_J61 (l0 : Nat) (l1 : Int32) (l2 : Int32) (l3 : Int32) (l4 : Int32) (l5 : Int32) (s0 : Int32) (S : ZS) : Option (Int32 × ZS) :=
  (if s0 = 0 then
  fX6_move_J99 l0 l1 l2 l3 l4 l5 l0 (1 : Int32) S
  else
  (if l3 = l4 then
  fX6_move_J98 l0 l1 l2 l3 l4 l5 l0 S
  else
  Option.bind (zgI S l0 6 1) fun v46 =>
  Option.bind (fX6_in l5 (1 : Int32) (v46 - (1 : Int32))) fun x47 =>
  (if x47 = 0 then
  fX6_move_J98 l0 l1 l2 l3 l4 l5 l0 S
  else
  fX6_move_J99 l0 l1 l2 l3 l4 l5 l0 (0 : Int32) S)))
def fX6_move_J60 (l0 : Nat) (l1 : Int32) (l2 : Int32) (l3 : Int32) (l4 : Int32) (l5 : Int32) (S : ZS) : Option (Int32 × ZS) :=
  fX6_move_J61 l0 l1 l2 l3 l4 l5 (0 : Int32) S
def fX6_move (a0 : Nat) (a1 : Int32) (a2 : Int32) (a3 : Int32) (a4 : Int32) (a5 : Int32) (S : ZS) : Option (Int32 × ZS) :=
  Option.bind (zcl S a0 6 (fX6_isCube a0 a1 S)) fun x1 =>
  (if x1 = 0 then
  fX6_move_J60 a0 a1 a2 a3 a4 a5 S
  else
  Option.bind (fX6_isSide a2) fun x48 =>
  (if x48 = 0 then
  fX6_move_J60 a0 a1 a2 a3 a4 a5 S
  else
  Option.bind (zgR S a0 6 3) fun v49 =>
  Option.bind (zaI S v49 0 (((3 : Int32) * a1) + a2)) fun v50 =>
  Option.bind (fX6_in a3 (0 : Int32) (v50 - (1 : Int32))) fun x51 =>
  (if x51 = 0 then
  fX6_move_J60 a0 a1 a2 a3 a4 a5 S
  else
  Option.bind (zgR S a0 6 3) fun v52 =>
  Option.bind (zaI S v52 0 (((3 : Int32) * a1) + a2)) fun v53 =>
  Option.bind (fX6_in a4 (0 : Int32) (v53 - (1 : Int32))) fun x54 =>
  (if x54 = 0 then
  fX6_move_J60 a0 a1 a2 a3 a4 a5 S
  else
  fX6_move_J61 a0 a1 a2 a3 a4 a5 (1 : Int32) S))))
def fX6_sum_B175 (l0 : Nat) (l1 : Int32) (l2 : Int32) (l5 : Int32) (t175 : (Int32 × ZS)) : Option ((Int32 × ZS) ⊕ (Int32 × ZS)) :=
  (if (64 : Int32) ≤ t175.1 then
  zex (some (l5, t175.2))
  else
  Option.bind (zgR t175.2 l0 6 4) fun v10 =>
  Option.bind (zgR t175.2 l0 6 4) fun v11 =>
  Option.bind (zaI t175.2 v11 0 (((64 : Int32) * l1) + t175.1)) fun v12 =>
  Option.bind (zgR t175.2 l0 6 4) fun v13 =>
  Option.bind (zaI t175.2 v13 0 (((64 : Int32) * l2) + t175.1)) fun v14 =>
  Option.bind (zgI t175.2 l0 6 1) fun v15 =>
  Option.bind (zrem (v12 + v14) v15) fun v16 =>
  Option.bind (zsI t175.2 v10 0 (((64 : Int32) * l5) + t175.1) v16) fun S17 =>
  some (.inl (t175.1 + (1 : Int32), S17)))
def fX6_sum_J130 (l0 : Nat) (l1 : Int32) (l2 : Int32) (s0 : Nat) (s1 : Int32) (S : ZS) : Option (Int32 × ZS) :=
  Option.bind (zcl S s0 6 (fX6_goesWell s0 s1 S)) fun x2 =>
  (if x2.1 = 0 then
  some ((0 : Int32), x2.2)
  else
  Option.bind (zgR x2.2 l0 6 3) fun v3 =>
  Option.bind (zaI x2.2 v3 0 ((3 : Int32) * l1)) fun v4 =>
  Option.bind (zgR x2.2 l0 6 3) fun v5 =>
  Option.bind (zaI x2.2 v5 0 (((3 : Int32) * l1) + (1 : Int32))) fun v6 =>
  Option.bind (zgR x2.2 l0 6 3) fun v7 =>
  Option.bind (zaI x2.2 v7 0 (((3 : Int32) * l1) + (2 : Int32))) fun v8 =>
  Option.bind (zcl x2.2 l0 6 (fX6_make l0 v4 v6 v8 x2.2)) fun x9 =>
  ziter (fX6_sum_B175 l0 l1 l2 x9.1) zF ((0 : Int32), x9.2))
def fX6_sum_J96 (l0 : Nat) (l1 : Int32) (l2 : Int32) (l3 : Int32) (s0 : Int32) (S : ZS) : Option (Int32 × ZS) :=
  (if l3 = 0 then
  fX6_sum_J130 l0 l1 l2 l0 (1 : Int32) S
  else
  (if s0 = 0 then
  fX6_sum_J130 l0 l1 l2 l0 (2 : Int32) S
  else
  Option.bind (zgI S l0 6 2) fun v26 =>
  (if v26 = (16 : Int32) then
  fX6_sum_J130 l0 l1 l2 l0 (3 : Int32) S
  else
  fX6_sum_J130 l0 l1 l2 l0 (0 : Int32) S)))
def fX6_sum_J95 (l0 : Nat) (l1 : Int32) (l2 : Int32) (l3 : Int32) (S : ZS) : Option (Int32 × ZS) :=
  fX6_sum_J96 l0 l1 l2 l3 (0 : Int32) S
def fX6_sum_J21 (l0 : Nat) (l1 : Int32) (l2 : Int32) (s0 : Int32) (S : ZS) : Option (Int32 × ZS) :=
  (if s0 = 0 then
  fX6_sum_J95 l0 l1 l2 s0 S
  else
  Option.bind (zgR S l0 6 3) fun v27 =>
  Option.bind (zaI S v27 0 ((3 : Int32) * l1)) fun v28 =>
  Option.bind (zgR S l0 6 3) fun v29 =>
  Option.bind (zaI S v29 0 ((3 : Int32) * l2)) fun v30 =>
  (if v28 = v30 then
  Option.bind (zgR S l0 6 3) fun v31 =>
  Option.bind (zaI S v31 0 (((3 : Int32) * l1) + (1 : Int32))) fun v32 =>
  Option.bind (zgR S l0 6 3) fun v33 =>
  Option.bind (zaI S v33 0 (((3 : Int32) * l2) + (1 : Int32))) fun v34 =>
  (if v32 = v34 then
  Option.bind (zgR S l0 6 3) fun v35 =>
  Option.bind (zaI S v35 0 (((3 : Int32) * l1) + (2 : Int32))) fun v36 =>
  Option.bind (zgR S l0 6 3) fun v37 =>
  Option.bind (zaI S v37 0 (((3 : Int32) * l2) + (2 : Int32))) fun v38 =>
  (if v36 = v38 then
  fX6_sum_J96 l0 l1 l2 s0 (1 : Int32) S
  else
  fX6_sum_J95 l0 l1 l2 s0 S)
  else
  fX6_sum_J95 l0 l1 l2 s0 S)
  else
  fX6_sum_J95 l0 l1 l2 s0 S))
def fX6_sum_J20 (l0 : Nat) (l1 : Int32) (l2 : Int32) (S : ZS) : Option (Int32 × ZS) :=
  fX6_sum_J21 l0 l1 l2 (0 : Int32) S
def fX6_sum (a0 : Nat) (a1 : Int32) (a2 : Int32) (S : ZS) : Option (Int32 × ZS) :=
  Option.bind (zcl S a0 6 (fX6_isCube a0 a1 S)) fun x1 =>
  (if x1 = 0 then
  fX6_sum_J20 a0 a1 a2 S
  else
  Option.bind (zcl S a0 6 (fX6_isCube a0 a2 S)) fun x39 =>
  (if x39 = 0 then
  fX6_sum_J20 a0 a1 a2 S
  else
  fX6_sum_J21 a0 a1 a2 (1 : Int32) S))
def fX6_product_B235 (l0 : Nat) (l1 : Int32) (l2 : Int32) (l5 : Int32) (l6 : Int32) (l7 : Int32) (l8 : Int32) (l9 : Int32) (l10 : Int32) (t235 : (Int32 × ZS)) : Option ((Int32 × ZS) ⊕ ((Int32 × ZS) ⊕ ((Int32 × ZS) ⊕ (Int32 × ZS)))) :=
  Option.bind (zgR t235.2 l0 6 3) fun v20 =>
  Option.bind (zaI t235.2 v20 0 (((3 : Int32) * l8) + (2 : Int32))) fun v21 =>
  (if v21 ≤ t235.1 then
  zex (some (.inl (l10 + (1 : Int32), t235.2)))
  else
  Option.bind (zgR t235.2 l0 6 4) fun v22 =>
  Option.bind (zdiv l9 l5) fun v23 =>
  Option.bind (zdiv l10 l6) fun v24 =>
  Option.bind (zdiv t235.1 l7) fun v25 =>
  Option.bind (fX6_place v23 v24 v25) fun x26 =>
  Option.bind (zaI t235.2 v22 0 (((64 : Int32) * l1) + x26)) fun v27 =>
  Option.bind (zgR t235.2 l0 6 4) fun v28 =>
  Option.bind (zrem l9 l5) fun v29 =>
  Option.bind (zrem l10 l6) fun v30 =>
  Option.bind (zrem t235.1 l7) fun v31 =>
  Option.bind (fX6_place v29 v30 v31) fun x32 =>
  Option.bind (zaI t235.2 v28 0 (((64 : Int32) * l2) + x32)) fun v33 =>
  Option.bind (zgR t235.2 l0 6 4) fun v34 =>
  Option.bind (fX6_place l9 l10 t235.1) fun x35 =>
  Option.bind (zgI t235.2 l0 6 1) fun v36 =>
  Option.bind (zrem (v27 * v33) v36) fun v37 =>
  Option.bind (zsI t235.2 v34 0 (((64 : Int32) * l8) + x35) v37) fun S38 =>
  some (.inl (t235.1 + (1 : Int32), S38)))
def fX6_product_B216 (l0 : Nat) (l1 : Int32) (l2 : Int32) (l5 : Int32) (l6 : Int32) (l7 : Int32) (l8 : Int32) (l9 : Int32) (t216 : (Int32 × ZS)) : Option ((Int32 × ZS) ⊕ ((Int32 × ZS) ⊕ (Int32 × ZS))) :=
  Option.bind (zgR t216.2 l0 6 3) fun v18 =>
  Option.bind (zaI t216.2 v18 0 (((3 : Int32) * l8) + (1 : Int32))) fun v19 =>
  (if v19 ≤ t216.1 then
  zex (some (.inl (l9 + (1 : Int32), t216.2)))
  else
  ziter (fX6_product_B235 l0 l1 l2 l5 l6 l7 l8 l9 t216.1) zF ((0 : Int32), t216.2))
def fX6_product_B199 (l0 : Nat) (l1 : Int32) (l2 : Int32) (l5 : Int32) (l6 : Int32) (l7 : Int32) (l8 : Int32) (t199 : (Int32 × ZS)) : Option ((Int32 × ZS) ⊕ (Int32 × ZS)) :=
  Option.bind (zgR t199.2 l0 6 3) fun v16 =>
  Option.bind (zaI t199.2 v16 0 ((3 : Int32) * l8)) fun v17 =>
  (if v17 ≤ t199.1 then
  zex (some (l8, t199.2))
  else
  ziter (fX6_product_B216 l0 l1 l2 l5 l6 l7 l8 t199.1) zF ((0 : Int32), t199.2))
def fX6_product_J111 (l0 : Nat) (l1 : Int32) (l2 : Int32) (s0 : Nat) (s1 : Int32) (S : ZS) : Option (Int32 × ZS) :=
  Option.bind (zcl S s0 6 (fX6_goesWell s0 s1 S)) fun x2 =>
  (if x2.1 = 0 then
  some ((0 : Int32), x2.2)
  else
  Option.bind (zgR x2.2 l0 6 3) fun v3 =>
  Option.bind (zaI x2.2 v3 0 ((3 : Int32) * l2)) fun v4 =>
  Option.bind (zgR x2.2 l0 6 3) fun v5 =>
  Option.bind (zaI x2.2 v5 0 (((3 : Int32) * l2) + (1 : Int32))) fun v6 =>
  Option.bind (zgR x2.2 l0 6 3) fun v7 =>
  Option.bind (zaI x2.2 v7 0 (((3 : Int32) * l2) + (2 : Int32))) fun v8 =>
  Option.bind (zgR x2.2 l0 6 3) fun v9 =>
  Option.bind (zaI x2.2 v9 0 ((3 : Int32) * l1)) fun v10 =>
  Option.bind (zgR x2.2 l0 6 3) fun v11 =>
  Option.bind (zaI x2.2 v11 0 (((3 : Int32) * l1) + (1 : Int32))) fun v12 =>
  Option.bind (zgR x2.2 l0 6 3) fun v13 =>
  Option.bind (zaI x2.2 v13 0 (((3 : Int32) * l1) + (2 : Int32))) fun v14 =>
  Option.bind (zcl x2.2 l0 6 (fX6_make l0 (v10 * v4) (v12 * v6) (v14 * v8) x2.2)) fun x15 =>
  ziter (fX6_product_B199 l0 l1 l2 v4 v6 v8 x15.1) zF ((0 : Int32), x15.2))
def fX6_product_J79 (l0 : Nat) (l1 : Int32) (l2 : Int32) (l3 : Int32) (l4 : Int32) (S : ZS) : Option (Int32 × ZS) :=
  (if l3 = 0 then
  fX6_product_J111 l0 l1 l2 l0 (1 : Int32) S
  else
  (if l4 = 0 then
  fX6_product_J111 l0 l1 l2 l0 (2 : Int32) S
  else
  Option.bind (zgI S l0 6 2) fun v102 =>
  (if v102 = (16 : Int32) then
  fX6_product_J111 l0 l1 l2 l0 (3 : Int32) S
  else
  fX6_product_J111 l0 l1 l2 l0 (0 : Int32) S)))
def fX6_product_J71 (l0 : Nat) (l1 : Int32) (l2 : Int32) (l3 : Int32) (l5 : Int32) (s0 : Int32) (S : ZS) : Option ((Int32 × Int32) ⊕ (Int32 × ZS)) :=
  some (.inl (s0, l5 + (1 : Int32)))
def fX6_product_B28 (l0 : Nat) (l1 : Int32) (l2 : Int32) (l3 : Int32) (S : ZS) (t28 : (Int32 × Int32)) : Option ((Int32 × Int32) ⊕ (Int32 × ZS)) :=
  (if (3 : Int32) ≤ t28.2 then
  zex (fX6_product_J79 l0 l1 l2 l3 t28.1 S)
  else
  (if t28.1 = 0 then
  zex (fX6_product_J79 l0 l1 l2 l3 t28.1 S)
  else
  Option.bind (zgR S l0 6 3) fun v103 =>
  Option.bind (zaI S v103 0 (((3 : Int32) * l1) + t28.2)) fun v104 =>
  Option.bind (zgR S l0 6 3) fun v105 =>
  Option.bind (zaI S v105 0 (((3 : Int32) * l2) + t28.2)) fun v106 =>
  (if (4 : Int32) < (v104 * v106) then
  fX6_product_J71 l0 l1 l2 l3 t28.2 (0 : Int32) S
  else
  fX6_product_J71 l0 l1 l2 l3 t28.2 (1 : Int32) S)))
def fX6_product_J21 (l0 : Nat) (l1 : Int32) (l2 : Int32) (s0 : Int32) (S : ZS) : Option (Int32 × ZS) :=
  ziter (fX6_product_B28 l0 l1 l2 s0 S) zF (s0, (0 : Int32))
def fX6_product_J20 (l0 : Nat) (l1 : Int32) (l2 : Int32) (S : ZS) : Option (Int32 × ZS) :=
  fX6_product_J21 l0 l1 l2 (0 : Int32) S
def fX6_product (a0 : Nat) (a1 : Int32) (a2 : Int32) (S : ZS) : Option (Int32 × ZS) :=
  Option.bind (zcl S a0 6 (fX6_isCube a0 a1 S)) fun x1 =>
  (if x1 = 0 then
  fX6_product_J20 a0 a1 a2 S
  else
  Option.bind (zcl S a0 6 (fX6_isCube a0 a2 S)) fun x111 =>
  (if x111 = 0 then
  fX6_product_J20 a0 a1 a2 S
  else
  fX6_product_J21 a0 a1 a2 (1 : Int32) S))
def fX6_way_B78 (l0 : Nat) (l1 : Int32) (t78 : (Int32 × ZS)) : Option ((Int32 × ZS) ⊕ (Int32 × ZS)) :=
  (if (3 : Int32) ≤ t78.1 then
  zex (Option.bind (zgR t78.2 l0 6 9) fun v3 =>
  Option.bind (zgI t78.2 l0 6 6) fun v4 =>
  Option.bind (zgR t78.2 l0 6 5) fun v5 =>
  Option.bind (zaI t78.2 v5 0 l1) fun v6 =>
  Option.bind (zsI t78.2 v3 0 v4 v6) fun S7 =>
  Option.bind (zgR S7 l0 6 10) fun v8 =>
  Option.bind (zgI S7 l0 6 6) fun v9 =>
  Option.bind (zsI S7 v8 0 v9 (0 : Int32)) fun S10 =>
  Option.bind (zgI S10 l0 6 6) fun v11 =>
  Option.bind (zpF S10 l0 6 6 (.int (v11 + (1 : Int32)))) fun S12 =>
  Option.bind (zgI S12 l0 6 6) fun v13 =>
  some (v13 - (1 : Int32), S12))
  else
  Option.bind (zgR t78.2 l0 6 7) fun v14 =>
  Option.bind (zgI t78.2 l0 6 6) fun v15 =>
  Option.bind (zgR t78.2 l0 6 3) fun v16 =>
  Option.bind (zaI t78.2 v16 0 (((3 : Int32) * l1) + t78.1)) fun v17 =>
  Option.bind (zsI t78.2 v14 0 (((3 : Int32) * v15) + t78.1) v17) fun S18 =>
  some (.inl (t78.1 + (1 : Int32), S18)))
def fX6_way_B39 (l0 : Nat) (l1 : Int32) (t39 : (Int32 × ZS)) : Option ((Int32 × ZS) ⊕ (Int32 × ZS)) :=
  (if (64 : Int32) ≤ t39.1 then
  zex (ziter (fX6_way_B78 l0 l1) zF ((0 : Int32), t39.2))
  else
  Option.bind (zgR t39.2 l0 6 8) fun v35 =>
  Option.bind (zgI t39.2 l0 6 6) fun v36 =>
  Option.bind (zgR t39.2 l0 6 4) fun v37 =>
  Option.bind (zaI t39.2 v37 0 (((64 : Int32) * l1) + t39.1)) fun v38 =>
  Option.bind (zsI t39.2 v35 0 (((64 : Int32) * v36) + t39.1) v38) fun S39 =>
  some (.inl (t39.1 + (1 : Int32), S39)))
def fX6_way_J29 (l0 : Nat) (l1 : Int32) (s0 : Nat) (s1 : Int32) (S : ZS) : Option (Int32 × ZS) :=
  Option.bind (zcl S s0 6 (fX6_goesWell s0 s1 S)) fun x2 =>
  (if x2.1 = 0 then
  some ((0 : Int32), x2.2)
  else
  ziter (fX6_way_B39 l0 l1) zF ((0 : Int32), x2.2))
def fX6_way (a0 : Nat) (a1 : Int32) (S : ZS) : Option (Int32 × ZS) :=
  Option.bind (zcl S a0 6 (fX6_isCube a0 a1 S)) fun x1 =>
  (if x1 = 0 then
  fX6_way_J29 a0 a1 a0 (1 : Int32) S
  else
  Option.bind (zgI S a0 6 6) fun v61 =>
  (if v61 = (16 : Int32) then
  fX6_way_J29 a0 a1 a0 (2 : Int32) S
  else
  fX6_way_J29 a0 a1 a0 (0 : Int32) S))
def fX6_codes_B5 (l0 : Nat) (l1 : Int32) (l2 : Int32) (S : ZS) (t5 : (Int32 × Int32)) : Option ((Int32 × Int32) ⊕ Int32) :=
  Option.bind (zgR S l0 6 7) fun v1 =>
  Option.bind (zaI S v1 0 (((3 : Int32) * l1) + l2)) fun v2 =>
  (if v2 ≤ t5.2 then
  zex (some t5.1)
  else
  Option.bind (zgI S l0 6 1) fun v3 =>
  some (.inl (t5.1 * v3, t5.2 + (1 : Int32))))
def fX6_codes (a0 : Nat) (a1 : Int32) (a2 : Int32) (S : ZS) : Option Int32 :=
  ziter (fX6_codes_B5 a0 a1 a2 S) zF ((1 : Int32), (0 : Int32))
def fX6_isCode (a0 : Nat) (a1 : Int32) (a2 : Int32) (a3 : Int32) (S : ZS) : Option Int32 :=
  Option.bind (zcl S a0 6 (fX6_codes a0 a1 a2 S)) fun x1 =>
  Option.bind (fX6_in a3 (0 : Int32) (x1 - (1 : Int32))) fun x2 =>
  Option.bind (zbl x2) fun w => some w
def fX6_from (a0 : Int32) (a1 : Int32) (a2 : Int32) : Option Int32 :=
  some ((((480 : Int32) * a0) + ((12 : Int32) * a1)) + ((4 : Int32) * a2))
def fX6_decode_B18 (l0 : Nat) (l1 : Int32) (l2 : Int32) (l3 : Int32) (t18 : (Int32 × Int32 × ZS)) : Option ((Int32 × Int32 × ZS) ⊕ ZS) :=
  (if t18.2.1 < 0 then
  zex (some t18.2.2)
  else
  Option.bind (zgR t18.2.2 l0 6 11) fun v3 =>
  Option.bind (fX6_from l1 l2 l3) fun x4 =>
  Option.bind (zgI t18.2.2 l0 6 1) fun v5 =>
  Option.bind (zrem t18.1 v5) fun v6 =>
  Option.bind (zsI t18.2.2 v3 0 (x4 + t18.2.1) v6) fun S7 =>
  Option.bind (zgI S7 l0 6 1) fun v8 =>
  Option.bind (zdiv t18.1 v8) fun v9 =>
  some (.inl (v9, t18.2.1 + (-1 : Int32), S7)))
def fX6_decode (a0 : Nat) (a1 : Int32) (a2 : Int32) (a3 : Int32) (a4 : Int32) (S : ZS) : Option ZS :=
  Option.bind (zgR S a0 6 7) fun v1 =>
  Option.bind (zaI S v1 0 (((3 : Int32) * a1) + a3)) fun v2 =>
  ziter (fX6_decode_B18 a0 a1 a2 a3) zF (a4, v2 - (1 : Int32), S)
def fX6_multiply_J85 (l0 : Nat) (l1 : Int32) (l2 : Int32) (l3 : Int32) (l4 : Int32) (s0 : Nat) (s1 : Int32) (S : ZS) : Option (Int32 × ZS) :=
  Option.bind (zcl S s0 6 (fX6_goesWell s0 s1 S)) fun x2 =>
  (if x2.1 = 0 then
  some ((0 : Int32), x2.2)
  else
  Option.bind (zgR x2.2 l0 6 10) fun v3 =>
  Option.bind (zaI x2.2 v3 0 l1) fun v4 =>
  Option.bind (zgR x2.2 l0 6 10) fun v5 =>
  Option.bind (zaI x2.2 v5 0 l1) fun v6 =>
  Option.bind (zsI x2.2 v5 0 l1 (v6 + (1 : Int32))) fun S7 =>
  Option.bind (zcl S7 l0 6 (fX6_decode l0 l1 v4 (0 : Int32) l2 S7)) fun x8 =>
  Option.bind (zcl x8 l0 6 (fX6_decode l0 l1 v4 (1 : Int32) l3 x8)) fun x9 =>
  Option.bind (zcl x9 l0 6 (fX6_decode l0 l1 v4 (2 : Int32) l4 x9)) fun x10 =>
  Option.bind (zgR x10 l0 6 10) fun v11 =>
  Option.bind (zaI x10 v11 0 l1) fun v12 =>
  some (v12, x10))
def fX6_multiply_J48 (l0 : Nat) (l1 : Int32) (l2 : Int32) (l3 : Int32) (l4 : Int32) (l5 : Int32) (s0 : Int32) (S : ZS) : Option (Int32 × ZS) :=
  (if l5 = 0 then
  fX6_multiply_J85 l0 l1 l2 l3 l4 l0 (1 : Int32) S
  else
  (if s0 = 0 then
  fX6_multiply_J85 l0 l1 l2 l3 l4 l0 (2 : Int32) S
  else
  Option.bind (zgR S l0 6 10) fun v13 =>
  Option.bind (zaI S v13 0 l1) fun v14 =>
  (if v14 = (40 : Int32) then
  fX6_multiply_J85 l0 l1 l2 l3 l4 l0 (3 : Int32) S
  else
  fX6_multiply_J85 l0 l1 l2 l3 l4 l0 (0 : Int32) S)))
def fX6_multiply_J47 (l0 : Nat) (l1 : Int32) (l2 : Int32) (l3 : Int32) (l4 : Int32) (l5 : Int32) (S : ZS) : Option (Int32 × ZS) :=
  fX6_multiply_J48 l0 l1 l2 l3 l4 l5 (0 : Int32) S
def fX6_multiply (a0 : Nat) (a1 : Int32) (a2 : Int32) (a3 : Int32) (a4 : Int32) (S : ZS) : Option (Int32 × ZS) :=
  Option.bind (zcl S a0 6 (fX6_isWay a0 a1 S)) fun x1 =>
  (if x1 = 0 then
  fX6_multiply_J47 a0 a1 a2 a3 a4 x1 S
  else
  Option.bind (zcl S a0 6 (fX6_isCode a0 a1 (0 : Int32) a2 S)) fun x15 =>
  (if x15 = 0 then
  fX6_multiply_J47 a0 a1 a2 a3 a4 x1 S
  else
  Option.bind (zcl S a0 6 (fX6_isCode a0 a1 (1 : Int32) a3 S)) fun x16 =>
  (if x16 = 0 then
  fX6_multiply_J47 a0 a1 a2 a3 a4 x1 S
  else
  Option.bind (zcl S a0 6 (fX6_isCode a0 a1 (2 : Int32) a4 S)) fun x17 =>
  (if x17 = 0 then
  fX6_multiply_J47 a0 a1 a2 a3 a4 x1 S
  else
  fX6_multiply_J48 a0 a1 a2 a3 a4 x1 (1 : Int32) S))))
def fX6_plain_J223 (l0 : Nat) (l1 : Int32) (l4 : Int32) (S : ZS) : Option ((Int32 × ZS) ⊕ (Int32 × ZS)) :=
  some (.inl (l4 + (1 : Int32), S))
def fX6_plain_B136 (l0 : Nat) (l1 : Int32) (l4 : Int32) (l5 : Int32) (l6 : Int32) (t136 : (Int32 × ZS)) : Option ((Int32 × ZS) ⊕ ((Int32 × ZS) ⊕ (Int32 × ZS))) :=
  (if (12 : Int32) ≤ t136.1 then
  zex (Option.bind (zgR t136.2 l0 6 11) fun v12 =>
  Option.bind (fX6_from l1 l6 (0 : Int32)) fun x13 =>
  Option.bind (zsI t136.2 v12 0 (x13 + (l4 / (16 : Int32))) l5) fun S14 =>
  Option.bind (zgR S14 l0 6 11) fun v15 =>
  Option.bind (fX6_from l1 l6 (1 : Int32)) fun x16 =>
  Option.bind (zsI S14 v15 0 (x16 + ((l4 / (4 : Int32)) % (4 : Int32))) (1 : Int32)) fun S17 =>
  Option.bind (zgR S17 l0 6 11) fun v18 =>
  Option.bind (fX6_from l1 l6 (2 : Int32)) fun x19 =>
  Option.bind (zsI S17 v18 0 (x19 + (l4 % (4 : Int32))) (1 : Int32)) fun S20 =>
  fX6_plain_J223 l0 l1 l4 S20)
  else
  Option.bind (zgR t136.2 l0 6 11) fun v21 =>
  Option.bind (fX6_from l1 l6 (0 : Int32)) fun x22 =>
  Option.bind (zsI t136.2 v21 0 (x22 + t136.1) (0 : Int32)) fun S23 =>
  some (.inl (t136.1 + (1 : Int32), S23)))
def fX6_plain_B89 (l0 : Nat) (l1 : Int32) (t89 : (Int32 × ZS)) : Option ((Int32 × ZS) ⊕ (Int32 × ZS)) :=
  (if (64 : Int32) ≤ t89.1 then
  zex (Option.bind (zgR t89.2 l0 6 10) fun v3 =>
  Option.bind (zaI t89.2 v3 0 l1) fun v4 =>
  some (v4, t89.2))
  else
  Option.bind (zgR t89.2 l0 6 8) fun v5 =>
  Option.bind (zaI t89.2 v5 0 (((64 : Int32) * l1) + t89.1)) fun v6 =>
  (if v6 = 0 then
  fX6_plain_J223 l0 l1 t89.1 t89.2
  else
  Option.bind (zgR t89.2 l0 6 10) fun v7 =>
  Option.bind (zaI t89.2 v7 0 l1) fun v8 =>
  Option.bind (zgR t89.2 l0 6 10) fun v9 =>
  Option.bind (zaI t89.2 v9 0 l1) fun v10 =>
  Option.bind (zsI t89.2 v9 0 l1 (v10 + (1 : Int32))) fun S11 =>
  ziter (fX6_plain_B136 l0 l1 t89.1 v6 v8) zF ((0 : Int32), S11)))
def fX6_plain_J78 (l0 : Nat) (l1 : Int32) (s0 : Nat) (s1 : Int32) (S : ZS) : Option (Int32 × ZS) :=
  Option.bind (zcl S s0 6 (fX6_goesWell s0 s1 S)) fun x2 =>
  (if x2.1 = 0 then
  some ((0 : Int32), x2.2)
  else
  ziter (fX6_plain_B89 l0 l1) zF ((0 : Int32), x2.2))
def fX6_plain_J51 (l0 : Nat) (l1 : Int32) (l2 : Int32) (l3 : Int32) (S : ZS) : Option (Int32 × ZS) :=
  (if l2 = 0 then
  fX6_plain_J78 l0 l1 l0 (1 : Int32) S
  else
  Option.bind (zgR S l0 6 10) fun v57 =>
  Option.bind (zaI S v57 0 l1) fun v58 =>
  (if (v58 + l3) ≤ (40 : Int32) then
  fX6_plain_J78 l0 l1 l0 (0 : Int32) S
  else
  fX6_plain_J78 l0 l1 l0 (2 : Int32) S))
def fX6_plain_J43 (l0 : Nat) (l1 : Int32) (l2 : Int32) (l4 : Int32) (s0 : Int32) (s1 : Int32) (S : ZS) : Option ((Int32 × Int32) ⊕ (Int32 × ZS)) :=
  some (.inl (s0 + s1, l4 + (1 : Int32)))
def fX6_plain_B11 (l0 : Nat) (l1 : Int32) (l2 : Int32) (S : ZS) (t11 : (Int32 × Int32)) : Option ((Int32 × Int32) ⊕ (Int32 × ZS)) :=
  (if (64 : Int32) ≤ t11.2 then
  zex (fX6_plain_J51 l0 l1 l2 t11.1 S)
  else
  (if l2 = 0 then
  zex (fX6_plain_J51 l0 l1 l2 t11.1 S)
  else
  Option.bind (zgR S l0 6 8) fun v59 =>
  Option.bind (zaI S v59 0 (((64 : Int32) * l1) + t11.2)) fun v60 =>
  (if v60 = 0 then
  fX6_plain_J43 l0 l1 l2 t11.2 t11.1 (0 : Int32) S
  else
  fX6_plain_J43 l0 l1 l2 t11.2 t11.1 (1 : Int32) S)))
def fX6_plain (a0 : Nat) (a1 : Int32) (S : ZS) : Option (Int32 × ZS) :=
  Option.bind (zcl S a0 6 (fX6_isWay a0 a1 S)) fun x1 =>
  ziter (fX6_plain_B11 a0 a1 x1 S) zF ((0 : Int32), (0 : Int32))
def fX6_areAlike_J65 (l0 : Nat) (l1 : Int32) (l2 : Int32) (l3 : Int32) (l4 : Int32) (l6 : Int32) (s0 : Int32) (S : ZS) : Option ((Int32 × Int32) ⊕ Int32) :=
  some (.inl (s0, l6 + (1 : Int32)))
def fX6_areAlike_J64 (l0 : Nat) (l1 : Int32) (l2 : Int32) (l3 : Int32) (l4 : Int32) (l6 : Int32) (S : ZS) : Option ((Int32 × Int32) ⊕ Int32) :=
  fX6_areAlike_J65 l0 l1 l2 l3 l4 l6 (0 : Int32) S
def fX6_areAlike_B6 (l0 : Nat) (l1 : Int32) (l2 : Int32) (l3 : Int32) (l4 : Int32) (S : ZS) (t6 : (Int32 × Int32)) : Option ((Int32 × Int32) ⊕ Int32) :=
  Option.bind (zgR S l0 6 7) fun v1 =>
  Option.bind (zaI S v1 0 (((3 : Int32) * l1) + l4)) fun v2 =>
  (if v2 ≤ t6.2 then
  zex (Option.bind (zbl t6.1) fun w => some w)
  else
  (if t6.1 = 0 then
  fX6_areAlike_J64 l0 l1 l2 l3 l4 t6.2 S
  else
  Option.bind (zgR S l0 6 11) fun v3 =>
  Option.bind (fX6_from l1 l2 l4) fun x4 =>
  Option.bind (zaI S v3 0 (x4 + t6.2)) fun v5 =>
  Option.bind (zgR S l0 6 11) fun v6 =>
  Option.bind (fX6_from l1 l3 l4) fun x7 =>
  Option.bind (zaI S v6 0 (x7 + t6.2)) fun v8 =>
  (if v5 = v8 then
  fX6_areAlike_J65 l0 l1 l2 l3 l4 t6.2 (1 : Int32) S
  else
  fX6_areAlike_J64 l0 l1 l2 l3 l4 t6.2 S)))
def fX6_areAlike (a0 : Nat) (a1 : Int32) (a2 : Int32) (a3 : Int32) (a4 : Int32) (S : ZS) : Option Int32 :=
  ziter (fX6_areAlike_B6 a0 a1 a2 a3 a4 S) zF ((1 : Int32), (0 : Int32))
def fX6_add_B3 (l0 : Nat) (l1 : Int32) (l2 : Int32) (l3 : Int32) (l4 : Int32) (l5 : Int32) (t3 : (Int32 × ZS)) : Option ((Int32 × ZS) ⊕ ZS) :=
  Option.bind (zgR t3.2 l0 6 7) fun v1 =>
  Option.bind (zaI t3.2 v1 0 (((3 : Int32) * l1) + l4)) fun v2 =>
  (if v2 ≤ t3.1 then
  zex (some t3.2)
  else
  Option.bind (zgR t3.2 l0 6 11) fun v3 =>
  Option.bind (fX6_from l1 l2 l4) fun x4 =>
  Option.bind (zgR t3.2 l0 6 11) fun v5 =>
  Option.bind (fX6_from l1 l2 l4) fun x6 =>
  Option.bind (zaI t3.2 v5 0 (x6 + t3.1)) fun v7 =>
  Option.bind (zgR t3.2 l0 6 11) fun v8 =>
  Option.bind (fX6_from l1 l3 l4) fun x9 =>
  Option.bind (zaI t3.2 v8 0 (x9 + t3.1)) fun v10 =>
  Option.bind (zgI t3.2 l0 6 1) fun v11 =>
  Option.bind (zrem (v7 + (l5 * v10)) v11) fun v12 =>
  Option.bind (zsI t3.2 v3 0 (x4 + t3.1) v12) fun S13 =>
  some (.inl (t3.1 + (1 : Int32), S13)))
def fX6_add (a0 : Nat) (a1 : Int32) (a2 : Int32) (a3 : Int32) (a4 : Int32) (a5 : Int32) (S : ZS) : Option ZS :=
  ziter (fX6_add_B3 a0 a1 a2 a3 a4 a5) zF ((0 : Int32), S)
def fX6_turn_J23 (l0 : Nat) (l1 : Int32) (l2 : Int32) (l3 : Int32) (l5 : Int32) (s0 : Int32) (S : ZS) : Option ZS :=
  Option.bind (zcl S l0 6 (fX6_add l0 l1 l2 l3 l5 (1 : Int32) S)) fun x1 =>
  Option.bind (zgI x1 l0 6 1) fun v2 =>
  Option.bind (zcl x1 l0 6 (fX6_add l0 l1 l3 l2 s0 (v2 - (1 : Int32)) x1)) fun x3 =>
  some x3
def fX6_turn_J10 (l0 : Nat) (l1 : Int32) (l2 : Int32) (l3 : Int32) (l4 : Int32) (s0 : Int32) (S : ZS) : Option ZS :=
  (if l4 = (2 : Int32) then
  fX6_turn_J23 l0 l1 l2 l3 s0 (1 : Int32) S
  else
  fX6_turn_J23 l0 l1 l2 l3 s0 (2 : Int32) S)
def fX6_turn (a0 : Nat) (a1 : Int32) (a2 : Int32) (a3 : Int32) (a4 : Int32) (S : ZS) : Option ZS :=
  (if a4 = 0 then
  fX6_turn_J10 a0 a1 a2 a3 a4 (1 : Int32) S
  else
  fX6_turn_J10 a0 a1 a2 a3 a4 (0 : Int32) S)
def fX6_isProduct_J29 (s0 : Int32) (S : ZS) : Option Int32 :=
  Option.bind (zbl s0) fun w => some w
def fX6_isProduct_J28  (S : ZS) : Option Int32 :=
  fX6_isProduct_J29 (0 : Int32) S
def fX6_isProduct (a0 : Nat) (a1 : Int32) (a2 : Int32) (S : ZS) : Option Int32 :=
  Option.bind (zcl S a0 6 (fX6_isWay a0 a1 S)) fun x1 =>
  (if x1 = 0 then
  fX6_isProduct_J28  S
  else
  Option.bind (zgR S a0 6 10) fun v2 =>
  Option.bind (zaI S v2 0 a1) fun v3 =>
  Option.bind (fX6_in a2 (0 : Int32) (v3 - (1 : Int32))) fun x4 =>
  (if x4 = 0 then
  fX6_isProduct_J28  S
  else
  fX6_isProduct_J29 (1 : Int32) S))
def fX6_flip_J84  (S : ZS) : Option ZS :=
  some S
def fX6_flip_J69 (l0 : Nat) (l1 : Int32) (l2 : Int32) (l3 : Int32) (l4 : Int32) (s0 : Nat) (s1 : Int32) (S : ZS) : Option ZS :=
  Option.bind (zcl S s0 6 (fX6_goesWell s0 s1 S)) fun x2 =>
  (if x2.1 = 0 then
  fX6_flip_J84  x2.2
  else
  Option.bind (zcl x2.2 l0 6 (fX6_turn l0 l1 l2 l3 l4 x2.2)) fun x3 =>
  fX6_flip_J84  x3)
def fX6_flip_J31 (l0 : Nat) (l1 : Int32) (l2 : Int32) (l3 : Int32) (l4 : Int32) (s0 : Int32) (S : ZS) : Option ZS :=
  (if s0 = 0 then
  fX6_flip_J69 l0 l1 l2 l3 l4 l0 (1 : Int32) S
  else
  (if l2 = l3 then
  fX6_flip_J69 l0 l1 l2 l3 l4 l0 (2 : Int32) S
  else
  Option.bind (zcl S l0 6 (fX6_areAlike l0 l1 l2 l3 l4 S)) fun x4 =>
  (if x4 = 0 then
  fX6_flip_J69 l0 l1 l2 l3 l4 l0 (3 : Int32) S
  else
  fX6_flip_J69 l0 l1 l2 l3 l4 l0 (0 : Int32) S)))
def fX6_flip_J30 (l0 : Nat) (l1 : Int32) (l2 : Int32) (l3 : Int32) (l4 : Int32) (S : ZS) : Option ZS :=
  fX6_flip_J31 l0 l1 l2 l3 l4 (0 : Int32) S
def fX6_flip (a0 : Nat) (a1 : Int32) (a2 : Int32) (a3 : Int32) (a4 : Int32) (S : ZS) : Option ZS :=
  Option.bind (zcl S a0 6 (fX6_isProduct a0 a1 a2 S)) fun x1 =>
  (if x1 = 0 then
  fX6_flip_J30 a0 a1 a2 a3 a4 S
  else
  Option.bind (zcl S a0 6 (fX6_isProduct a0 a1 a3 S)) fun x5 =>
  (if x5 = 0 then
  fX6_flip_J30 a0 a1 a2 a3 a4 S
  else
  Option.bind (fX6_isSide a4) fun x6 =>
  (if x6 = 0 then
  fX6_flip_J30 a0 a1 a2 a3 a4 S
  else
  fX6_flip_J31 a0 a1 a2 a3 a4 (1 : Int32) S)))
def fX6_isNothing_J83 (l0 : Nat) (l1 : Int32) (l2 : Int32) (l4 : Int32) (s0 : Int32) (S : ZS) : Option ((Int32 × Int32) ⊕ Int32) :=
  some (.inl (s0, l4 + (1 : Int32)))
def fX6_isNothing_J78 (l0 : Nat) (l1 : Int32) (l2 : Int32) (l4 : Int32) (S : ZS) : Option ((Int32 × Int32) ⊕ Int32) :=
  fX6_isNothing_J83 l0 l1 l2 l4 (1 : Int32) S
def fX6_isNothing_J61 (l0 : Nat) (l1 : Int32) (l2 : Int32) (l3 : Int32) (l4 : Int32) (l6 : Int32) (s0 : Int32) (S : ZS) : Option ((Int32 × Int32) ⊕ ((Int32 × Int32) ⊕ Int32)) :=
  some (.inl (s0, l6 + (1 : Int32)))
def fX6_isNothing_J60 (l0 : Nat) (l1 : Int32) (l2 : Int32) (l3 : Int32) (l4 : Int32) (l6 : Int32) (S : ZS) : Option ((Int32 × Int32) ⊕ ((Int32 × Int32) ⊕ Int32)) :=
  fX6_isNothing_J61 l0 l1 l2 l3 l4 l6 (0 : Int32) S
def fX6_isNothing_B17 (l0 : Nat) (l1 : Int32) (l2 : Int32) (l3 : Int32) (l4 : Int32) (S : ZS) (t17 : (Int32 × Int32)) : Option ((Int32 × Int32) ⊕ ((Int32 × Int32) ⊕ Int32)) :=
  Option.bind (zgR S l0 6 7) fun v1 =>
  Option.bind (zaI S v1 0 (((3 : Int32) * l1) + l4)) fun v2 =>
  (if v2 ≤ t17.2 then
  zex ((if l3 = 0 then
  (if t17.1 = 0 then
  fX6_isNothing_J83 l0 l1 l2 l4 (0 : Int32) S
  else
  fX6_isNothing_J78 l0 l1 l2 l4 S)
  else
  fX6_isNothing_J78 l0 l1 l2 l4 S))
  else
  (if t17.1 = 0 then
  fX6_isNothing_J60 l0 l1 l2 l3 l4 t17.2 S
  else
  Option.bind (zgR S l0 6 11) fun v3 =>
  Option.bind (fX6_from l1 l2 l4) fun x4 =>
  Option.bind (zaI S v3 0 (x4 + t17.2)) fun v5 =>
  (if v5 = 0 then
  fX6_isNothing_J61 l0 l1 l2 l3 l4 t17.2 (1 : Int32) S
  else
  fX6_isNothing_J60 l0 l1 l2 l3 l4 t17.2 S)))
def fX6_isNothing_B5 (l0 : Nat) (l1 : Int32) (l2 : Int32) (S : ZS) (t5 : (Int32 × Int32)) : Option ((Int32 × Int32) ⊕ Int32) :=
  (if (3 : Int32) ≤ t5.2 then
  zex (Option.bind (zbl t5.1) fun w => some w)
  else
  ziter (fX6_isNothing_B17 l0 l1 l2 t5.1 t5.2 S) zF ((1 : Int32), (0 : Int32)))
def fX6_isNothing (a0 : Nat) (a1 : Int32) (a2 : Int32) (S : ZS) : Option Int32 :=
  ziter (fX6_isNothing_B5 a0 a1 a2 S) zF ((0 : Int32), (0 : Int32))
def fX6_takeOut_B17 (l0 : Nat) (l1 : Int32) (t17 : (Int32 × ZS)) : Option ((Int32 × ZS) ⊕ ZS) :=
  Option.bind (zgR t17.2 l0 6 10) fun v5 =>
  Option.bind (zaI t17.2 v5 0 l1) fun v6 =>
  Option.bind (fX6_from l1 v6 (0 : Int32)) fun x7 =>
  (if x7 ≤ t17.1 then
  zex (some t17.2)
  else
  Option.bind (zgR t17.2 l0 6 11) fun v8 =>
  Option.bind (zgR t17.2 l0 6 11) fun v9 =>
  Option.bind (zaI t17.2 v9 0 (t17.1 + (12 : Int32))) fun v10 =>
  Option.bind (zsI t17.2 v8 0 t17.1 v10) fun S11 =>
  some (.inl (t17.1 + (1 : Int32), S11)))
def fX6_takeOut (a0 : Nat) (a1 : Int32) (a2 : Int32) (S : ZS) : Option ZS :=
  Option.bind (zgR S a0 6 10) fun v1 =>
  Option.bind (zaI S v1 0 a1) fun v2 =>
  Option.bind (zsI S v1 0 a1 (v2 - (1 : Int32))) fun S3 =>
  Option.bind (fX6_from a1 a2 (0 : Int32)) fun x4 =>
  ziter (fX6_takeOut_B17 a0 a1) zF (x4, S3)
def fX6_third_J73 (s0 : Int32) (S : ZS) : Option Int32 :=
  some s0
def fX6_third_J72  (S : ZS) : Option Int32 :=
  fX6_third_J73 (-1 : Int32) S
def fX6_third_J58 (l5 : Int32) (l6 : Int32) (S : ZS) : Option Int32 :=
  (if l5 = 0 then
  fX6_third_J72  S
  else
  (if l6 = 0 then
  fX6_third_J72  S
  else
  fX6_third_J73 (0 : Int32) S))
def fX6_third_J44 (l4 : Int32) (l5 : Int32) (l6 : Int32) (S : ZS) : Option Int32 :=
  (if l4 = 0 then
  fX6_third_J58 l5 l6 S
  else
  (if l6 = 0 then
  fX6_third_J58 l5 l6 S
  else
  fX6_third_J73 (1 : Int32) S))
def fX6_third (a0 : Nat) (a1 : Int32) (a2 : Int32) (a3 : Int32) (S : ZS) : Option Int32 :=
  Option.bind (zcl S a0 6 (fX6_areAlike a0 a1 a2 a3 (0 : Int32) S)) fun x1 =>
  Option.bind (zcl S a0 6 (fX6_areAlike a0 a1 a2 a3 (1 : Int32) S)) fun x2 =>
  Option.bind (zcl S a0 6 (fX6_areAlike a0 a1 a2 a3 (2 : Int32) S)) fun x3 =>
  (if x1 = 0 then
  fX6_third_J44 x1 x2 x3 S
  else
  (if x2 = 0 then
  fX6_third_J44 x1 x2 x3 S
  else
  fX6_third_J73 (2 : Int32) S))
def fX6_reducesOnce_B51 (l0 : Nat) (l1 : Int32) (l2 : Int32) (S : ZS) (t51 : Int32) : Option (Int32 ⊕ (Int32 ⊕ (Int32 × ZS))) :=
  Option.bind (zgR S l0 6 10) fun v5 =>
  Option.bind (zaI S v5 0 l1) fun v6 =>
  (if v6 ≤ t51 then
  zex (some (.inl (l2 + (1 : Int32))))
  else
  Option.bind (zcl S l0 6 (fX6_third l0 l1 l2 t51 S)) fun x7 =>
  (if x7 = (-1 : Int32) then
  some (.inl (t51 + (1 : Int32)))
  else
  zex (zex (Option.bind (zcl S l0 6 (fX6_add l0 l1 l2 t51 x7 (1 : Int32) S)) fun x8 =>
  Option.bind (zcl x8 l0 6 (fX6_takeOut l0 l1 t51 x8)) fun x9 =>
  some ((1 : Int32), x9)))))
def fX6_reducesOnce_B37 (l0 : Nat) (l1 : Int32) (S : ZS) (t37 : Int32) : Option (Int32 ⊕ (Int32 × ZS)) :=
  Option.bind (zgR S l0 6 10) fun v3 =>
  Option.bind (zaI S v3 0 l1) fun v4 =>
  (if v4 ≤ t37 then
  zex (some ((0 : Int32), S))
  else
  ziter (fX6_reducesOnce_B51 l0 l1 t37 S) zF (t37 + (1 : Int32)))
def fX6_reducesOnce_B2 (l0 : Nat) (l1 : Int32) (S : ZS) (t2 : Int32) : Option (Int32 ⊕ (Int32 × ZS)) :=
  Option.bind (zgR S l0 6 10) fun v1 =>
  Option.bind (zaI S v1 0 l1) fun v2 =>
  (if v2 ≤ t2 then
  zex (ziter (fX6_reducesOnce_B37 l0 l1 S) zF (0 : Int32))
  else
  Option.bind (zcl S l0 6 (fX6_isNothing l0 l1 t2 S)) fun x22 =>
  (if x22 = 0 then
  some (.inl (t2 + (1 : Int32)))
  else
  zex (Option.bind (zcl S l0 6 (fX6_takeOut l0 l1 t2 S)) fun x23 =>
  some ((1 : Int32), x23))))
def fX6_reducesOnce (a0 : Nat) (a1 : Int32) (S : ZS) : Option (Int32 × ZS) :=
  ziter (fX6_reducesOnce_B2 a0 a1 S) zF (0 : Int32)
def fX6_reduceAll_B2 (l0 : Nat) (l1 : Int32) (t2 : (Int32 × ZS)) : Option ((Int32 × ZS) ⊕ (Int32 × ZS)) :=
  Option.bind (zcl t2.2 l0 6 (fX6_reducesOnce l0 l1 t2.2)) fun x1 =>
  (if x1.1 = 0 then
  zex (some (t2.1, x1.2))
  else
  some (.inl (t2.1 + (1 : Int32), x1.2)))
def fX6_reduceAll (a0 : Nat) (a1 : Int32) (S : ZS) : Option (Int32 × ZS) :=
  ziter (fX6_reduceAll_B2 a0 a1) zF ((0 : Int32), S)
def fX6_reduce_J29 (s0 : Int32) (S : ZS) : Option (Int32 × ZS) :=
  some (s0, S)
def fX6_reduce_J14 (l0 : Nat) (l1 : Int32) (s0 : Nat) (s1 : Int32) (S : ZS) : Option (Int32 × ZS) :=
  Option.bind (zcl S s0 6 (fX6_goesWell s0 s1 S)) fun x2 =>
  (if x2.1 = 0 then
  fX6_reduce_J29 (0 : Int32) x2.2
  else
  Option.bind (zcl x2.2 l0 6 (fX6_reduceAll l0 l1 x2.2)) fun x3 =>
  fX6_reduce_J29 x3.1 x3.2)
def fX6_reduce (a0 : Nat) (a1 : Int32) (S : ZS) : Option (Int32 × ZS) :=
  Option.bind (zcl S a0 6 (fX6_isWay a0 a1 S)) fun x1 =>
  (if x1 = 0 then
  fX6_reduce_J14 a0 a1 a0 (1 : Int32) S
  else
  fX6_reduce_J14 a0 a1 a0 (0 : Int32) S)
def fX6_draw (a0 : Int32) : Option Int32 :=
  some ((((25173 : Int32) * a0) + (13849 : Int32)) % (65536 : Int32))
def fX6_walk_J170 (l5 : Int32) (S : ZS) : Option (Int32 × ZS) :=
  some (l5, S)
def fX6_walk_J154 (l0 : Nat) (l1 : Int32) (l3 : Int32) (l5 : Int32) (l6 : Int32) (l7 : Int32) (S : ZS) : Option ((Int32 × Int32 × Int32 × ZS) ⊕ (Int32 × ZS)) :=
  Option.bind (zcl S l0 6 (fX6_reduceAll l0 l1 S)) fun x12 =>
  some (.inl (l5, l6 + x12.1, l7 + (1 : Int32), x12.2))
def fX6_walk_B60 (l0 : Nat) (l1 : Int32) (l3 : Int32) (t60 : (Int32 × Int32 × Int32 × ZS)) : Option ((Int32 × Int32 × Int32 × ZS) ⊕ (Int32 × ZS)) :=
  (if l3 ≤ t60.2.2.1 then
  zex (fX6_walk_J170 t60.1 t60.2.2.2)
  else
  Option.bind (zgR t60.2.2.2 l0 6 10) fun v3 =>
  Option.bind (zaI t60.2.2.2 v3 0 l1) fun v4 =>
  (if v4 ≤ 0 then
  zex (fX6_walk_J170 t60.1 t60.2.2.2)
  else
  Option.bind (zgR t60.2.2.2 l0 6 10) fun v5 =>
  Option.bind (zaI t60.2.2.2 v5 0 l1) fun v6 =>
  Option.bind (fX6_draw t60.1) fun x7 =>
  Option.bind (zrem x7 v6) fun v8 =>
  Option.bind (fX6_draw x7) fun x9 =>
  Option.bind (zrem x9 v6) fun v10 =>
  Option.bind (fX6_draw x9) fun x11 =>
  (if v8 = v10 then
  fX6_walk_J154 l0 l1 l3 x11 t60.2.1 t60.2.2.1 t60.2.2.2
  else
  Option.bind (zcl t60.2.2.2 l0 6 (fX6_areAlike l0 l1 v8 v10 (x11 % (3 : Int32)) t60.2.2.2)) fun x13 =>
  (if x13 = 0 then
  fX6_walk_J154 l0 l1 l3 x11 t60.2.1 t60.2.2.1 t60.2.2.2
  else
  Option.bind (zcl t60.2.2.2 l0 6 (fX6_turn l0 l1 v8 v10 (x11 % (3 : Int32)) t60.2.2.2)) fun x14 =>
  fX6_walk_J154 l0 l1 l3 x11 t60.2.1 t60.2.2.1 x14))))
def fX6_walk_J43 (l0 : Nat) (l1 : Int32) (l2 : Int32) (l3 : Int32) (s0 : Nat) (s1 : Int32) (S : ZS) : Option (Int32 × ZS) :=
  Option.bind (zcl S s0 6 (fX6_goesWell s0 s1 S)) fun x2 =>
  (if x2.1 = 0 then
  some ((0 : Int32), x2.2)
  else
  ziter (fX6_walk_B60 l0 l1 l3) zF (l2, (0 : Int32), (0 : Int32), x2.2))
def fX6_walk_J42 (l0 : Nat) (l1 : Int32) (l2 : Int32) (l3 : Int32) (s0 : Nat) (S : ZS) : Option (Int32 × ZS) :=
  fX6_walk_J43 l0 l1 l2 l3 s0 (2 : Int32) S
def fX6_walk (a0 : Nat) (a1 : Int32) (a2 : Int32) (a3 : Int32) (S : ZS) : Option (Int32 × ZS) :=
  Option.bind (zcl S a0 6 (fX6_isWay a0 a1 S)) fun x1 =>
  (if x1 = 0 then
  fX6_walk_J43 a0 a1 a2 a3 a0 (1 : Int32) S
  else
  Option.bind (fX6_in a2 (0 : Int32) (65535 : Int32)) fun x27 =>
  (if x27 = 0 then
  fX6_walk_J42 a0 a1 a2 a3 a0 S
  else
  Option.bind (fX6_in a3 (1 : Int32) (200 : Int32)) fun x28 =>
  (if x28 = 0 then
  fX6_walk_J42 a0 a1 a2 a3 a0 S
  else
  fX6_walk_J43 a0 a1 a2 a3 a0 (0 : Int32) S)))
def fX6_at_J45 (s0 : Int32) (S : ZS) : Option (Int32 × ZS) :=
  some (s0, S)
def fX6_at_J18 (l0 : Nat) (l1 : Int32) (l2 : Int32) (l3 : Int32) (l4 : Int32) (s0 : Nat) (s1 : Int32) (S : ZS) : Option (Int32 × ZS) :=
  Option.bind (zcl S s0 6 (fX6_goesWell s0 s1 S)) fun x2 =>
  (if x2.1 = 0 then
  fX6_at_J45 (0 : Int32) x2.2
  else
  Option.bind (zgR x2.2 l0 6 4) fun v3 =>
  Option.bind (fX6_place l2 l3 l4) fun x4 =>
  Option.bind (zaI x2.2 v3 0 (((64 : Int32) * l1) + x4)) fun v5 =>
  fX6_at_J45 v5 x2.2)
def fX6_at (a0 : Nat) (a1 : Int32) (a2 : Int32) (a3 : Int32) (a4 : Int32) (S : ZS) : Option (Int32 × ZS) :=
  Option.bind (zcl S a0 6 (fX6_isPlace a0 a1 a2 a3 a4 S)) fun x1 =>
  (if x1 = 0 then
  fX6_at_J18 a0 a1 a2 a3 a4 a0 (1 : Int32) S
  else
  fX6_at_J18 a0 a1 a2 a3 a4 a0 (0 : Int32) S)
def fX6_inverse_J29 (l0 : Nat) (l1 : Int32) (l3 : Int32) (s0 : Int32) (S : ZS) : Option ((Int32 × Int32) ⊕ Int32) :=
  some (.inl (s0, l3 + (1 : Int32)))
def fX6_inverse_B4 (l0 : Nat) (l1 : Int32) (S : ZS) (t4 : (Int32 × Int32)) : Option ((Int32 × Int32) ⊕ Int32) :=
  Option.bind (zgI S l0 6 1) fun v1 =>
  (if v1 ≤ t4.2 then
  zex (some t4.1)
  else
  Option.bind (zgI S l0 6 1) fun v2 =>
  Option.bind (zrem (t4.2 * l1) v2) fun v3 =>
  (if v3 = (1 : Int32) then
  fX6_inverse_J29 l0 l1 t4.2 t4.2 S
  else
  fX6_inverse_J29 l0 l1 t4.2 t4.1 S))
def fX6_inverse (a0 : Nat) (a1 : Int32) (S : ZS) : Option Int32 :=
  ziter (fX6_inverse_B4 a0 a1 S) zF ((1 : Int32), (1 : Int32))
def fX6_rank_J268 (l2 : Int32) (S : ZS) : Option (Int32 × ZS) :=
  some (l2, S)
def fX6_rank_J262 (l0 : Nat) (l1 : Int32) (l2 : Int32) (l3 : Int32) (S : ZS) : Option ((Int32 × Int32 × ZS) ⊕ (Int32 × ZS)) :=
  some (.inl (l2, l3 + (1 : Int32), S))
def fX6_rank_B193 (l0 : Nat) (l1 : Int32) (l2 : Int32) (l3 : Int32) (l5 : Int32) (l6 : Int32) (l7 : Int32) (t193 : (Int32 × ZS)) : Option ((Int32 × ZS) ⊕ ((Int32 × ZS) ⊕ ((Int32 × Int32 × ZS) ⊕ (Int32 × ZS)))) :=
  (if (16 : Int32) ≤ t193.1 then
  zex (some (.inl (l6 + (1 : Int32), t193.2)))
  else
  Option.bind (zgR t193.2 l0 6 12) fun v9 =>
  Option.bind (zgR t193.2 l0 6 12) fun v10 =>
  Option.bind (zaI t193.2 v10 0 (((16 : Int32) * l6) + t193.1)) fun v11 =>
  Option.bind (zgR t193.2 l0 6 12) fun v12 =>
  Option.bind (zaI t193.2 v12 0 (((16 : Int32) * l2) + t193.1)) fun v13 =>
  Option.bind (zgI t193.2 l0 6 1) fun v14 =>
  Option.bind (zrem (v11 + (l7 * v13)) v14) fun v15 =>
  Option.bind (zsI t193.2 v9 0 (((16 : Int32) * l6) + t193.1) v15) fun S16 =>
  some (.inl (t193.1 + (1 : Int32), S16)))
def fX6_rank_B157 (l0 : Nat) (l1 : Int32) (l2 : Int32) (l3 : Int32) (l5 : Int32) (t157 : (Int32 × ZS)) : Option ((Int32 × ZS) ⊕ ((Int32 × Int32 × ZS) ⊕ (Int32 × ZS))) :=
  (if l1 ≤ t157.1 then
  zex (fX6_rank_J262 l0 l1 (l2 + (1 : Int32)) l3 t157.2)
  else
  Option.bind (zgI t157.2 l0 6 1) fun v4 =>
  Option.bind (zgR t157.2 l0 6 12) fun v5 =>
  Option.bind (zaI t157.2 v5 0 (((16 : Int32) * t157.1) + l3)) fun v6 =>
  Option.bind (zgI t157.2 l0 6 1) fun v7 =>
  Option.bind (zrem (v6 * l5) v7) fun v8 =>
  ziter (fX6_rank_B193 l0 l1 l2 l3 l5 t157.1 (v4 - v8)) zF ((0 : Int32), t157.2))
def fX6_rank_B68 (l0 : Nat) (l1 : Int32) (l2 : Int32) (l3 : Int32) (l4 : Int32) (t68 : (Int32 × ZS)) : Option ((Int32 × ZS) ⊕ ((Int32 × Int32 × ZS) ⊕ (Int32 × ZS))) :=
  (if (16 : Int32) ≤ t68.1 then
  zex (Option.bind (zgR t68.2 l0 6 12) fun v1 =>
  Option.bind (zaI t68.2 v1 0 (((16 : Int32) * l2) + l3)) fun v2 =>
  Option.bind (zcl t68.2 l0 6 (fX6_inverse l0 v2 t68.2)) fun x3 =>
  ziter (fX6_rank_B157 l0 l1 l2 l3 x3) zF (l2 + (1 : Int32), t68.2))
  else
  Option.bind (zgR t68.2 l0 6 12) fun v38 =>
  Option.bind (zaI t68.2 v38 0 (((16 : Int32) * l2) + t68.1)) fun v39 =>
  Option.bind (zgR t68.2 l0 6 12) fun v40 =>
  Option.bind (zgR t68.2 l0 6 12) fun v41 =>
  Option.bind (zaI t68.2 v41 0 (((16 : Int32) * l4) + t68.1)) fun v42 =>
  Option.bind (zsI t68.2 v40 0 (((16 : Int32) * l2) + t68.1) v42) fun S43 =>
  Option.bind (zgR S43 l0 6 12) fun v44 =>
  Option.bind (zsI S43 v44 0 (((16 : Int32) * l4) + t68.1) v39) fun S45 =>
  some (.inl (t68.1 + (1 : Int32), S45)))
def fX6_rank_J51 (l0 : Nat) (l1 : Int32) (l2 : Int32) (l3 : Int32) (l5 : Int32) (s0 : Int32) (S : ZS) : Option ((Int32 × Int32) ⊕ ((Int32 × Int32 × ZS) ⊕ (Int32 × ZS))) :=
  some (.inl (s0, l5 + (-1 : Int32)))
def fX6_rank_B23 (l0 : Nat) (l1 : Int32) (l2 : Int32) (l3 : Int32) (S : ZS) (t23 : (Int32 × Int32)) : Option ((Int32 × Int32) ⊕ ((Int32 × Int32 × ZS) ⊕ (Int32 × ZS))) :=
  (if t23.2 < l2 then
  zex ((if t23.1 = (-1 : Int32) then
  fX6_rank_J262 l0 l1 l2 l3 S
  else
  ziter (fX6_rank_B68 l0 l1 l2 l3 t23.1) zF ((0 : Int32), S)))
  else
  Option.bind (zgR S l0 6 12) fun v70 =>
  Option.bind (zaI S v70 0 (((16 : Int32) * t23.2) + l3)) fun v71 =>
  (if v71 = 0 then
  fX6_rank_J51 l0 l1 l2 l3 t23.2 t23.1 S
  else
  fX6_rank_J51 l0 l1 l2 l3 t23.2 t23.2 S))
def fX6_rank_B4 (l0 : Nat) (l1 : Int32) (t4 : (Int32 × Int32 × ZS)) : Option ((Int32 × Int32 × ZS) ⊕ (Int32 × ZS)) :=
  (if (16 : Int32) ≤ t4.2.1 then
  zex (fX6_rank_J268 t4.1 t4.2.2)
  else
  (if l1 ≤ t4.1 then
  zex (fX6_rank_J268 t4.1 t4.2.2)
  else
  ziter (fX6_rank_B23 l0 l1 t4.1 t4.2.1 t4.2.2) zF ((-1 : Int32), l1 - (1 : Int32))))
def fX6_rank (a0 : Nat) (a1 : Int32) (S : ZS) : Option (Int32 × ZS) :=
  ziter (fX6_rank_B4 a0 a1) zF ((0 : Int32), (0 : Int32), S)
def fX6_flat_B10 (l0 : Nat) (l1 : Int32) (l2 : Int32) (l3 : Int32) (t10 : (Int32 × ZS)) : Option ((Int32 × ZS) ⊕ ((Int32 × ZS) ⊕ (Int32 × ZS))) :=
  (if (16 : Int32) ≤ t10.1 then
  zex (some (.inl (l3 + (1 : Int32), t10.2)))
  else
  Option.bind (zgR t10.2 l0 6 12) fun v4 =>
  Option.bind (zgR t10.2 l0 6 4) fun v5 =>
  Option.bind (fX6_placeBy l2 l3 (t10.1 / (4 : Int32)) (t10.1 % (4 : Int32))) fun x6 =>
  Option.bind (zaI t10.2 v5 0 (((64 : Int32) * l1) + x6)) fun v7 =>
  Option.bind (zsI t10.2 v4 0 (((16 : Int32) * l3) + t10.1) v7) fun S8 =>
  some (.inl (t10.1 + (1 : Int32), S8)))
def fX6_flat_B2 (l0 : Nat) (l1 : Int32) (l2 : Int32) (t2 : (Int32 × ZS)) : Option ((Int32 × ZS) ⊕ (Int32 × ZS)) :=
  (if (4 : Int32) ≤ t2.1 then
  zex (Option.bind (zgR t2.2 l0 6 3) fun v1 =>
  Option.bind (zaI t2.2 v1 0 (((3 : Int32) * l1) + l2)) fun v2 =>
  Option.bind (zcl t2.2 l0 6 (fX6_rank l0 v2 t2.2)) fun x3 =>
  some (x3.1, x3.2))
  else
  ziter (fX6_flat_B10 l0 l1 l2 t2.1) zF ((0 : Int32), t2.2))
def fX6_flat (a0 : Nat) (a1 : Int32) (a2 : Int32) (S : ZS) : Option (Int32 × ZS) :=
  ziter (fX6_flat_B2 a0 a1 a2) zF ((0 : Int32), S)
def fX6_flattening_J37 (s0 : Int32) (S : ZS) : Option (Int32 × ZS) :=
  some (s0, S)
def fX6_flattening_J21 (l0 : Nat) (l1 : Int32) (l2 : Int32) (s0 : Nat) (s1 : Int32) (S : ZS) : Option (Int32 × ZS) :=
  Option.bind (zcl S s0 6 (fX6_goesWell s0 s1 S)) fun x2 =>
  (if x2.1 = 0 then
  fX6_flattening_J37 (0 : Int32) x2.2
  else
  Option.bind (zcl x2.2 l0 6 (fX6_flat l0 l1 l2 x2.2)) fun x3 =>
  fX6_flattening_J37 x3.1 x3.2)
def fX6_flattening_J20 (l0 : Nat) (l1 : Int32) (l2 : Int32) (s0 : Nat) (S : ZS) : Option (Int32 × ZS) :=
  fX6_flattening_J21 l0 l1 l2 s0 (1 : Int32) S
def fX6_flattening (a0 : Nat) (a1 : Int32) (a2 : Int32) (S : ZS) : Option (Int32 × ZS) :=
  Option.bind (zcl S a0 6 (fX6_isCube a0 a1 S)) fun x1 =>
  (if x1 = 0 then
  fX6_flattening_J20 a0 a1 a2 a0 S
  else
  Option.bind (fX6_isSide a2) fun x4 =>
  (if x4 = 0 then
  fX6_flattening_J20 a0 a1 a2 a0 S
  else
  fX6_flattening_J21 a0 a1 a2 a0 (0 : Int32) S))
def fX6_bound_J70 (s0 : Int32) (S : ZS) : Option (Int32 × ZS) :=
  some (s0, S)
def fX6_bound_J49 (l0 : Nat) (l1 : Int32) (s0 : Int32) (S : ZS) : Option (Int32 × ZS) :=
  Option.bind (zcl S l0 6 (fX6_flat l0 l1 (2 : Int32) S)) fun x5 =>
  (if x5.1 ≤ s0 then
  fX6_bound_J70 s0 x5.2
  else
  Option.bind (zcl x5.2 l0 6 (fX6_flat l0 l1 (2 : Int32) x5.2)) fun x6 =>
  fX6_bound_J70 x6.1 x6.2)
def fX6_bound_J14 (l0 : Nat) (l1 : Int32) (s0 : Nat) (s1 : Int32) (S : ZS) : Option (Int32 × ZS) :=
  Option.bind (zcl S s0 6 (fX6_goesWell s0 s1 S)) fun x2 =>
  (if x2.1 = 0 then
  some ((0 : Int32), x2.2)
  else
  Option.bind (zcl x2.2 l0 6 (fX6_flat l0 l1 (0 : Int32) x2.2)) fun x3 =>
  Option.bind (zcl x3.2 l0 6 (fX6_flat l0 l1 (1 : Int32) x3.2)) fun x4 =>
  (if x4.1 ≤ x3.1 then
  fX6_bound_J49 l0 l1 x3.1 x4.2
  else
  Option.bind (zcl x4.2 l0 6 (fX6_flat l0 l1 (1 : Int32) x4.2)) fun x7 =>
  fX6_bound_J49 l0 l1 x7.1 x7.2))
def fX6_bound (a0 : Nat) (a1 : Int32) (S : ZS) : Option (Int32 × ZS) :=
  Option.bind (zcl S a0 6 (fX6_isCube a0 a1 S)) fun x1 =>
  (if x1 = 0 then
  fX6_bound_J14 a0 a1 a0 (1 : Int32) S
  else
  fX6_bound_J14 a0 a1 a0 (0 : Int32) S)
def fX6_single_J105 (l0 : Nat) (l1 : Int32) (l2 : Int32) (l3 : Int32) (l4 : Int32) (l5 : Int32) (l6 : Int32) (l8 : Int32) (l9 : Int32) (s0 : Int32) (s1 : Int32) (S : ZS) : Option ((Int32 × Int32) ⊕ ((Int32 × Int32) ⊕ Int32)) :=
  some (.inl (s0 ||| s1, l9 + (1 : Int32)))
def fX6_single_J78 (l0 : Nat) (l1 : Int32) (l2 : Int32) (l3 : Int32) (l4 : Int32) (l5 : Int32) (l6 : Int32) (l7 : Int32) (l8 : Int32) (l9 : Int32) (s0 : Int32) (S : ZS) : Option ((Int32 × Int32) ⊕ ((Int32 × Int32) ⊕ Int32)) :=
  (if s0 = 0 then
  fX6_single_J105 l0 l1 l2 l3 l4 l5 l6 l8 l9 l7 (0 : Int32) S
  else
  fX6_single_J105 l0 l1 l2 l3 l4 l5 l6 l8 l9 l7 (l4 <<< ((l6 * ((l5 * l8) + l9)) &&& 31)) S)
def fX6_single_J77 (l0 : Nat) (l1 : Int32) (l2 : Int32) (l3 : Int32) (l4 : Int32) (l5 : Int32) (l6 : Int32) (l7 : Int32) (l8 : Int32) (l9 : Int32) (S : ZS) : Option ((Int32 × Int32) ⊕ ((Int32 × Int32) ⊕ Int32)) :=
  fX6_single_J78 l0 l1 l2 l3 l4 l5 l6 l7 l8 l9 (0 : Int32) S
def fX6_single_B46 (l0 : Nat) (l1 : Int32) (l2 : Int32) (l3 : Int32) (l4 : Int32) (l5 : Int32) (l6 : Int32) (l8 : Int32) (S : ZS) (t46 : (Int32 × Int32)) : Option ((Int32 × Int32) ⊕ ((Int32 × Int32) ⊕ Int32)) :=
  (if l5 ≤ t46.2 then
  zex (some (.inl (t46.1, l8 + (1 : Int32))))
  else
  (if ((l2 >>> (l8 &&& 31)) &&& (1 : Int32)) = (1 : Int32) then
  (if ((l3 >>> (t46.2 &&& 31)) &&& (1 : Int32)) = (1 : Int32) then
  fX6_single_J78 l0 l1 l2 l3 l4 l5 l6 t46.1 l8 t46.2 (1 : Int32) S
  else
  fX6_single_J77 l0 l1 l2 l3 l4 l5 l6 t46.1 l8 t46.2 S)
  else
  fX6_single_J77 l0 l1 l2 l3 l4 l5 l6 t46.1 l8 t46.2 S))
def fX6_single_B30 (l0 : Nat) (l1 : Int32) (l2 : Int32) (l3 : Int32) (l4 : Int32) (l5 : Int32) (l6 : Int32) (S : ZS) (t30 : (Int32 × Int32)) : Option ((Int32 × Int32) ⊕ Int32) :=
  Option.bind (zgR S l0 6 3) fun v5 =>
  Option.bind (zaI S v5 0 ((3 : Int32) * l1)) fun v6 =>
  (if v6 ≤ t30.2 then
  zex (some t30.1)
  else
  ziter (fX6_single_B46 l0 l1 l2 l3 l4 l5 l6 t30.2 S) zF (t30.1, (0 : Int32)))
def fX6_single (a0 : Nat) (a1 : Int32) (a2 : Int32) (a3 : Int32) (a4 : Int32) (S : ZS) : Option Int32 :=
  Option.bind (zgR S a0 6 3) fun v1 =>
  Option.bind (zaI S v1 0 (((3 : Int32) * a1) + (1 : Int32))) fun v2 =>
  Option.bind (zgR S a0 6 3) fun v3 =>
  Option.bind (zaI S v3 0 (((3 : Int32) * a1) + (2 : Int32))) fun v4 =>
  ziter (fX6_single_B30 a0 a1 a2 a3 a4 v2 v4 S) zF ((0 : Int32), (0 : Int32))
def fX6_learn_J44  (S : ZS) : Option ZS :=
  some S
def fX6_learn (a0 : Nat) (a1 : Int32) (a2 : Int32) (S : ZS) : Option ZS :=
  Option.bind (zgR S a0 6 13) fun v1 =>
  Option.bind (zaI S v1 0 a2) fun v2 =>
  (if v2 = (-1 : Int32) then
  Option.bind (zgR S a0 6 13) fun v3 =>
  Option.bind (zgR S a0 6 13) fun v4 =>
  Option.bind (zaI S v4 0 a1) fun v5 =>
  Option.bind (zsI S v3 0 a2 (v5 + (1 : Int32))) fun S6 =>
  Option.bind (zgR S6 a0 6 14) fun v7 =>
  Option.bind (zgI S6 a0 6 15) fun v8 =>
  Option.bind (zsI S6 v7 0 v8 a2) fun S9 =>
  Option.bind (zgI S9 a0 6 15) fun v10 =>
  Option.bind (zpF S9 a0 6 15 (.int (v10 + (1 : Int32)))) fun S11 =>
  fX6_learn_J44  S11
  else
  fX6_learn_J44  S)
def fX6_fewest_J270 (l0 : Nat) (l5 : Int32) (S : ZS) : Option (Int32 × ZS) :=
  Option.bind (zgR S l0 6 13) fun v13 =>
  Option.bind (zaI S v13 0 l5) fun v14 =>
  some (v14, S)
def fX6_fewest_J258 (l0 : Nat) (l1 : Int32) (l2 : Int32) (l3 : Int32) (l4 : Int32) (l5 : Int32) (l6 : Int32) (l7 : Int32) (S : ZS) : Option ((Int32 × ZS) ⊕ ((Int32 × ZS) ⊕ (Int32 × ZS))) :=
  some (.inl (l7 + (1 : Int32), S))
def fX6_fewest_B170 (l0 : Nat) (l1 : Int32) (l2 : Int32) (l3 : Int32) (l4 : Int32) (l5 : Int32) (l6 : Int32) (t170 : (Int32 × ZS)) : Option ((Int32 × ZS) ⊕ ((Int32 × ZS) ⊕ (Int32 × ZS))) :=
  (if ((1 : Int32) <<< (((l2 + l3) + l4) &&& 31)) ≤ t170.1 then
  zex (some (.inl (l6 + (1 : Int32), t170.2)))
  else
  (if (t170.1 &&& (((1 : Int32) <<< (l2 &&& 31)) - (1 : Int32))) ≤ 0 then
  fX6_fewest_J258 l0 l1 l2 l3 l4 l5 l6 t170.1 t170.2
  else
  (if ((t170.1 >>> (l2 &&& 31)) &&& (((1 : Int32) <<< (l3 &&& 31)) - (1 : Int32))) ≤ 0 then
  fX6_fewest_J258 l0 l1 l2 l3 l4 l5 l6 t170.1 t170.2
  else
  (if (t170.1 >>> ((l2 + l3) &&& 31)) ≤ 0 then
  fX6_fewest_J258 l0 l1 l2 l3 l4 l5 l6 t170.1 t170.2
  else
  Option.bind (zgR t170.2 l0 6 14) fun v17 =>
  Option.bind (zaI t170.2 v17 0 l6) fun v18 =>
  Option.bind (zgR t170.2 l0 6 14) fun v19 =>
  Option.bind (zaI t170.2 v19 0 l6) fun v20 =>
  Option.bind (zcl t170.2 l0 6 (fX6_single l0 l1 (t170.1 &&& (((1 : Int32) <<< (l2 &&& 31)) - (1 : Int32))) ((t170.1 >>> (l2 &&& 31)) &&& (((1 : Int32) <<< (l3 &&& 31)) - (1 : Int32))) (t170.1 >>> ((l2 + l3) &&& 31)) t170.2)) fun x21 =>
  Option.bind (zcl t170.2 l0 6 (fX6_learn l0 v18 (v20 ^^^ x21) t170.2)) fun x22 =>
  fX6_fewest_J258 l0 l1 l2 l3 l4 l5 l6 t170.1 x22))))
def fX6_fewest_B147 (l0 : Nat) (l1 : Int32) (l2 : Int32) (l3 : Int32) (l4 : Int32) (l5 : Int32) (t147 : (Int32 × ZS)) : Option ((Int32 × ZS) ⊕ (Int32 × ZS)) :=
  Option.bind (zgI t147.2 l0 6 15) fun v12 =>
  (if v12 ≤ t147.1 then
  zex (fX6_fewest_J270 l0 l5 t147.2)
  else
  Option.bind (zgR t147.2 l0 6 13) fun v15 =>
  Option.bind (zaI t147.2 v15 0 l5) fun v16 =>
  (if v16 = (-1 : Int32) then
  ziter (fX6_fewest_B170 l0 l1 l2 l3 l4 l5 t147.1) zF ((0 : Int32), t147.2)
  else
  zex (fX6_fewest_J270 l0 l5 t147.2)))
def fX6_fewest_B98 (l0 : Nat) (l1 : Int32) (l2 : Int32) (l3 : Int32) (l4 : Int32) (l5 : Int32) (t98 : (Int32 × ZS)) : Option ((Int32 × ZS) ⊕ (Int32 × ZS)) :=
  (if ((1 : Int32) <<< (((l2 * l3) * l4) &&& 31)) ≤ t98.1 then
  zex (Option.bind (zgR t98.2 l0 6 13) fun v7 =>
  Option.bind (zsI t98.2 v7 0 (0 : Int32) (0 : Int32)) fun S8 =>
  Option.bind (zgR S8 l0 6 14) fun v9 =>
  Option.bind (zsI S8 v9 0 (0 : Int32) (0 : Int32)) fun S10 =>
  Option.bind (zpF S10 l0 6 15 (.int (1 : Int32))) fun S11 =>
  ziter (fX6_fewest_B147 l0 l1 l2 l3 l4 l5) zF ((0 : Int32), S11))
  else
  Option.bind (zgR t98.2 l0 6 13) fun v38 =>
  Option.bind (zsI t98.2 v38 0 t98.1 (-1 : Int32)) fun S39 =>
  some (.inl (t98.1 + (1 : Int32), S39)))
def fX6_fewest_B38 (l0 : Nat) (l1 : Int32) (l2 : Int32) (l3 : Int32) (l4 : Int32) (S : ZS) (t38 : (Int32 × Int32)) : Option ((Int32 × Int32) ⊕ (Int32 × ZS)) :=
  (if ((l2 * l3) * l4) ≤ t38.2 then
  zex (ziter (fX6_fewest_B98 l0 l1 l2 l3 l4 t38.1) zF ((0 : Int32), S))
  else
  Option.bind (zgR S l0 6 4) fun v56 =>
  Option.bind (zdiv t38.2 l4) fun v57 =>
  Option.bind (zdiv v57 l3) fun v58 =>
  Option.bind (zdiv t38.2 l4) fun v59 =>
  Option.bind (zrem v59 l3) fun v60 =>
  Option.bind (zrem t38.2 l4) fun v61 =>
  Option.bind (fX6_place v58 v60 v61) fun x62 =>
  Option.bind (zaI S v56 0 (((64 : Int32) * l1) + x62)) fun v63 =>
  some (.inl (t38.1 ||| (v63 <<< (t38.2 &&& 31)), t38.2 + (1 : Int32))))
def fX6_fewest (a0 : Nat) (a1 : Int32) (S : ZS) : Option (Int32 × ZS) :=
  Option.bind (zgR S a0 6 3) fun v1 =>
  Option.bind (zaI S v1 0 ((3 : Int32) * a1)) fun v2 =>
  Option.bind (zgR S a0 6 3) fun v3 =>
  Option.bind (zaI S v3 0 (((3 : Int32) * a1) + (1 : Int32))) fun v4 =>
  Option.bind (zgR S a0 6 3) fun v5 =>
  Option.bind (zaI S v5 0 (((3 : Int32) * a1) + (2 : Int32))) fun v6 =>
  ziter (fX6_fewest_B38 a0 a1 v2 v4 v6 S) zF ((0 : Int32), (0 : Int32))
def fX6_leastOf_J93 (s0 : Int32) (S : ZS) : Option (Int32 × ZS) :=
  some (s0, S)
def fX6_leastOf_J78 (l0 : Nat) (l1 : Int32) (s0 : Nat) (s1 : Int32) (S : ZS) : Option (Int32 × ZS) :=
  Option.bind (zcl S s0 6 (fX6_goesWell s0 s1 S)) fun x2 =>
  (if x2.1 = 0 then
  fX6_leastOf_J93 (0 : Int32) x2.2
  else
  Option.bind (zcl x2.2 l0 6 (fX6_fewest l0 l1 x2.2)) fun x3 =>
  fX6_leastOf_J93 x3.1 x3.2)
def fX6_leastOf_J57 (l0 : Nat) (l1 : Int32) (l3 : Int32) (s0 : Int32) (S : ZS) : Option (Int32 × ZS) :=
  (if l3 = 0 then
  fX6_leastOf_J78 l0 l1 l0 (1 : Int32) S
  else
  (if s0 = 0 then
  fX6_leastOf_J78 l0 l1 l0 (2 : Int32) S
  else
  fX6_leastOf_J78 l0 l1 l0 (0 : Int32) S))
def fX6_leastOf_J56 (l0 : Nat) (l1 : Int32) (l3 : Int32) (S : ZS) : Option (Int32 × ZS) :=
  fX6_leastOf_J57 l0 l1 l3 (0 : Int32) S
def fX6_leastOf (a0 : Nat) (a1 : Int32) (a2 : Int32) (S : ZS) : Option (Int32 × ZS) :=
  Option.bind (zcl S a0 6 (fX6_isCube a0 a1 S)) fun x1 =>
  (if x1 = 0 then
  fX6_leastOf_J56 a0 a1 x1 S
  else
  Option.bind (zgI S a0 6 1) fun v4 =>
  (if v4 = (2 : Int32) then
  Option.bind (zgR S a0 6 3) fun v5 =>
  Option.bind (zaI S v5 0 ((3 : Int32) * a1)) fun v6 =>
  Option.bind (zgR S a0 6 3) fun v7 =>
  Option.bind (zaI S v7 0 (((3 : Int32) * a1) + (1 : Int32))) fun v8 =>
  Option.bind (zgR S a0 6 3) fun v9 =>
  Option.bind (zaI S v9 0 (((3 : Int32) * a1) + (2 : Int32))) fun v10 =>
  (if a2 < ((v6 * v8) * v10) then
  fX6_leastOf_J56 a0 a1 x1 S
  else
  fX6_leastOf_J57 a0 a1 x1 (1 : Int32) S)
  else
  fX6_leastOf_J56 a0 a1 x1 S))
def fX6_least (a0 : Nat) (a1 : Int32) (S : ZS) : Option (Int32 × ZS) :=
  Option.bind (zcl S a0 6 (fX6_leastOf a0 a1 (12 : Int32) S)) fun x1 =>
  some (x1.1, x1.2)
def fX6_leastAnew (a0 : Nat) (a1 : Int32) (S : ZS) : Option (Int32 × ZS) :=
  Option.bind (zcl S a0 6 (fX6_leastOf a0 a1 (8 : Int32) S)) fun x1 =>
  some (x1.1, x1.2)
def fX6_made_B5 (l0 : Nat) (l1 : Int32) (l2 : Int32) (S : ZS) (t5 : (Int32 × Int32)) : Option ((Int32 × Int32) ⊕ Int32) :=
  Option.bind (zgR S l0 6 10) fun v1 =>
  Option.bind (zaI S v1 0 l1) fun v2 =>
  (if v2 ≤ t5.2 then
  zex (Option.bind (zgI S l0 6 1) fun v3 =>
  Option.bind (zrem t5.1 v3) fun v4 =>
  some v4)
  else
  Option.bind (zgR S l0 6 11) fun v5 =>
  Option.bind (fX6_from l1 t5.2 (0 : Int32)) fun x6 =>
  Option.bind (zaI S v5 0 (x6 + (l2 / (16 : Int32)))) fun v7 =>
  Option.bind (zgR S l0 6 11) fun v8 =>
  Option.bind (fX6_from l1 t5.2 (1 : Int32)) fun x9 =>
  Option.bind (zaI S v8 0 (x9 + ((l2 / (4 : Int32)) % (4 : Int32)))) fun v10 =>
  Option.bind (zgR S l0 6 11) fun v11 =>
  Option.bind (fX6_from l1 t5.2 (2 : Int32)) fun x12 =>
  Option.bind (zaI S v11 0 (x12 + (l2 % (4 : Int32)))) fun v13 =>
  some (.inl (t5.1 + ((v7 * v10) * v13), t5.2 + (1 : Int32))))
def fX6_made (a0 : Nat) (a1 : Int32) (a2 : Int32) (S : ZS) : Option Int32 :=
  ziter (fX6_made_B5 a0 a1 a2 S) zF ((0 : Int32), (0 : Int32))
def fX6_wrong_J97 (l0 : Nat) (l1 : Int32) (l3 : Int32) (s0 : Int32) (s1 : Int32) (S : ZS) : Option ((Int32 × Int32) ⊕ Int32) :=
  some (.inl (s0 + s1, l3 + (1 : Int32)))
def fX6_wrong_J96 (l0 : Nat) (l1 : Int32) (l3 : Int32) (s0 : Int32) (S : ZS) : Option ((Int32 × Int32) ⊕ Int32) :=
  fX6_wrong_J97 l0 l1 l3 s0 (0 : Int32) S
def fX6_wrong_J64 (l0 : Nat) (l1 : Int32) (l2 : Int32) (l3 : Int32) (s0 : Int32) (S : ZS) : Option ((Int32 × Int32) ⊕ Int32) :=
  (if s0 = 0 then
  fX6_wrong_J96 l0 l1 l3 l2 S
  else
  Option.bind (zcl S l0 6 (fX6_made l0 l1 l3 S)) fun x3 =>
  Option.bind (zgR S l0 6 8) fun v4 =>
  Option.bind (zaI S v4 0 (((64 : Int32) * l1) + l3)) fun v5 =>
  (if x3 = v5 then
  fX6_wrong_J96 l0 l1 l3 l2 S
  else
  fX6_wrong_J97 l0 l1 l3 l2 (1 : Int32) S))
def fX6_wrong_J63 (l0 : Nat) (l1 : Int32) (l2 : Int32) (l3 : Int32) (S : ZS) : Option ((Int32 × Int32) ⊕ Int32) :=
  fX6_wrong_J64 l0 l1 l2 l3 (0 : Int32) S
def fX6_wrong_B4 (l0 : Nat) (l1 : Int32) (S : ZS) (t4 : (Int32 × Int32)) : Option ((Int32 × Int32) ⊕ Int32) :=
  (if (64 : Int32) ≤ t4.2 then
  zex (some t4.1)
  else
  Option.bind (zgR S l0 6 7) fun v1 =>
  Option.bind (zaI S v1 0 ((3 : Int32) * l1)) fun v2 =>
  (if v2 ≤ (t4.2 / (16 : Int32)) then
  fX6_wrong_J63 l0 l1 t4.1 t4.2 S
  else
  Option.bind (zgR S l0 6 7) fun v6 =>
  Option.bind (zaI S v6 0 (((3 : Int32) * l1) + (1 : Int32))) fun v7 =>
  (if v7 ≤ ((t4.2 / (4 : Int32)) % (4 : Int32)) then
  fX6_wrong_J63 l0 l1 t4.1 t4.2 S
  else
  Option.bind (zgR S l0 6 7) fun v8 =>
  Option.bind (zaI S v8 0 (((3 : Int32) * l1) + (2 : Int32))) fun v9 =>
  (if v9 ≤ (t4.2 % (4 : Int32)) then
  fX6_wrong_J63 l0 l1 t4.1 t4.2 S
  else
  fX6_wrong_J64 l0 l1 t4.1 t4.2 (1 : Int32) S))))
def fX6_wrong (a0 : Nat) (a1 : Int32) (S : ZS) : Option Int32 :=
  ziter (fX6_wrong_B4 a0 a1 S) zF ((0 : Int32), (0 : Int32))
def fX6_laySets_J149 (l0 : Nat) (l1 : Int32) (l2 : Int32) (l3 : Int32) (l4 : Int32) (s0 : Nat) (s1 : Int32) (s2 : Int32) (S : ZS) : Option ((Int32 × ZS) ⊕ ((Int32 × ZS) ⊕ ZS)) :=
  Option.bind (zsI S s0 2 s1 (znar s2)) fun S10 =>
  some (.inl (l4 + (1 : Int32), S10))
def fX6_laySets_J148 (l0 : Nat) (l1 : Int32) (l2 : Int32) (l3 : Int32) (l4 : Int32) (s0 : Nat) (s1 : Int32) (S : ZS) : Option ((Int32 × ZS) ⊕ ((Int32 × ZS) ⊕ ZS)) :=
  fX6_laySets_J149 l0 l1 l2 l3 l4 s0 s1 (0 : Int32) S
def fX6_laySets_J140 (l0 : Nat) (l1 : Int32) (l2 : Int32) (l3 : Int32) (l4 : Int32) (s0 : Nat) (s1 : Int32) (s2 : Nat) (s3 : Int32) (S : ZS) : Option ((Int32 × ZS) ⊕ ((Int32 × ZS) ⊕ ZS)) :=
  Option.bind (zaI S s2 0 s3) fun v13 =>
  (if v13 = 0 then
  fX6_laySets_J148 l0 l1 l2 l3 l4 s0 s1 S
  else
  fX6_laySets_J149 l0 l1 l2 l3 l4 s0 s1 (1 : Int32) S)
def fX6_laySets_J91 (l0 : Nat) (l1 : Int32) (l2 : Int32) (l3 : Int32) (l4 : Int32) (s0 : Int32) (S : ZS) : Option ((Int32 × ZS) ⊕ ((Int32 × ZS) ⊕ ZS)) :=
  Option.bind (zgR S l0 6 16) fun v9 =>
  (if s0 = 0 then
  fX6_laySets_J148 l0 l1 l2 l3 l4 v9 (((128 : Int32) * l3) + l4) S
  else
  Option.bind (zgR S l0 6 11) fun v11 =>
  (if (2 : Int32) ≤ l2 then
  Option.bind (fX6_from l1 l4 l2) fun x12 =>
  fX6_laySets_J140 l0 l1 l2 l3 l4 v9 (((128 : Int32) * l3) + l4) v11 (x12 + l3) S
  else
  Option.bind (fX6_from l1 l3 l2) fun x14 =>
  fX6_laySets_J140 l0 l1 l2 l3 l4 v9 (((128 : Int32) * l3) + l4) v11 (x14 + l4) S))
def fX6_laySets_B69 (l0 : Nat) (l1 : Int32) (l2 : Int32) (l3 : Int32) (t69 : (Int32 × ZS)) : Option ((Int32 × ZS) ⊕ ((Int32 × ZS) ⊕ ZS)) :=
  (if (128 : Int32) ≤ t69.1 then
  zex (some (.inl (l3 + (1 : Int32), t69.2)))
  else
  Option.bind (zgI t69.2 l0 6 18) fun v8 =>
  (if v8 ≤ t69.1 then
  fX6_laySets_J91 l0 l1 l2 l3 t69.1 (0 : Int32) t69.2
  else
  fX6_laySets_J91 l0 l1 l2 l3 t69.1 (1 : Int32) t69.2))
def fX6_laySets_B58 (l0 : Nat) (l1 : Int32) (l2 : Int32) (t58 : (Int32 × ZS)) : Option ((Int32 × ZS) ⊕ ZS) :=
  Option.bind (zgI t58.2 l0 6 17) fun v7 =>
  (if v7 ≤ t58.1 then
  zex (some t58.2)
  else
  ziter (fX6_laySets_B69 l0 l1 l2 t58.1) zF ((0 : Int32), t58.2))
def fX6_laySets_J53 (l0 : Nat) (l1 : Int32) (l2 : Int32) (s0 : Nat) (s1 : Int32) (S : ZS) : Option ZS :=
  Option.bind (zpF S s0 6 18 (.int s1)) fun S6 =>
  ziter (fX6_laySets_B58 l0 l1 l2) zF ((0 : Int32), S6)
def fX6_laySets_J25 (l0 : Nat) (l1 : Int32) (l2 : Int32) (s0 : Nat) (s1 : Int32) (S : ZS) : Option ZS :=
  Option.bind (zpF S s0 6 17 (.int s1)) fun S3 =>
  (if (2 : Int32) ≤ l2 then
  Option.bind (zgR S3 l0 6 10) fun v4 =>
  Option.bind (zaI S3 v4 0 l1) fun v5 =>
  fX6_laySets_J53 l0 l1 l2 l0 v5 S3
  else
  Option.bind (zgR S3 l0 6 7) fun v30 =>
  Option.bind (zaI S3 v30 0 (((3 : Int32) * l1) + l2)) fun v31 =>
  fX6_laySets_J53 l0 l1 l2 l0 v31 S3)
def fX6_laySets (a0 : Nat) (a1 : Int32) (a2 : Int32) (S : ZS) : Option ZS :=
  (if (2 : Int32) ≤ a2 then
  Option.bind (zgR S a0 6 7) fun v1 =>
  Option.bind (zaI S v1 0 (((3 : Int32) * a1) + (2 : Int32))) fun v2 =>
  fX6_laySets_J25 a0 a1 a2 a0 v2 S
  else
  Option.bind (zgR S a0 6 10) fun v32 =>
  Option.bind (zaI S v32 0 a1) fun v33 =>
  fX6_laySets_J25 a0 a1 a2 a0 v33 S)
def fX6_additionsOf_J69 (l0 : Nat) (l2 : Int32) (s0 : Int32) (s1 : Int32) (S : ZS) : Option ((Int32 × Int32) ⊕ Int32) :=
  some (.inl (s0 + s1, l2 + (1 : Int32)))
def fX6_additionsOf_J48 (l0 : Nat) (l1 : Int32) (l2 : Int32) (l4 : Int32) (s0 : Int32) (s1 : Int32) (S : ZS) : Option ((Int32 × Int32) ⊕ ((Int32 × Int32) ⊕ Int32)) :=
  some (.inl (s0 + s1, l4 + (1 : Int32)))
def fX6_additionsOf_B17 (l0 : Nat) (l1 : Int32) (l2 : Int32) (S : ZS) (t17 : (Int32 × Int32)) : Option ((Int32 × Int32) ⊕ ((Int32 × Int32) ⊕ Int32)) :=
  Option.bind (zgI S l0 6 18) fun v2 =>
  (if v2 ≤ t17.2 then
  zex ((if t17.1 ≤ (1 : Int32) then
  fX6_additionsOf_J69 l0 l2 l1 (0 : Int32) S
  else
  fX6_additionsOf_J69 l0 l2 l1 (t17.1 - (1 : Int32)) S))
  else
  Option.bind (zgR S l0 6 16) fun v3 =>
  Option.bind (zaI S v3 2 (((128 : Int32) * l2) + t17.2)) fun v4 =>
  (if v4 = 0 then
  fX6_additionsOf_J48 l0 l1 l2 t17.2 t17.1 (0 : Int32) S
  else
  fX6_additionsOf_J48 l0 l1 l2 t17.2 t17.1 (1 : Int32) S))
def fX6_additionsOf_B4 (l0 : Nat) (S : ZS) (t4 : (Int32 × Int32)) : Option ((Int32 × Int32) ⊕ Int32) :=
  Option.bind (zgI S l0 6 17) fun v1 =>
  (if v1 ≤ t4.2 then
  zex (some t4.1)
  else
  ziter (fX6_additionsOf_B17 l0 t4.1 t4.2 S) zF ((0 : Int32), (0 : Int32)))
def fX6_additionsOf (a0 : Nat) (S : ZS) : Option Int32 :=
  ziter (fX6_additionsOf_B4 a0 S) zF ((0 : Int32), (0 : Int32))
def fX6_common_J52 (l0 : Nat) (l1 : Int32) (l2 : Int32) (l4 : Int32) (s0 : Int32) (s1 : Int32) (S : ZS) : Option ((Int32 × Int32) ⊕ Int32) :=
  some (.inl (s0 + s1, l4 + (1 : Int32)))
def fX6_common_J51 (l0 : Nat) (l1 : Int32) (l2 : Int32) (l4 : Int32) (s0 : Int32) (S : ZS) : Option ((Int32 × Int32) ⊕ Int32) :=
  fX6_common_J52 l0 l1 l2 l4 s0 (0 : Int32) S
def fX6_common_B5 (l0 : Nat) (l1 : Int32) (l2 : Int32) (S : ZS) (t5 : (Int32 × Int32)) : Option ((Int32 × Int32) ⊕ Int32) :=
  Option.bind (zgI S l0 6 17) fun v1 =>
  (if v1 ≤ t5.2 then
  zex (some t5.1)
  else
  Option.bind (zgR S l0 6 16) fun v2 =>
  Option.bind (zaI S v2 2 (((128 : Int32) * t5.2) + l1)) fun v3 =>
  (if v3 = 0 then
  fX6_common_J51 l0 l1 l2 t5.2 t5.1 S
  else
  Option.bind (zgR S l0 6 16) fun v4 =>
  Option.bind (zaI S v4 2 (((128 : Int32) * t5.2) + l2)) fun v5 =>
  (if v5 = 0 then
  fX6_common_J51 l0 l1 l2 t5.2 t5.1 S
  else
  fX6_common_J52 l0 l1 l2 t5.2 t5.1 (1 : Int32) S)))
def fX6_common (a0 : Nat) (a1 : Int32) (a2 : Int32) (S : ZS) : Option Int32 :=
  ziter (fX6_common_B5 a0 a1 a2 S) zF ((0 : Int32), (0 : Int32))
def fX6_shares_J199 (s0 : Int32) (S : ZS) : Option (Int32 × ZS) :=
  Option.bind (zbl s0) fun w => some (w, S)
def fX6_shares_J185 (l2 : Int32) (s0 : Nat) (s1 : Int32) (s2 : Int32) (S : ZS) : Option (Int32 × ZS) :=
  Option.bind (zpF S s0 6 18 (.int (s1 + s2))) fun S4 =>
  (if l2 = (-1 : Int32) then
  fX6_shares_J199 (0 : Int32) S4
  else
  fX6_shares_J199 (1 : Int32) S4)
def fX6_shares_J170 (l0 : Nat) (l2 : Int32) (S : ZS) : Option (Int32 × ZS) :=
  Option.bind (zgI S l0 6 18) fun v3 =>
  (if l2 = (-1 : Int32) then
  fX6_shares_J185 l2 l0 v3 (0 : Int32) S
  else
  fX6_shares_J185 l2 l0 v3 (1 : Int32) S)
def fX6_shares_J164 (l0 : Nat) (l2 : Int32) (l3 : Int32) (l4 : Int32) (S : ZS) : Option ((Int32 × ZS) ⊕ (Int32 × ZS)) :=
  some (.inl (l4 + (1 : Int32), S))
def fX6_shares_B73 (l0 : Nat) (l2 : Int32) (l3 : Int32) (t73 : (Int32 × ZS)) : Option ((Int32 × ZS) ⊕ (Int32 × ZS)) :=
  Option.bind (zgI t73.2 l0 6 17) fun v2 =>
  (if v2 ≤ t73.1 then
  zex (fX6_shares_J170 l0 l2 t73.2)
  else
  (if l2 = (-1 : Int32) then
  zex (fX6_shares_J170 l0 l2 t73.2)
  else
  Option.bind (zgR t73.2 l0 6 16) fun v5 =>
  Option.bind (zaI t73.2 v5 2 (((128 : Int32) * t73.1) + l2)) fun v6 =>
  (if v6 = 0 then
  fX6_shares_J164 l0 l2 l3 t73.1 t73.2
  else
  Option.bind (zgR t73.2 l0 6 16) fun v7 =>
  Option.bind (zaI t73.2 v7 2 (((128 : Int32) * t73.1) + l3)) fun v8 =>
  (if v8 = 0 then
  fX6_shares_J164 l0 l2 l3 t73.1 t73.2
  else
  Option.bind (zgR t73.2 l0 6 16) fun v9 =>
  Option.bind (zsI t73.2 v9 2 (((128 : Int32) * t73.1) + l2) (znar (0 : Int32))) fun S10 =>
  Option.bind (zgR S10 l0 6 16) fun v11 =>
  Option.bind (zsI S10 v11 2 (((128 : Int32) * t73.1) + l3) (znar (0 : Int32))) fun S12 =>
  Option.bind (zgR S12 l0 6 16) fun v13 =>
  Option.bind (zgI S12 l0 6 18) fun v14 =>
  Option.bind (zsI S12 v13 2 (((128 : Int32) * t73.1) + v14) (znar (1 : Int32))) fun S15 =>
  fX6_shares_J164 l0 l2 l3 t73.1 S15))))
def fX6_shares_J58 (l0 : Nat) (l1 : Int32) (l2 : Int32) (l3 : Int32) (l4 : Int32) (l5 : Int32) (S : ZS) : Option ((Int32 × Int32 × Int32 × Int32) ⊕ ((Int32 × Int32 × Int32 × Int32) ⊕ (Int32 × ZS))) :=
  some (.inl (l1, l2, l3, l5 + (1 : Int32)))
def fX6_shares_B24 (l0 : Nat) (l4 : Int32) (S : ZS) (t24 : (Int32 × Int32 × Int32 × Int32)) : Option ((Int32 × Int32 × Int32 × Int32) ⊕ ((Int32 × Int32 × Int32 × Int32) ⊕ (Int32 × ZS))) :=
  Option.bind (zgI S l0 6 18) fun v28 =>
  (if v28 ≤ t24.2.2.2 then
  zex (some (.inl (t24.1, t24.2.1, t24.2.2.1, l4 + (1 : Int32))))
  else
  Option.bind (zcl S l0 6 (fX6_common l0 l4 t24.2.2.2 S)) fun x29 =>
  (if x29 ≤ t24.1 then
  fX6_shares_J58 l0 t24.1 t24.2.1 t24.2.2.1 l4 t24.2.2.2 S
  else
  fX6_shares_J58 l0 x29 l4 t24.2.2.2 l4 t24.2.2.2 S))
def fX6_shares_B9 (l0 : Nat) (S : ZS) (t9 : (Int32 × Int32 × Int32 × Int32)) : Option ((Int32 × Int32 × Int32 × Int32) ⊕ (Int32 × ZS)) :=
  Option.bind (zgI S l0 6 18) fun v1 =>
  (if v1 ≤ t9.2.2.2 then
  zex (ziter (fX6_shares_B73 l0 t9.2.1 t9.2.2.1) zF ((0 : Int32), S))
  else
  ziter (fX6_shares_B24 l0 t9.2.2.2 S) zF (t9.1, t9.2.1, t9.2.2.1, t9.2.2.2 + (1 : Int32)))
def fX6_shares (a0 : Nat) (S : ZS) : Option (Int32 × ZS) :=
  ziter (fX6_shares_B9 a0 S) zF ((1 : Int32), (-1 : Int32), (-1 : Int32), (0 : Int32))
def fX6_additions_J35 (l0 : Nat) (l1 : Int32) (l2 : Int32) (l3 : Int32) (l4 : Int32) (S : ZS) : Option ((Int32 × Int32 × ZS) ⊕ (Int32 × ZS)) :=
  Option.bind (zcl S l0 6 (fX6_additionsOf l0 S)) fun x2 =>
  some (.inl (l3 + x2, l4 + (1 : Int32), S))
def fX6_additions_B18 (l0 : Nat) (l1 : Int32) (l2 : Int32) (l4 : Int32) (t18 : (Int32 × ZS)) : Option ((Int32 × ZS) ⊕ ((Int32 × Int32 × ZS) ⊕ (Int32 × ZS))) :=
  (if l2 = 0 then
  zex (fX6_additions_J35 l0 l1 l2 t18.1 l4 t18.2)
  else
  Option.bind (zcl t18.2 l0 6 (fX6_shares l0 t18.2)) fun x3 =>
  (if x3.1 = 0 then
  zex (fX6_additions_J35 l0 l1 l2 t18.1 l4 x3.2)
  else
  some (.inl (t18.1 + (1 : Int32), x3.2))))
def fX6_additions_B5 (l0 : Nat) (l1 : Int32) (l2 : Int32) (t5 : (Int32 × Int32 × ZS)) : Option ((Int32 × Int32 × ZS) ⊕ (Int32 × ZS)) :=
  (if (3 : Int32) ≤ t5.2.1 then
  zex (some (t5.1, t5.2.2))
  else
  Option.bind (zcl t5.2.2 l0 6 (fX6_laySets l0 l1 t5.2.1 t5.2.2)) fun x1 =>
  ziter (fX6_additions_B18 l0 l1 l2 t5.2.1) zF (t5.1, x1))
def fX6_additions (a0 : Nat) (a1 : Int32) (a2 : Int32) (S : ZS) : Option (Int32 × ZS) :=
  ziter (fX6_additions_B5 a0 a1 a2) zF ((0 : Int32), (0 : Int32), S)
def fX6_numbers_J45 (l0 : Nat) (l1 : Int32) (l2 : Int32) (l3 : Int32) (l5 : Int32) (s0 : Int32) (s1 : Int32) (S : ZS) : Option ((Int32 × Int32) ⊕ Int32) :=
  some (.inl (s0 + s1, l5 + (1 : Int32)))
def fX6_numbers_B6 (l0 : Nat) (l1 : Int32) (l2 : Int32) (l3 : Int32) (S : ZS) (t6 : (Int32 × Int32)) : Option ((Int32 × Int32) ⊕ Int32) :=
  Option.bind (zgR S l0 6 7) fun v1 =>
  Option.bind (zaI S v1 0 (((3 : Int32) * l1) + l3)) fun v2 =>
  (if v2 ≤ t6.2 then
  zex (some t6.1)
  else
  Option.bind (zgR S l0 6 11) fun v3 =>
  Option.bind (fX6_from l1 l2 l3) fun x4 =>
  Option.bind (zaI S v3 0 (x4 + t6.2)) fun v5 =>
  (if v5 = 0 then
  fX6_numbers_J45 l0 l1 l2 l3 t6.2 t6.1 (0 : Int32) S
  else
  fX6_numbers_J45 l0 l1 l2 l3 t6.2 t6.1 (1 : Int32) S))
def fX6_numbers (a0 : Nat) (a1 : Int32) (a2 : Int32) (a3 : Int32) (S : ZS) : Option Int32 :=
  ziter (fX6_numbers_B6 a0 a1 a2 a3 S) zF ((0 : Int32), (0 : Int32))
def fX6_growth_J96 (l0 : Nat) (l1 : Int32) (l3 : Int32) (s0 : Int32) (S : ZS) : Option ((Int32 × Int32) ⊕ Int32) :=
  some (.inl (s0, l3 + (1 : Int32)))
def fX6_growth_J75 (l0 : Nat) (l1 : Int32) (l2 : Int32) (l3 : Int32) (l5 : Int32) (s0 : Int32) (s1 : Int32) (S : ZS) : Option ((Int32 × Int32) ⊕ ((Int32 × Int32) ⊕ Int32)) :=
  some (.inl (s0 + s1, l5 + (1 : Int32)))
def fX6_growth_B24 (l0 : Nat) (l1 : Int32) (l2 : Int32) (l3 : Int32) (S : ZS) (t24 : (Int32 × Int32)) : Option ((Int32 × Int32) ⊕ ((Int32 × Int32) ⊕ Int32)) :=
  Option.bind (zgR S l0 6 10) fun v3 =>
  Option.bind (zaI S v3 0 l1) fun v4 =>
  (if v4 ≤ t24.2 then
  zex ((if t24.1 ≤ l2 then
  fX6_growth_J96 l0 l1 l3 l2 S
  else
  fX6_growth_J96 l0 l1 l3 t24.1 S))
  else
  Option.bind (zgR S l0 6 11) fun v5 =>
  Option.bind (fX6_from l1 t24.2 (2 : Int32)) fun x6 =>
  Option.bind (zaI S v5 0 (x6 + l3)) fun v7 =>
  (if v7 = 0 then
  fX6_growth_J75 l0 l1 l2 l3 t24.2 t24.1 (0 : Int32) S
  else
  Option.bind (zcl S l0 6 (fX6_numbers l0 l1 t24.2 (0 : Int32) S)) fun x8 =>
  Option.bind (zcl S l0 6 (fX6_numbers l0 l1 t24.2 (1 : Int32) S)) fun x9 =>
  fX6_growth_J75 l0 l1 l2 l3 t24.2 t24.1 (x8 * x9) S))
def fX6_growth_B4 (l0 : Nat) (l1 : Int32) (S : ZS) (t4 : (Int32 × Int32)) : Option ((Int32 × Int32) ⊕ Int32) :=
  Option.bind (zgR S l0 6 7) fun v1 =>
  Option.bind (zaI S v1 0 (((3 : Int32) * l1) + (2 : Int32))) fun v2 =>
  (if v2 ≤ t4.2 then
  zex (some t4.1)
  else
  ziter (fX6_growth_B24 l0 l1 t4.1 t4.2 S) zF ((0 : Int32), (0 : Int32)))
def fX6_growth (a0 : Nat) (a1 : Int32) (S : ZS) : Option Int32 :=
  ziter (fX6_growth_B4 a0 a1 S) zF ((0 : Int32), (0 : Int32))
def fX6_ofWay_J91 (s0 : Int32) (S : ZS) : Option (Int32 × ZS) :=
  some (s0, S)
def fX6_ofWay_J88 (s0 : Nat) (s1 : Int32) (s2 : Int32) (S : ZS) : Option (Int32 × ZS) :=
  Option.bind (zcl S s0 6 (fX6_additions s0 s1 s2 S)) fun x7 =>
  fX6_ofWay_J91 x7.1 x7.2
def fX6_ofWay_J29 (l0 : Nat) (l1 : Int32) (l2 : Int32) (s0 : Nat) (s1 : Int32) (S : ZS) : Option (Int32 × ZS) :=
  Option.bind (zcl S s0 6 (fX6_goesWell s0 s1 S)) fun x2 =>
  (if x2.1 = 0 then
  some ((0 : Int32), x2.2)
  else
  (if l2 = 0 then
  Option.bind (zgR x2.2 l0 6 10) fun v3 =>
  Option.bind (zaI x2.2 v3 0 l1) fun v4 =>
  fX6_ofWay_J91 v4 x2.2
  else
  (if l2 = (1 : Int32) then
  Option.bind (zcl x2.2 l0 6 (fX6_wrong l0 l1 x2.2)) fun x5 =>
  fX6_ofWay_J91 x5 x2.2
  else
  (if l2 = (4 : Int32) then
  Option.bind (zcl x2.2 l0 6 (fX6_growth l0 l1 x2.2)) fun x6 =>
  fX6_ofWay_J91 x6 x2.2
  else
  (if l2 = (3 : Int32) then
  fX6_ofWay_J88 l0 l1 (1 : Int32) x2.2
  else
  fX6_ofWay_J88 l0 l1 (0 : Int32) x2.2)))))
def fX6_ofWay (a0 : Nat) (a1 : Int32) (a2 : Int32) (S : ZS) : Option (Int32 × ZS) :=
  Option.bind (zcl S a0 6 (fX6_isWay a0 a1 S)) fun x1 =>
  (if x1 = 0 then
  fX6_ofWay_J29 a0 a1 a2 a0 (1 : Int32) S
  else
  Option.bind (fX6_in a2 (0 : Int32) (4 : Int32)) fun x8 =>
  (if x8 = 0 then
  fX6_ofWay_J29 a0 a1 a2 a0 (2 : Int32) S
  else
  fX6_ofWay_J29 a0 a1 a2 a0 (0 : Int32) S))
def fX6_vector_B36 (l0 : Nat) (l1 : Int32) (l2 : Int32) (l3 : Int32) (S : ZS) (t36 : (Int32 × Int32)) : Option ((Int32 × Int32) ⊕ (Int32 × ZS)) :=
  Option.bind (zgR S l0 6 7) fun v3 =>
  Option.bind (zaI S v3 0 (((3 : Int32) * l1) + l3)) fun v4 =>
  (if v4 ≤ t36.2 then
  zex (some (t36.1, S))
  else
  Option.bind (zgI S l0 6 1) fun v5 =>
  Option.bind (zgR S l0 6 11) fun v6 =>
  Option.bind (fX6_from l1 l2 l3) fun x7 =>
  Option.bind (zaI S v6 0 (x7 + t36.2)) fun v8 =>
  some (.inl ((v5 * t36.1) + v8, t36.2 + (1 : Int32))))
def fX6_vector_J22 (l0 : Nat) (l1 : Int32) (l2 : Int32) (l3 : Int32) (s0 : Nat) (s1 : Int32) (S : ZS) : Option (Int32 × ZS) :=
  Option.bind (zcl S s0 6 (fX6_goesWell s0 s1 S)) fun x2 =>
  (if x2.1 = 0 then
  some ((0 : Int32), x2.2)
  else
  ziter (fX6_vector_B36 l0 l1 l2 l3 x2.2) zF ((0 : Int32), (0 : Int32)))
def fX6_vector_J21 (l0 : Nat) (l1 : Int32) (l2 : Int32) (l3 : Int32) (s0 : Nat) (S : ZS) : Option (Int32 × ZS) :=
  fX6_vector_J22 l0 l1 l2 l3 s0 (1 : Int32) S
def fX6_vector (a0 : Nat) (a1 : Int32) (a2 : Int32) (a3 : Int32) (S : ZS) : Option (Int32 × ZS) :=
  Option.bind (zcl S a0 6 (fX6_isProduct a0 a1 a2 S)) fun x1 =>
  (if x1 = 0 then
  fX6_vector_J21 a0 a1 a2 a3 a0 S
  else
  Option.bind (fX6_isSide a3) fun x15 =>
  (if x15 = 0 then
  fX6_vector_J21 a0 a1 a2 a3 a0 S
  else
  fX6_vector_J22 a0 a1 a2 a3 a0 (0 : Int32) S))
def fX6_digit_B17 (l0 : Nat) (l4 : Int32) (S : ZS) (t17 : (Int32 × Int32)) : Option ((Int32 × Int32) ⊕ Int32) :=
  (if t17.2 ≤ l4 then
  zex (Option.bind (zgI S l0 6 1) fun v3 =>
  Option.bind (zrem t17.1 v3) fun v4 =>
  some v4)
  else
  Option.bind (zgI S l0 6 1) fun v5 =>
  Option.bind (zdiv t17.1 v5) fun v6 =>
  some (.inl (v6, t17.2 + (-1 : Int32))))
def fX6_digit (a0 : Nat) (a1 : Int32) (a2 : Int32) (a3 : Int32) (a4 : Int32) (S : ZS) : Option Int32 :=
  Option.bind (zgR S a0 6 7) fun v1 =>
  Option.bind (zaI S v1 0 (((3 : Int32) * a1) + a2)) fun v2 =>
  ziter (fX6_digit_B17 a0 a4 S) zF (a3, v2 - (1 : Int32))
def fX6_times_B6 (l0 : Nat) (l1 : Int32) (l2 : Int32) (l3 : Int32) (l4 : Int32) (S : ZS) (t6 : (Int32 × Int32)) : Option ((Int32 × Int32) ⊕ Int32) :=
  Option.bind (zgR S l0 6 7) fun v1 =>
  Option.bind (zaI S v1 0 (((3 : Int32) * l1) + l3)) fun v2 =>
  (if v2 ≤ t6.2 then
  zex (Option.bind (zgI S l0 6 1) fun v3 =>
  Option.bind (zrem t6.1 v3) fun v4 =>
  some v4)
  else
  Option.bind (zgR S l0 6 11) fun v5 =>
  Option.bind (fX6_from l1 l2 l3) fun x6 =>
  Option.bind (zaI S v5 0 (x6 + t6.2)) fun v7 =>
  Option.bind (zcl S l0 6 (fX6_digit l0 l1 l3 l4 t6.2 S)) fun x8 =>
  some (.inl (t6.1 + (v7 * x8), t6.2 + (1 : Int32))))
def fX6_times (a0 : Nat) (a1 : Int32) (a2 : Int32) (a3 : Int32) (a4 : Int32) (S : ZS) : Option Int32 :=
  ziter (fX6_times_B6 a0 a1 a2 a3 a4 S) zF ((0 : Int32), (0 : Int32))
def fX6_canAsk_J71 (s0 : Nat) (s1 : Int32) (S : ZS) : Option (Int32 × ZS) :=
  Option.bind (zcl S s0 6 (fX6_goesWell s0 s1 S)) fun x2 =>
  Option.bind (zbl x2.1) fun w => some (w, x2.2)
def fX6_canAsk_J70 (s0 : Nat) (S : ZS) : Option (Int32 × ZS) :=
  fX6_canAsk_J71 s0 (2 : Int32) S
def fX6_canAsk_J34 (l0 : Nat) (l1 : Int32) (l2 : Int32) (l3 : Int32) (s0 : Int32) (S : ZS) : Option (Int32 × ZS) :=
  (if s0 = 0 then
  fX6_canAsk_J71 l0 (1 : Int32) S
  else
  Option.bind (zcl S l0 6 (fX6_isCode l0 l1 (0 : Int32) l2 S)) fun x3 =>
  (if x3 = 0 then
  fX6_canAsk_J70 l0 S
  else
  Option.bind (zcl S l0 6 (fX6_isCode l0 l1 (1 : Int32) l3 S)) fun x4 =>
  (if x4 = 0 then
  fX6_canAsk_J70 l0 S
  else
  fX6_canAsk_J71 l0 (0 : Int32) S)))
def fX6_canAsk_J33 (l0 : Nat) (l1 : Int32) (l2 : Int32) (l3 : Int32) (S : ZS) : Option (Int32 × ZS) :=
  fX6_canAsk_J34 l0 l1 l2 l3 (0 : Int32) S
def fX6_canAsk (a0 : Nat) (a1 : Int32) (a2 : Int32) (a3 : Int32) (a4 : Int32) (S : ZS) : Option (Int32 × ZS) :=
  Option.bind (zcl S a0 6 (fX6_isWay a0 a1 S)) fun x1 =>
  (if x1 = 0 then
  fX6_canAsk_J33 a0 a1 a2 a3 S
  else
  Option.bind (zgR S a0 6 7) fun v5 =>
  Option.bind (zaI S v5 0 (((3 : Int32) * a1) + (2 : Int32))) fun v6 =>
  Option.bind (fX6_in a4 (0 : Int32) (v6 - (1 : Int32))) fun x7 =>
  (if x7 = 0 then
  fX6_canAsk_J33 a0 a1 a2 a3 S
  else
  fX6_canAsk_J34 a0 a1 a2 a3 (1 : Int32) S))
def fX6_result_B20 (l0 : Nat) (l1 : Int32) (l2 : Int32) (l3 : Int32) (l4 : Int32) (S : ZS) (t20 : (Int32 × Int32)) : Option ((Int32 × Int32) ⊕ (Int32 × ZS)) :=
  Option.bind (zgR S l0 6 10) fun v2 =>
  Option.bind (zaI S v2 0 l1) fun v3 =>
  (if v3 ≤ t20.2 then
  zex (Option.bind (zgI S l0 6 1) fun v4 =>
  Option.bind (zrem t20.1 v4) fun v5 =>
  some (v5, S))
  else
  Option.bind (zgR S l0 6 11) fun v6 =>
  Option.bind (fX6_from l1 t20.2 (2 : Int32)) fun x7 =>
  Option.bind (zaI S v6 0 (x7 + l4)) fun v8 =>
  Option.bind (zcl S l0 6 (fX6_times l0 l1 t20.2 (0 : Int32) l2 S)) fun x9 =>
  Option.bind (zcl S l0 6 (fX6_times l0 l1 t20.2 (1 : Int32) l3 S)) fun x10 =>
  some (.inl (t20.1 + ((v8 * x9) * x10), t20.2 + (1 : Int32))))
def fX6_result (a0 : Nat) (a1 : Int32) (a2 : Int32) (a3 : Int32) (a4 : Int32) (S : ZS) : Option (Int32 × ZS) :=
  Option.bind (zcl S a0 6 (fX6_canAsk a0 a1 a2 a3 a4 S)) fun x1 =>
  (if x1.1 = 0 then
  some ((0 : Int32), x1.2)
  else
  ziter (fX6_result_B20 a0 a1 a2 a3 a4 x1.2) zF ((0 : Int32), (0 : Int32)))
def fX6_resultByCube_B36 (l0 : Nat) (l1 : Int32) (l2 : Int32) (l3 : Int32) (l4 : Int32) (l6 : Int32) (S : ZS) (t36 : (Int32 × Int32)) : Option ((Int32 × Int32) ⊕ ((Int32 × Int32) ⊕ (Int32 × ZS))) :=
  Option.bind (zgR S l0 6 7) fun v6 =>
  Option.bind (zaI S v6 0 (((3 : Int32) * l1) + (1 : Int32))) fun v7 =>
  (if v7 ≤ t36.2 then
  zex (some (.inl (t36.1, l6 + (1 : Int32))))
  else
  Option.bind (zgR S l0 6 8) fun v8 =>
  Option.bind (fX6_place l6 t36.2 l4) fun x9 =>
  Option.bind (zaI S v8 0 (((64 : Int32) * l1) + x9)) fun v10 =>
  Option.bind (zcl S l0 6 (fX6_digit l0 l1 (0 : Int32) l2 l6 S)) fun x11 =>
  Option.bind (zcl S l0 6 (fX6_digit l0 l1 (1 : Int32) l3 t36.2 S)) fun x12 =>
  some (.inl (t36.1 + ((v10 * x11) * x12), t36.2 + (1 : Int32))))
def fX6_resultByCube_B20 (l0 : Nat) (l1 : Int32) (l2 : Int32) (l3 : Int32) (l4 : Int32) (S : ZS) (t20 : (Int32 × Int32)) : Option ((Int32 × Int32) ⊕ (Int32 × ZS)) :=
  Option.bind (zgR S l0 6 7) fun v2 =>
  Option.bind (zaI S v2 0 ((3 : Int32) * l1)) fun v3 =>
  (if v3 ≤ t20.2 then
  zex (Option.bind (zgI S l0 6 1) fun v4 =>
  Option.bind (zrem t20.1 v4) fun v5 =>
  some (v5, S))
  else
  ziter (fX6_resultByCube_B36 l0 l1 l2 l3 l4 t20.2 S) zF (t20.1, (0 : Int32)))
def fX6_resultByCube (a0 : Nat) (a1 : Int32) (a2 : Int32) (a3 : Int32) (a4 : Int32) (S : ZS) : Option (Int32 × ZS) :=
  Option.bind (zcl S a0 6 (fX6_canAsk a0 a1 a2 a3 a4 S)) fun x1 =>
  (if x1.1 = 0 then
  some ((0 : Int32), x1.2)
  else
  ziter (fX6_resultByCube_B20 a0 a1 a2 a3 a4 x1.2) zF ((0 : Int32), (0 : Int32)))
def fX6_levels_J147 (s0 : Int64) (S : ZS) : Option (Int64 × ZS) :=
  some (s0, S)
def fX6_levels_B74 (l0 : Nat) (l1 : Int32) (l2 : Int32) (l3 : Int32) (l11 : Int64) (S : ZS) (t74 : (Int64 × Int64 × Int64 × Int32)) : Option ((Int64 × Int64 × Int64 × Int32) ⊕ (Int64 × ZS)) :=
  (if l2 ≤ t74.2.2.2 then
  zex ((if l3 = 0 then
  fX6_levels_J147 t74.1 S
  else
  fX6_levels_J147 t74.2.1 S))
  else
  Option.bind (zgR S l0 6 10) fun v4 =>
  Option.bind (zaI S v4 0 l1) fun v5 =>
  Option.bind (zgR S l0 6 10) fun v6 =>
  Option.bind (zaI S v6 0 l1) fun v7 =>
  Option.bind (zgR S l0 6 9) fun v8 =>
  Option.bind (zaI S v8 0 l1) fun v9 =>
  Option.bind (zgR S l0 6 9) fun v10 =>
  Option.bind (zaI S v10 0 l1) fun v11 =>
  some (.inl (t74.1 * (Int32.toInt64 v5), (t74.2.1 * (Int32.toInt64 v7)) + (l11 * t74.2.2.1), t74.2.2.1 * ((Int32.toInt64 v9) * (Int32.toInt64 v11)), t74.2.2.2 + (1 : Int32))))
def fX6_levels_J45 (l0 : Nat) (l1 : Int32) (l2 : Int32) (l3 : Int32) (s0 : Nat) (s1 : Int32) (S : ZS) : Option (Int64 × ZS) :=
  Option.bind (zcl S s0 6 (fX6_goesWell s0 s1 S)) fun x2 =>
  (if x2.1 = 0 then
  some ((0 : Int64), x2.2)
  else
  Option.bind (zcl x2.2 l0 6 (fX6_additions l0 l1 (0 : Int32) x2.2)) fun x3 =>
  ziter (fX6_levels_B74 l0 l1 l2 l3 (Int32.toInt64 x3.1) x3.2) zF ((1 : Int64), (0 : Int64), (1 : Int64), (0 : Int32)))
def fX6_levels (a0 : Nat) (a1 : Int32) (a2 : Int32) (a3 : Int32) (S : ZS) : Option (Int64 × ZS) :=
  Option.bind (zcl S a0 6 (fX6_isWay a0 a1 S)) fun x1 =>
  (if x1 = 0 then
  fX6_levels_J45 a0 a1 a2 a3 a0 (1 : Int32) S
  else
  Option.bind (fX6_in a2 (0 : Int32) (6 : Int32)) fun x20 =>
  (if x20 = 0 then
  fX6_levels_J45 a0 a1 a2 a3 a0 (2 : Int32) S
  else
  Option.bind (zgR S a0 6 9) fun v21 =>
  Option.bind (zaI S v21 0 a1) fun v22 =>
  (if v22 = 0 then
  fX6_levels_J45 a0 a1 a2 a3 a0 (3 : Int32) S
  else
  fX6_levels_J45 a0 a1 a2 a3 a0 (0 : Int32) S)))
end
section
theorem dX1_init_0 : decode cX1_init 0 = .ok (.aload_n 0, 1) := by decide +kernel
theorem dX1_init_1 : decode cX1_init 1 = .ok (.invokespecial 3, 3) := by decide +kernel
theorem dX1_init_4 : decode cX1_init 4 = .ok (.aload_n 0, 1) := by decide +kernel
theorem dX1_init_5 : decode cX1_init 5 = .ok (.bipush 64, 2) := by decide +kernel
theorem dX1_init_7 : decode cX1_init 7 = .ok (.newarray .int, 2) := by decide +kernel
theorem dX1_init_9 : decode cX1_init 9 = .ok (.putfield 9, 3) := by decide +kernel
theorem dX1_init_12 : decode cX1_init 12 = .ok (.return_, 1) := by decide +kernel
abbrev rmX1_init : Room := { frames := 1, cells := 1, slots := 64, locals := 20 }
theorem zyX1_init : zyOK yX1_init 0 := ⟨by decide +kernel, by decide +kernel, by decide +kernel⟩
set_option maxHeartbeats 4000000 in
set_option maxRecDepth 100000 in
theorem wX1_init {G : ZG} (a0 : Nat) (S : ZS) (h0 : zFix G cX1_init RX1 1 none rmX1_init) (hini : zIni G) (C : Option ZS → Prop) (hC : ¬ C none) (hE : ∀ S1 : ZS, C (some S1) → zEnd G none S1 rmX1_init) : zV G 1 S 0 0 0 [(0, .ref a0)] [] (C (fX1_init a0 S)) := by
  unfold fX1_init
  refine zr_aload_n h0 dX1_init_0 rfl (n := 1) rfl ?_
  refine zr_objInit h0 zw_33 zw_22 zw_23 (by decide) (Nat.le_of_ble_eq_true rfl) dX1_init_1 (n := 4) rfl ?_
  refine zr_aload_n h0 dX1_init_4 rfl (n := 5) rfl ?_
  refine zr_bipush (64 : Int32) h0 (by decide) dX1_init_5 (n := 7) rfl ?_
  refine zr_newarray (t := 0) (N := 64) (ce' := 1) (sl' := 64) h0 rfl rfl (fun _ => rfl) rfl (fun _ h => nomatch h) zw_44 (by decide) rfl (by decide) rfl rfl (by decide) (by decide) dX1_init_7 (n := 9) rfl ?_
  refine zr_putK C hC h0 zcX1 (k := 0) (by decide) zw_34 rfl hini rfl rfl rfl dX1_init_9 (n := 12) rfl (fun S1 => ?_)
  exact zr_vret h0 rfl dX1_init_12 (fun h => hE _ h) (by decide) (by decide)
theorem kX1_init (l : Launch) (D : ZD) (z0 : Nat) (a0 : Nat) (S : ZS) (x : ZS) (hf : fX1_init a0 S = some x) : zMet l D z0 yX1_init cX1_init 1 none rmX1_init [.ref a0] S none x :=
  zMet_of (by decide) (Nat.le_of_ble_eq_true rfl) (fun G h0 hini hE => wX1_init a0 S h0 (hini rfl) (fun o => o = some x) (fun h => nomatch h) (fun S1 h => by cases h; exact hE)) hf
theorem dX2_init_0 : decode cX2_init 0 = .ok (.aload_n 0, 1) := by decide +kernel
theorem dX2_init_1 : decode cX2_init 1 = .ok (.invokespecial 5, 3) := by decide +kernel
theorem dX2_init_4 : decode cX2_init 4 = .ok (.aload_n 0, 1) := by decide +kernel
theorem dX2_init_5 : decode cX2_init 5 = .ok (.bipush 105, 2) := by decide +kernel
theorem dX2_init_7 : decode cX2_init 7 = .ok (.newarray .int, 2) := by decide +kernel
theorem dX2_init_9 : decode cX2_init 9 = .ok (.putfield 11, 3) := by decide +kernel
theorem dX2_init_12 : decode cX2_init 12 = .ok (.aload_n 0, 1) := by decide +kernel
theorem dX2_init_13 : decode cX2_init 13 = .ok (.bipush 64, 2) := by decide +kernel
theorem dX2_init_15 : decode cX2_init 15 = .ok (.newarray .long, 2) := by decide +kernel
theorem dX2_init_17 : decode cX2_init 17 = .ok (.putfield 15, 3) := by decide +kernel
theorem dX2_init_20 : decode cX2_init 20 = .ok (.return_, 1) := by decide +kernel
abbrev rmX2_init : Room := { frames := 1, cells := 2, slots := 169, locals := 20 }
theorem zyX2_init : zyOK yX2_init 0 := ⟨by decide +kernel, by decide +kernel, by decide +kernel⟩
set_option maxHeartbeats 4000000 in
set_option maxRecDepth 100000 in
theorem wX2_init {G : ZG} (a0 : Nat) (S : ZS) (h0 : zFix G cX2_init RX2 1 none rmX2_init) (hini : zIni G) (C : Option ZS → Prop) (hC : ¬ C none) (hE : ∀ S1 : ZS, C (some S1) → zEnd G none S1 rmX2_init) : zV G 1 S 0 0 0 [(0, .ref a0)] [] (C (fX2_init a0 S)) := by
  unfold fX2_init
  refine zr_aload_n h0 dX2_init_0 rfl (n := 1) rfl ?_
  refine zr_objInit h0 zw_50 zw_22 zw_23 (by decide) (Nat.le_of_ble_eq_true rfl) dX2_init_1 (n := 4) rfl ?_
  refine zr_aload_n h0 dX2_init_4 rfl (n := 5) rfl ?_
  refine zr_bipush (105 : Int32) h0 (by decide) dX2_init_5 (n := 7) rfl ?_
  refine zr_newarray (t := 0) (N := 105) (ce' := 1) (sl' := 105) h0 rfl rfl (fun _ => rfl) rfl (fun _ h => nomatch h) zw_44 (by decide) rfl (by decide) rfl rfl (by decide) (by decide) dX2_init_7 (n := 9) rfl ?_
  refine zr_putK C hC h0 zcX2 (k := 0) (by decide) zw_51 rfl hini rfl rfl rfl dX2_init_9 (n := 12) rfl (fun S1 => ?_)
  refine zr_aload_n h0 dX2_init_12 rfl (n := 13) rfl ?_
  refine zr_bipush (64 : Int32) h0 (by decide) dX2_init_13 (n := 15) rfl ?_
  refine zr_newarray (t := 1) (N := 64) (ce' := 2) (sl' := 169) h0 rfl rfl (fun _ => rfl) rfl (fun _ h => nomatch h) zw_61 (by decide) rfl (by decide) rfl rfl (by decide) (by decide) dX2_init_15 (n := 17) rfl ?_
  refine zr_putK C hC h0 zcX2 (k := 1) (by decide) zw_52 rfl hini rfl rfl rfl dX2_init_17 (n := 20) rfl (fun S2 => ?_)
  exact zr_vret h0 rfl dX2_init_20 (fun h => hE _ h) (by decide) (by decide)
theorem kX2_init (l : Launch) (D : ZD) (z0 : Nat) (a0 : Nat) (S : ZS) (x : ZS) (hf : fX2_init a0 S = some x) : zMet l D z0 yX2_init cX2_init 1 none rmX2_init [.ref a0] S none x :=
  zMet_of (by decide) (Nat.le_of_ble_eq_true rfl) (fun G h0 hini hE => wX2_init a0 S h0 (hini rfl) (fun o => o = some x) (fun h => nomatch h) (fun S1 h => by cases h; exact hE)) hf
theorem dX3_init_0 : decode cX3_init 0 = .ok (.aload_n 0, 1) := by decide +kernel
theorem dX3_init_1 : decode cX3_init 1 = .ok (.invokespecial 3, 3) := by decide +kernel
theorem dX3_init_4 : decode cX3_init 4 = .ok (.aload_n 0, 1) := by decide +kernel
theorem dX3_init_5 : decode cX3_init 5 = .ok (.bipush 120, 2) := by decide +kernel
theorem dX3_init_7 : decode cX3_init 7 = .ok (.newarray .long, 2) := by decide +kernel
theorem dX3_init_9 : decode cX3_init 9 = .ok (.putfield 11, 3) := by decide +kernel
theorem dX3_init_12 : decode cX3_init 12 = .ok (.return_, 1) := by decide +kernel
abbrev rmX3_init : Room := { frames := 1, cells := 1, slots := 120, locals := 20 }
theorem zyX3_init : zyOK yX3_init 0 := ⟨by decide +kernel, by decide +kernel, by decide +kernel⟩
set_option maxHeartbeats 4000000 in
set_option maxRecDepth 100000 in
theorem wX3_init {G : ZG} (a0 : Nat) (S : ZS) (h0 : zFix G cX3_init RX3 1 none rmX3_init) (hini : zIni G) (C : Option ZS → Prop) (hC : ¬ C none) (hE : ∀ S1 : ZS, C (some S1) → zEnd G none S1 rmX3_init) : zV G 1 S 0 0 0 [(0, .ref a0)] [] (C (fX3_init a0 S)) := by
  unfold fX3_init
  refine zr_aload_n h0 dX3_init_0 rfl (n := 1) rfl ?_
  refine zr_objInit h0 zw_67 zw_22 zw_23 (by decide) (Nat.le_of_ble_eq_true rfl) dX3_init_1 (n := 4) rfl ?_
  refine zr_aload_n h0 dX3_init_4 rfl (n := 5) rfl ?_
  refine zr_bipush (120 : Int32) h0 (by decide) dX3_init_5 (n := 7) rfl ?_
  refine zr_newarray (t := 1) (N := 120) (ce' := 1) (sl' := 120) h0 rfl rfl (fun _ => rfl) rfl (fun _ h => nomatch h) zw_61 (by decide) rfl (by decide) rfl rfl (by decide) (by decide) dX3_init_7 (n := 9) rfl ?_
  refine zr_putK C hC h0 zcX3 (k := 0) (by decide) zw_68 rfl hini rfl rfl rfl dX3_init_9 (n := 12) rfl (fun S1 => ?_)
  exact zr_vret h0 rfl dX3_init_12 (fun h => hE _ h) (by decide) (by decide)
theorem kX3_init (l : Launch) (D : ZD) (z0 : Nat) (a0 : Nat) (S : ZS) (x : ZS) (hf : fX3_init a0 S = some x) : zMet l D z0 yX3_init cX3_init 1 none rmX3_init [.ref a0] S none x :=
  zMet_of (by decide) (Nat.le_of_ble_eq_true rfl) (fun G h0 hini hE => wX3_init a0 S h0 (hini rfl) (fun o => o = some x) (fun h => nomatch h) (fun S1 h => by cases h; exact hE)) hf
theorem dX5_init_0 : decode cX5_init 0 = .ok (.aload_n 0, 1) := by decide +kernel
theorem dX5_init_1 : decode cX5_init 1 = .ok (.invokespecial 3, 3) := by decide +kernel
theorem dX5_init_4 : decode cX5_init 4 = .ok (.aload_n 0, 1) := by decide +kernel
theorem dX5_init_5 : decode cX5_init 5 = .ok (.bipush 16, 2) := by decide +kernel
theorem dX5_init_7 : decode cX5_init 7 = .ok (.anewarray 9, 3) := by decide +kernel
theorem dX5_init_10 : decode cX5_init 10 = .ok (.putfield 11, 3) := by decide +kernel
theorem dX5_init_13 : decode cX5_init 13 = .ok (.aload_n 0, 1) := by decide +kernel
theorem dX5_init_14 : decode cX5_init 14 = .ok (.bipush 16, 2) := by decide +kernel
theorem dX5_init_16 : decode cX5_init 16 = .ok (.anewarray 15, 3) := by decide +kernel
theorem dX5_init_19 : decode cX5_init 19 = .ok (.putfield 17, 3) := by decide +kernel
theorem dX5_init_22 : decode cX5_init 22 = .ok (.aload_n 0, 1) := by decide +kernel
theorem dX5_init_23 : decode cX5_init 23 = .ok (.new 21, 3) := by decide +kernel
theorem dX5_init_26 : decode cX5_init 26 = .ok (.dup, 1) := by decide +kernel
theorem dX5_init_27 : decode cX5_init 27 = .ok (.invokespecial 23, 3) := by decide +kernel
theorem dX5_init_30 : decode cX5_init 30 = .ok (.putfield 24, 3) := by decide +kernel
theorem dX5_init_33 : decode cX5_init 33 = .ok (.aload_n 0, 1) := by decide +kernel
theorem dX5_init_34 : decode cX5_init 34 = .ok (.new 28, 3) := by decide +kernel
theorem dX5_init_37 : decode cX5_init 37 = .ok (.dup, 1) := by decide +kernel
theorem dX5_init_38 : decode cX5_init 38 = .ok (.invokespecial 30, 3) := by decide +kernel
theorem dX5_init_41 : decode cX5_init 41 = .ok (.putfield 31, 3) := by decide +kernel
theorem dX5_init_44 : decode cX5_init 44 = .ok (.aload_n 0, 1) := by decide +kernel
theorem dX5_init_45 : decode cX5_init 45 = .ok (.new 35, 3) := by decide +kernel
theorem dX5_init_48 : decode cX5_init 48 = .ok (.dup, 1) := by decide +kernel
theorem dX5_init_49 : decode cX5_init 49 = .ok (.invokespecial 37, 3) := by decide +kernel
theorem dX5_init_52 : decode cX5_init 52 = .ok (.putfield 38, 3) := by decide +kernel
theorem dX5_init_55 : decode cX5_init 55 = .ok (.aload_n 0, 1) := by decide +kernel
theorem dX5_init_56 : decode cX5_init 56 = .ok (.bipush 64, 2) := by decide +kernel
theorem dX5_init_58 : decode cX5_init 58 = .ok (.newarray .int, 2) := by decide +kernel
theorem dX5_init_60 : decode cX5_init 60 = .ok (.putfield 42, 3) := by decide +kernel
theorem dX5_init_63 : decode cX5_init 63 = .ok (.aload_n 0, 1) := by decide +kernel
theorem dX5_init_64 : decode cX5_init 64 = .ok (.iconst 2, 1) := by decide +kernel
theorem dX5_init_65 : decode cX5_init 65 = .ok (.putfield 46, 3) := by decide +kernel
theorem dX5_init_68 : decode cX5_init 68 = .ok (.aload_n 0, 1) := by decide +kernel
theorem dX5_init_69 : decode cX5_init 69 = .ok (.iconst 0, 1) := by decide +kernel
theorem dX5_init_70 : decode cX5_init 70 = .ok (.putfield 50, 3) := by decide +kernel
theorem dX5_init_73 : decode cX5_init 73 = .ok (.aload_n 0, 1) := by decide +kernel
theorem dX5_init_74 : decode cX5_init 74 = .ok (.iconst 0, 1) := by decide +kernel
theorem dX5_init_75 : decode cX5_init 75 = .ok (.putfield 53, 3) := by decide +kernel
theorem dX5_init_78 : decode cX5_init 78 = .ok (.return_, 1) := by decide +kernel
abbrev rmX5_init : Room := { frames := 2, cells := 10, slots := 457, locals := 40 }
theorem zyX5_init : zyOK yX5_init 0 := ⟨by decide +kernel, by decide +kernel, by decide +kernel⟩
set_option maxHeartbeats 4000000 in
set_option maxRecDepth 100000 in
theorem wX5_init {G : ZG} (a0 : Nat) (S : ZS) (h0 : zFix G cX5_init RX5 1 none rmX5_init) (hini : zIni G) (C : Option ZS → Prop) (hC : ¬ C none) (hE : ∀ S1 : ZS, C (some S1) → zEnd G none S1 rmX5_init) : zV G 1 S 0 0 0 [(0, .ref a0)] [] (C (fX5_init a0 S)) := by
  unfold fX5_init
  refine zr_aload_n h0 dX5_init_0 rfl (n := 1) rfl ?_
  refine zr_objInit h0 zw_21 zw_22 zw_23 (by decide) (Nat.le_of_ble_eq_true rfl) dX5_init_1 (n := 4) rfl ?_
  refine zr_aload_n h0 dX5_init_4 rfl (n := 5) rfl ?_
  refine zr_bipush (16 : Int32) h0 (by decide) dX5_init_5 (n := 7) rfl ?_
  refine zr_anewarray (t := 3) (N := 16) (ce' := 1) (sl' := 16) h0 rfl zAO3 (by decide) zw_24 (by decide) rfl (by decide) rfl rfl (by decide) (by decide) dX5_init_7 (n := 10) rfl ?_
  refine zr_putK C hC h0 zcX5 (k := 0) (by decide) zw_75 rfl hini rfl rfl rfl dX5_init_10 (n := 13) rfl (fun S1 => ?_)
  refine zr_aload_n h0 dX5_init_13 rfl (n := 14) rfl ?_
  refine zr_bipush (16 : Int32) h0 (by decide) dX5_init_14 (n := 16) rfl ?_
  refine zr_anewarray (t := 4) (N := 16) (ce' := 2) (sl' := 32) h0 rfl zAO4 (by decide) zw_26 (by decide) rfl (by decide) rfl rfl (by decide) (by decide) dX5_init_16 (n := 19) rfl ?_
  refine zr_putK C hC h0 zcX5 (k := 1) (by decide) zw_76 rfl hini rfl rfl rfl dX5_init_19 (n := 22) rfl (fun S2 => ?_)
  refine zr_aload_n h0 dX5_init_22 rfl (n := 23) rfl ?_
  refine zr_new (fs := [.null, .int 0, .int 0]) (ce' := 3) (sl' := 35) h0 zcX1 znwX1 zw_28 zw_29 zw_2 rfl rfl (by decide) (by decide) dX5_init_23 (n := 26) rfl ?_
  refine zr_dup h0 rfl dX5_init_26 (n := 27) rfl ?_
  refine zr_cMV C hC 4 99 (fun x hx => zk_IN (host := "Bilinearium") h0 (fun l D z0 => kX1_init l D z0 S2.2 (zno S2 1 [.null, .int 0, .int 0]) x hx) (by decide +kernel) zw_31 zw_2 zw_32 rfl zyX1_init (As := []) (st := [.ref S2.2, .ref a0]) rfl (by decide) rfl (Nat.le_of_ble_eq_true rfl) (by decide) dX5_init_27) rfl rfl (n := 30) rfl (fun x3 => ?_)
  refine zr_putK C hC h0 zcX5 (k := 2) (by decide) zw_77 rfl hini rfl rfl rfl dX5_init_30 (n := 33) rfl (fun S4 => ?_)
  refine zr_aload_n h0 dX5_init_33 rfl (n := 34) rfl ?_
  refine zr_new (fs := [.null, .null, .int 0]) (ce' := 5) (sl' := 102) h0 zcX2 znwX2 zw_45 zw_46 zw_3 rfl rfl (by decide) (by decide) dX5_init_34 (n := 37) rfl ?_
  refine zr_dup h0 rfl dX5_init_37 (n := 38) rfl ?_
  refine zr_cMV C hC 7 271 (fun x hx => zk_IN (host := "Bilinearium") h0 (fun l D z0 => kX2_init l D z0 S4.2 (zno S4 2 [.null, .null, .int 0]) x hx) (by decide +kernel) zw_48 zw_3 zw_49 rfl zyX2_init (As := []) (st := [.ref S4.2, .ref a0]) rfl (by decide) rfl (Nat.le_of_ble_eq_true rfl) (by decide) dX5_init_38) rfl rfl (n := 41) rfl (fun x5 => ?_)
  refine zr_putK C hC h0 zcX5 (k := 3) (by decide) zw_78 rfl hini rfl rfl rfl dX5_init_41 (n := 44) rfl (fun S6 => ?_)
  refine zr_aload_n h0 dX5_init_44 rfl (n := 45) rfl ?_
  refine zr_new (fs := [.null, .int 0]) (ce' := 8) (sl' := 273) h0 zcX3 znwX3 zw_62 zw_63 zw_4 rfl rfl (by decide) (by decide) dX5_init_45 (n := 48) rfl ?_
  refine zr_dup h0 rfl dX5_init_48 (n := 49) rfl ?_
  refine zr_cMV C hC 9 393 (fun x hx => zk_IN (host := "Bilinearium") h0 (fun l D z0 => kX3_init l D z0 S6.2 (zno S6 3 [.null, .int 0]) x hx) (by decide +kernel) zw_65 zw_4 zw_66 rfl zyX3_init (As := []) (st := [.ref S6.2, .ref a0]) rfl (by decide) rfl (Nat.le_of_ble_eq_true rfl) (by decide) dX5_init_49) rfl rfl (n := 52) rfl (fun x7 => ?_)
  refine zr_putK C hC h0 zcX5 (k := 4) (by decide) zw_79 rfl hini rfl rfl rfl dX5_init_52 (n := 55) rfl (fun S8 => ?_)
  refine zr_aload_n h0 dX5_init_55 rfl (n := 56) rfl ?_
  refine zr_bipush (64 : Int32) h0 (by decide) dX5_init_56 (n := 58) rfl ?_
  refine zr_newarray (t := 0) (N := 64) (ce' := 10) (sl' := 457) h0 rfl rfl (fun _ => rfl) rfl (fun _ h => nomatch h) zw_44 (by decide) rfl (by decide) rfl rfl (by decide) (by decide) dX5_init_58 (n := 60) rfl ?_
  refine zr_putK C hC h0 zcX5 (k := 5) (by decide) zw_80 rfl hini rfl rfl rfl dX5_init_60 (n := 63) rfl (fun S9 => ?_)
  refine zr_aload_n h0 dX5_init_63 rfl (n := 64) rfl ?_
  refine zr_iconst (2 : Int32) h0 (by decide) dX5_init_64 (n := 65) rfl ?_
  refine zr_putF C hC h0 zcX5 (k := 6) (by decide) zw_81 rfl rfl rfl dX5_init_65 (n := 68) rfl (fun S10 => ?_)
  refine zr_aload_n h0 dX5_init_68 rfl (n := 69) rfl ?_
  refine zr_iconst (0 : Int32) h0 (by decide) dX5_init_69 (n := 70) rfl ?_
  refine zr_putF C hC h0 zcX5 (k := 7) (by decide) zw_82 rfl rfl rfl dX5_init_70 (n := 73) rfl (fun S11 => ?_)
  refine zr_aload_n h0 dX5_init_73 rfl (n := 74) rfl ?_
  refine zr_iconst (0 : Int32) h0 (by decide) dX5_init_74 (n := 75) rfl ?_
  refine zr_putF C hC h0 zcX5 (k := 8) (by decide) zw_83 rfl rfl rfl dX5_init_75 (n := 78) rfl (fun S12 => ?_)
  exact zr_vret h0 rfl dX5_init_78 (fun h => hE _ h) (by decide) (by decide)
theorem kX5_init (l : Launch) (D : ZD) (z0 : Nat) (a0 : Nat) (S : ZS) (x : ZS) (hf : fX5_init a0 S = some x) : zMet l D z0 yX5_init cX5_init 1 none rmX5_init [.ref a0] S none x :=
  zMet_of (by decide) (Nat.le_of_ble_eq_true rfl) (fun G h0 hini hE => wX5_init a0 S h0 (hini rfl) (fun o => o = some x) (fun h => nomatch h) (fun S1 h => by cases h; exact hE)) hf
theorem dX5_prime_0 : decode cX5_prime 0 = .ok (.iload_n 1, 1) := by decide +kernel
theorem dX5_prime_1 : decode cX5_prime 1 = .ok (.iconst 2, 1) := by decide +kernel
theorem dX5_prime_2 : decode cX5_prime 2 = .ok (.if_icmp .eq 23, 3) := by decide +kernel
theorem dX5_prime_5 : decode cX5_prime 5 = .ok (.iload_n 1, 1) := by decide +kernel
theorem dX5_prime_6 : decode cX5_prime 6 = .ok (.iconst 3, 1) := by decide +kernel
theorem dX5_prime_7 : decode cX5_prime 7 = .ok (.if_icmp .eq 18, 3) := by decide +kernel
theorem dX5_prime_10 : decode cX5_prime 10 = .ok (.iload_n 1, 1) := by decide +kernel
theorem dX5_prime_11 : decode cX5_prime 11 = .ok (.iconst 5, 1) := by decide +kernel
theorem dX5_prime_12 : decode cX5_prime 12 = .ok (.if_icmp .eq 13, 3) := by decide +kernel
theorem dX5_prime_15 : decode cX5_prime 15 = .ok (.new 56, 3) := by decide +kernel
theorem dX5_prime_18 : decode cX5_prime 18 = .ok (.dup, 1) := by decide +kernel
theorem dX5_prime_19 : decode cX5_prime 19 = .ok (.ldc 58, 2) := by decide +kernel
theorem dX5_prime_21 : decode cX5_prime 21 = .ok (.invokespecial 60, 3) := by decide +kernel
theorem dX5_prime_24 : decode cX5_prime 24 = .ok (.athrow, 1) := by decide +kernel
theorem dX5_prime_25 : decode cX5_prime 25 = .ok (.aload_n 0, 1) := by decide +kernel
theorem dX5_prime_26 : decode cX5_prime 26 = .ok (.getfield 50, 3) := by decide +kernel
theorem dX5_prime_29 : decode cX5_prime 29 = .ok (.ifCond .le 13, 3) := by decide +kernel
theorem dX5_prime_32 : decode cX5_prime 32 = .ok (.new 63, 3) := by decide +kernel
theorem dX5_prime_35 : decode cX5_prime 35 = .ok (.dup, 1) := by decide +kernel
theorem dX5_prime_36 : decode cX5_prime 36 = .ok (.ldc 65, 2) := by decide +kernel
theorem dX5_prime_38 : decode cX5_prime 38 = .ok (.invokespecial 67, 3) := by decide +kernel
theorem dX5_prime_41 : decode cX5_prime 41 = .ok (.athrow, 1) := by decide +kernel
theorem dX5_prime_42 : decode cX5_prime 42 = .ok (.aload_n 0, 1) := by decide +kernel
theorem dX5_prime_43 : decode cX5_prime 43 = .ok (.getfield 46, 3) := by decide +kernel
theorem dX5_prime_46 : decode cX5_prime 46 = .ok (.istore_n 2, 1) := by decide +kernel
theorem dX5_prime_47 : decode cX5_prime 47 = .ok (.aload_n 0, 1) := by decide +kernel
theorem dX5_prime_48 : decode cX5_prime 48 = .ok (.iload_n 1, 1) := by decide +kernel
theorem dX5_prime_49 : decode cX5_prime 49 = .ok (.putfield 46, 3) := by decide +kernel
theorem dX5_prime_52 : decode cX5_prime 52 = .ok (.iload_n 2, 1) := by decide +kernel
theorem dX5_prime_53 : decode cX5_prime 53 = .ok (.ireturn, 1) := by decide +kernel
abbrev rmX5_prime : Room := { frames := 6, cells := 1, slots := 6, locals := 90 }
theorem zyX5_prime : zyOK yX5_prime 1 := ⟨by decide +kernel, by decide +kernel, by decide +kernel⟩
set_option maxHeartbeats 4000000 in
set_option maxRecDepth 100000 in
theorem wX5_prime {G : ZG} (a0 : Nat) (a1 : Int32) (S : ZS) (h0 : zFix G cX5_prime RX5 3 (some .int) rmX5_prime) (C : Option ((Int32 × ZS) ⊕ ZX) → Prop) (hC : ¬ C none) (hnt : zNoTab G) (hE : ∀ (v : Int32) (S1 : ZS), C (some (.inl (v, S1))) → zEndT G (some (.int v)) S1 rmX5_prime) (hEx : ∀ (E : String) (h : ZH), C (some (.inr (E, h))) → zEndX G E h rmX5_prime) : zV G 3 S 0 0 0 [(0, .ref a0), (1, .int a1)] [] (C (fX5_prime a0 a1 S)) := by
  have J25 : ∀ (l0 : Nat) (l1 : Int32) (S9 : ZS), zV G 3 S9 0 0 25 [(0, .ref l0), (1, .int l1)] [] (C (fX5_prime_J25 l0 l1 S9)) := by
    intro l0 l1 S9
    unfold fX5_prime_J25
    refine zr_aload_n h0 dX5_prime_25 rfl (n := 26) rfl ?_
    refine zr_getI C hC h0 zcX5 (k := 7) (by decide) zw_82 dX5_prime_26 (n := 29) rfl (fun v4 => ?_)
    refine zr_if_le C (tgt := 42) h0 dX5_prime_29 (by decide) (n := 32) rfl ?_ ?_
    · refine zr_aload_n h0 dX5_prime_42 rfl (n := 43) rfl ?_
      refine zr_getI C hC h0 zcX5 (k := 6) (by decide) zw_81 dX5_prime_43 (n := 46) rfl (fun v5 => ?_)
      refine zr_istore_n [(0, .ref l0), (1, .int l1), (2, .int v5)] h0 dX5_prime_46 (by decide) rfl (n := 47) rfl ?_
      refine zr_aload_n h0 dX5_prime_47 rfl (n := 48) rfl ?_
      refine zr_iload_n h0 dX5_prime_48 rfl (n := 49) rfl ?_
      refine zr_putF C hC h0 zcX5 (k := 6) (by decide) zw_81 rfl rfl rfl dX5_prime_49 (n := 52) rfl (fun S6 => ?_)
      refine zr_iload_n h0 dX5_prime_52 rfl (n := 53) rfl ?_
      exact zr_iretT h0 rfl dX5_prime_53 (hE _ _) (by decide) (by decide)
    · refine zv_sub (lv' := []) ?_ (zsub_of [] rfl)
      exact zr_throw h0 hnt (cls := "java/lang/IllegalStateException") (text := "there are cubes") (names := ["java/lang/RuntimeException", "java/lang/Exception"]) (by decide +kernel) zfitN zw_180 zw_10 (by decide +kernel) (by decide +kernel) zat_X5_67 zbad_X5_67 zgd_X5_67 dX5_prime_32 dX5_prime_35 dX5_prime_36 dX5_prime_38 dX5_prime_41 (by decide) (Nat.le_of_ble_eq_true rfl) (by decide) (by decide) (fun h => hEx _ _ h)
  unfold fX5_prime
  refine zr_iload_n h0 dX5_prime_0 rfl (n := 1) rfl ?_
  refine zr_iconst (2 : Int32) h0 (by decide) dX5_prime_1 (n := 2) rfl ?_
  refine zr_icmp_eq C (tgt := 25) h0 dX5_prime_2 (by decide) (n := 5) rfl ?_ ?_
  · exact J25 a0 a1 S
  · refine zr_iload_n h0 dX5_prime_5 rfl (n := 6) rfl ?_
    refine zr_iconst (3 : Int32) h0 (by decide) dX5_prime_6 (n := 7) rfl ?_
    refine zr_icmp_eq C (tgt := 25) h0 dX5_prime_7 (by decide) (n := 10) rfl ?_ ?_
    · exact J25 a0 a1 S
    · refine zr_iload_n h0 dX5_prime_10 rfl (n := 11) rfl ?_
      refine zr_iconst (5 : Int32) h0 (by decide) dX5_prime_11 (n := 12) rfl ?_
      refine zr_icmp_eq C (tgt := 25) h0 dX5_prime_12 (by decide) (n := 15) rfl ?_ ?_
      · exact J25 a0 a1 S
      · refine zv_sub (lv' := []) ?_ (zsub_of [] rfl)
        exact zr_throw h0 hnt (cls := "java/lang/IllegalArgumentException") (text := "the prime is 2, 3 or 5") (names := ["java/lang/RuntimeException", "java/lang/Exception"]) (by decide +kernel) zfitN zw_112 zw_9 (by decide +kernel) (by decide +kernel) zat_X5_60 zbad_X5_60 zgd_X5_60 dX5_prime_15 dX5_prime_18 dX5_prime_19 dX5_prime_21 dX5_prime_24 (by decide) (Nat.le_of_ble_eq_true rfl) (by decide) (by decide) (fun h => hEx _ _ h)
theorem kX5_prime (l : Launch) (D : ZD) (z0 : Nat) (hlt : l.stackTraces = false) (a0 : Nat) (a1 : Int32) (S : ZS) (x : ((Int32 × ZS) ⊕ ZX)) (hf : fX5_prime a0 a1 S = some x) : zMetT l D z0 yX5_prime cX5_prime 3 (some .int) rmX5_prime [.ref a0, .int a1] S (x.map (fun y => ((some (.int y.1)), y.2)) id) :=
  zMetT_of hlt (by decide) (Nat.le_of_ble_eq_true rfl) (fun G h0 hnt hE hEx => wX5_prime a0 a1 S h0 (fun o => o = some x) (fun h => nomatch h) hnt (fun v S1 h => by cases h; exact hE _ _ rfl) (fun E h hh => by cases hh; exact hEx _ _ rfl)) hf
theorem dX5_needSize_0 : decode cX5_needSize 0 = .ok (.iload_n 0, 1) := by decide +kernel
theorem dX5_needSize_1 : decode cX5_needSize 1 = .ok (.iconst 1, 1) := by decide +kernel
theorem dX5_needSize_2 : decode cX5_needSize 2 = .ok (.if_icmp .lt 8, 3) := by decide +kernel
theorem dX5_needSize_5 : decode cX5_needSize 5 = .ok (.iload_n 0, 1) := by decide +kernel
theorem dX5_needSize_6 : decode cX5_needSize 6 = .ok (.iconst 4, 1) := by decide +kernel
theorem dX5_needSize_7 : decode cX5_needSize 7 = .ok (.if_icmp .le 13, 3) := by decide +kernel
theorem dX5_needSize_10 : decode cX5_needSize 10 = .ok (.new 56, 3) := by decide +kernel
theorem dX5_needSize_13 : decode cX5_needSize 13 = .ok (.dup, 1) := by decide +kernel
theorem dX5_needSize_14 : decode cX5_needSize 14 = .ok (.ldc 252, 2) := by decide +kernel
theorem dX5_needSize_16 : decode cX5_needSize 16 = .ok (.invokespecial 60, 3) := by decide +kernel
theorem dX5_needSize_19 : decode cX5_needSize 19 = .ok (.athrow, 1) := by decide +kernel
theorem dX5_needSize_20 : decode cX5_needSize 20 = .ok (.return_, 1) := by decide +kernel
abbrev rmX5_needSize : Room := { frames := 6, cells := 1, slots := 6, locals := 90 }
theorem zyX5_needSize : zyOK yX5_needSize 1 := ⟨by decide +kernel, by decide +kernel, by decide +kernel⟩
set_option maxHeartbeats 4000000 in
set_option maxRecDepth 100000 in
theorem wX5_needSize {G : ZG} (a0 : Int32) (S : ZS) (h0 : zFix G cX5_needSize RX5 1 none rmX5_needSize) (C : Option ((Unit × ZS) ⊕ ZX) → Prop) (hC : ¬ C none) (hnt : zNoTab G) (hE : ∀ (v : Unit) (S1 : ZS), C (some (.inl (v, S1))) → zEndT G none S1 rmX5_needSize) (hEx : ∀ (E : String) (h : ZH), C (some (.inr (E, h))) → zEndX G E h rmX5_needSize) : zV G 1 S 0 0 0 [(0, .int a0)] [] (C (fX5_needSize a0 S)) := by
  have J10 : ∀  (S9 : ZS), zV G 1 S9 0 0 10 [] [] (C (fX5_needSize_J10 S9)) := by
    intro  S9
    unfold fX5_needSize_J10
    exact zr_throw h0 hnt (cls := "java/lang/IllegalArgumentException") (text := "a size is out of range") (names := ["java/lang/RuntimeException", "java/lang/Exception"]) (by decide +kernel) zfitN zw_112 zw_9 (by decide +kernel) (by decide +kernel) zat_X5_60 zbad_X5_60 zgd_X5_60 dX5_needSize_10 dX5_needSize_13 dX5_needSize_14 dX5_needSize_16 dX5_needSize_19 (by decide) (Nat.le_of_ble_eq_true rfl) (by decide) (by decide) (fun h => hEx _ _ h)
  unfold fX5_needSize
  refine zr_iload_n h0 dX5_needSize_0 rfl (n := 1) rfl ?_
  refine zr_iconst (1 : Int32) h0 (by decide) dX5_needSize_1 (n := 2) rfl ?_
  refine zr_icmp_lt C (tgt := 10) h0 dX5_needSize_2 (by decide) (n := 5) rfl ?_ ?_
  · refine zv_sub (lv' := []) ?_ (zsub_of [] rfl)
    exact J10 S
  · refine zr_iload_n h0 dX5_needSize_5 rfl (n := 6) rfl ?_
    refine zr_iconst (4 : Int32) h0 (by decide) dX5_needSize_6 (n := 7) rfl ?_
    refine zr_icmp_le C (tgt := 20) h0 dX5_needSize_7 (by decide) (n := 10) rfl ?_ ?_
    · refine zv_sub (lv' := []) ?_ (zsub_of [] rfl)
      exact zr_vretT h0 rfl dX5_needSize_20 (fun h => hE _ _ h) (by decide) (by decide)
    · refine zv_sub (lv' := []) ?_ (zsub_of [] rfl)
      exact J10 S
theorem kX5_needSize (l : Launch) (D : ZD) (z0 : Nat) (hlt : l.stackTraces = false) (a0 : Int32) (S : ZS) (x : ((Unit × ZS) ⊕ ZX)) (hf : fX5_needSize a0 S = some x) : zMetT l D z0 yX5_needSize cX5_needSize 1 none rmX5_needSize [.int a0] S (x.map (fun y => (none, y.2)) id) :=
  zMetT_of hlt (by decide) (Nat.le_of_ble_eq_true rfl) (fun G h0 hnt hE hEx => wX5_needSize a0 S h0 (fun o => o = some x) (fun h => nomatch h) hnt (fun v S1 h => by cases h; exact hE _ _ rfl) (fun E h hh => by cases hh; exact hEx _ _ rfl)) hf
theorem dX0_init_0 : decode cX0_init 0 = .ok (.aload_n 0, 1) := by decide +kernel
theorem dX0_init_1 : decode cX0_init 1 = .ok (.invokespecial 3, 3) := by decide +kernel
theorem dX0_init_4 : decode cX0_init 4 = .ok (.aload_n 0, 1) := by decide +kernel
theorem dX0_init_5 : decode cX0_init 5 = .ok (.iload_n 1, 1) := by decide +kernel
theorem dX0_init_6 : decode cX0_init 6 = .ok (.putfield 9, 3) := by decide +kernel
theorem dX0_init_9 : decode cX0_init 9 = .ok (.aload_n 0, 1) := by decide +kernel
theorem dX0_init_10 : decode cX0_init 10 = .ok (.iload_n 2, 1) := by decide +kernel
theorem dX0_init_11 : decode cX0_init 11 = .ok (.putfield 15, 3) := by decide +kernel
theorem dX0_init_14 : decode cX0_init 14 = .ok (.aload_n 0, 1) := by decide +kernel
theorem dX0_init_15 : decode cX0_init 15 = .ok (.iload_n 3, 1) := by decide +kernel
theorem dX0_init_16 : decode cX0_init 16 = .ok (.putfield 18, 3) := by decide +kernel
theorem dX0_init_19 : decode cX0_init 19 = .ok (.aload_n 0, 1) := by decide +kernel
theorem dX0_init_20 : decode cX0_init 20 = .ok (.bipush 64, 2) := by decide +kernel
theorem dX0_init_22 : decode cX0_init 22 = .ok (.newarray .int, 2) := by decide +kernel
theorem dX0_init_24 : decode cX0_init 24 = .ok (.putfield 21, 3) := by decide +kernel
theorem dX0_init_27 : decode cX0_init 27 = .ok (.aload_n 0, 1) := by decide +kernel
theorem dX0_init_28 : decode cX0_init 28 = .ok (.iconst 0, 1) := by decide +kernel
theorem dX0_init_29 : decode cX0_init 29 = .ok (.putfield 25, 3) := by decide +kernel
theorem dX0_init_32 : decode cX0_init 32 = .ok (.return_, 1) := by decide +kernel
abbrev rmX0_init : Room := { frames := 1, cells := 1, slots := 64, locals := 20 }
theorem zyX0_init : zyOK yX0_init 3 := ⟨by decide +kernel, by decide +kernel, by decide +kernel⟩
set_option maxHeartbeats 4000000 in
set_option maxRecDepth 100000 in
theorem wX0_init {G : ZG} (a0 : Nat) (a1 : Int32) (a2 : Int32) (a3 : Int32) (S : ZS) (h0 : zFix G cX0_init RX0 4 none rmX0_init) (hini : zIni G) (C : Option ZS → Prop) (hC : ¬ C none) (hE : ∀ S1 : ZS, C (some S1) → zEnd G none S1 rmX0_init) : zV G 4 S 0 0 0 [(0, .ref a0), (1, .int a1), (2, .int a2), (3, .int a3)] [] (C (fX0_init a0 a1 a2 a3 S)) := by
  unfold fX0_init
  refine zr_aload_n h0 dX0_init_0 rfl (n := 1) rfl ?_
  refine zr_objInit h0 zw_216 zw_22 zw_23 (by decide) (Nat.le_of_ble_eq_true rfl) dX0_init_1 (n := 4) rfl ?_
  refine zr_aload_n h0 dX0_init_4 rfl (n := 5) rfl ?_
  refine zr_iload_n h0 dX0_init_5 rfl (n := 6) rfl ?_
  refine zr_putK C hC h0 zcX0 (k := 0) (by decide) zw_217 rfl hini rfl rfl rfl dX0_init_6 (n := 9) rfl (fun S1 => ?_)
  refine zr_aload_n h0 dX0_init_9 rfl (n := 10) rfl ?_
  refine zr_iload_n h0 dX0_init_10 rfl (n := 11) rfl ?_
  refine zr_putK C hC h0 zcX0 (k := 1) (by decide) zw_221 rfl hini rfl rfl rfl dX0_init_11 (n := 14) rfl (fun S2 => ?_)
  refine zr_aload_n h0 dX0_init_14 rfl (n := 15) rfl ?_
  refine zr_iload_n h0 dX0_init_15 rfl (n := 16) rfl ?_
  refine zr_putK C hC h0 zcX0 (k := 2) (by decide) zw_225 rfl hini rfl rfl rfl dX0_init_16 (n := 19) rfl (fun S3 => ?_)
  refine zr_aload_n h0 dX0_init_19 rfl (n := 20) rfl ?_
  refine zr_bipush (64 : Int32) h0 (by decide) dX0_init_20 (n := 22) rfl ?_
  refine zr_newarray (t := 0) (N := 64) (ce' := 1) (sl' := 64) h0 rfl rfl (fun _ => rfl) rfl (fun _ h => nomatch h) zw_44 (by decide) rfl (by decide) rfl rfl (by decide) (by decide) dX0_init_22 (n := 24) rfl ?_
  refine zr_putK C hC h0 zcX0 (k := 3) (by decide) zw_229 rfl hini rfl rfl rfl dX0_init_24 (n := 27) rfl (fun S4 => ?_)
  refine zr_aload_n h0 dX0_init_27 rfl (n := 28) rfl ?_
  refine zr_iconst (0 : Int32) h0 (by decide) dX0_init_28 (n := 29) rfl ?_
  refine zr_putF C hC h0 zcX0 (k := 4) (by decide) zw_231 rfl rfl rfl dX0_init_29 (n := 32) rfl (fun S5 => ?_)
  exact zr_vret h0 rfl dX0_init_32 (fun h => hE _ h) (by decide) (by decide)
theorem kX0_init (l : Launch) (D : ZD) (z0 : Nat) (a0 : Nat) (a1 : Int32) (a2 : Int32) (a3 : Int32) (S : ZS) (x : ZS) (hf : fX0_init a0 a1 a2 a3 S = some x) : zMet l D z0 yX0_init cX0_init 4 none rmX0_init [.ref a0, .int a1, .int a2, .int a3] S none x :=
  zMet_of (by decide) (Nat.le_of_ble_eq_true rfl) (fun G h0 hini hE => wX0_init a0 a1 a2 a3 S h0 (hini rfl) (fun o => o = some x) (fun h => nomatch h) (fun S1 h => by cases h; exact hE)) hf
theorem dX5_addCube_0 : decode cX5_addCube 0 = .ok (.iload_n 1, 1) := by decide +kernel
theorem dX5_addCube_1 : decode cX5_addCube 1 = .ok (.invokestatic 72, 3) := by decide +kernel
theorem dX5_addCube_4 : decode cX5_addCube 4 = .ok (.iload_n 2, 1) := by decide +kernel
theorem dX5_addCube_5 : decode cX5_addCube 5 = .ok (.invokestatic 72, 3) := by decide +kernel
theorem dX5_addCube_8 : decode cX5_addCube 8 = .ok (.iload_n 3, 1) := by decide +kernel
theorem dX5_addCube_9 : decode cX5_addCube 9 = .ok (.invokestatic 72, 3) := by decide +kernel
theorem dX5_addCube_12 : decode cX5_addCube 12 = .ok (.aload_n 0, 1) := by decide +kernel
theorem dX5_addCube_13 : decode cX5_addCube 13 = .ok (.getfield 50, 3) := by decide +kernel
theorem dX5_addCube_16 : decode cX5_addCube 16 = .ok (.ifCond .lt 15, 3) := by decide +kernel
theorem dX5_addCube_19 : decode cX5_addCube 19 = .ok (.aload_n 0, 1) := by decide +kernel
theorem dX5_addCube_20 : decode cX5_addCube 20 = .ok (.getfield 50, 3) := by decide +kernel
theorem dX5_addCube_23 : decode cX5_addCube 23 = .ok (.aload_n 0, 1) := by decide +kernel
theorem dX5_addCube_24 : decode cX5_addCube 24 = .ok (.getfield 11, 3) := by decide +kernel
theorem dX5_addCube_27 : decode cX5_addCube 27 = .ok (.arraylength, 1) := by decide +kernel
theorem dX5_addCube_28 : decode cX5_addCube 28 = .ok (.if_icmp .lt 14, 3) := by decide +kernel
theorem dX5_addCube_31 : decode cX5_addCube 31 = .ok (.new 63, 3) := by decide +kernel
theorem dX5_addCube_34 : decode cX5_addCube 34 = .ok (.dup, 1) := by decide +kernel
theorem dX5_addCube_35 : decode cX5_addCube 35 = .ok (.ldc_w 286, 3) := by decide +kernel
theorem dX5_addCube_38 : decode cX5_addCube 38 = .ok (.invokespecial 67, 3) := by decide +kernel
theorem dX5_addCube_41 : decode cX5_addCube 41 = .ok (.athrow, 1) := by decide +kernel
theorem dX5_addCube_42 : decode cX5_addCube 42 = .ok (.new 9, 3) := by decide +kernel
theorem dX5_addCube_45 : decode cX5_addCube 45 = .ok (.dup, 1) := by decide +kernel
theorem dX5_addCube_46 : decode cX5_addCube 46 = .ok (.iload_n 1, 1) := by decide +kernel
theorem dX5_addCube_47 : decode cX5_addCube 47 = .ok (.iload_n 2, 1) := by decide +kernel
theorem dX5_addCube_48 : decode cX5_addCube 48 = .ok (.iload_n 3, 1) := by decide +kernel
theorem dX5_addCube_49 : decode cX5_addCube 49 = .ok (.invokespecial 288, 3) := by decide +kernel
theorem dX5_addCube_52 : decode cX5_addCube 52 = .ok (.astore 4, 2) := by decide +kernel
theorem dX5_addCube_54 : decode cX5_addCube 54 = .ok (.aload_n 0, 1) := by decide +kernel
theorem dX5_addCube_55 : decode cX5_addCube 55 = .ok (.getfield 11, 3) := by decide +kernel
theorem dX5_addCube_58 : decode cX5_addCube 58 = .ok (.aload_n 0, 1) := by decide +kernel
theorem dX5_addCube_59 : decode cX5_addCube 59 = .ok (.getfield 50, 3) := by decide +kernel
theorem dX5_addCube_62 : decode cX5_addCube 62 = .ok (.aload 4, 2) := by decide +kernel
theorem dX5_addCube_64 : decode cX5_addCube 64 = .ok (.aastore, 1) := by decide +kernel
theorem dX5_addCube_65 : decode cX5_addCube 65 = .ok (.aload_n 0, 1) := by decide +kernel
theorem dX5_addCube_66 : decode cX5_addCube 66 = .ok (.dup, 1) := by decide +kernel
theorem dX5_addCube_67 : decode cX5_addCube 67 = .ok (.getfield 50, 3) := by decide +kernel
theorem dX5_addCube_70 : decode cX5_addCube 70 = .ok (.iconst 1, 1) := by decide +kernel
theorem dX5_addCube_71 : decode cX5_addCube 71 = .ok (.iadd, 1) := by decide +kernel
theorem dX5_addCube_72 : decode cX5_addCube 72 = .ok (.putfield 50, 3) := by decide +kernel
theorem dX5_addCube_75 : decode cX5_addCube 75 = .ok (.aload 4, 2) := by decide +kernel
theorem dX5_addCube_77 : decode cX5_addCube 77 = .ok (.areturn, 1) := by decide +kernel
abbrev rmX5_addCube : Room := { frames := 7, cells := 5, slots := 87, locals := 110 }
theorem zyX5_addCube : zyOK yX5_addCube 3 := ⟨by decide +kernel, by decide +kernel, by decide +kernel⟩
set_option maxHeartbeats 4000000 in
set_option maxRecDepth 100000 in
theorem wX5_addCube {G : ZG} (a0 : Nat) (a1 : Int32) (a2 : Int32) (a3 : Int32) (S : ZS) (h0 : zFix G cX5_addCube RX5 5 (some (.object "Bilinearium$Cube")) rmX5_addCube) (C : Option ((Nat × ZS) ⊕ ZX) → Prop) (hC : ¬ C none) (hnt : zNoTab G) (hE : ∀ (v : Nat) (S1 : ZS), C (some (.inl (v, S1))) → zEndT G (some (.ref v)) S1 rmX5_addCube) (hEx : ∀ (E : String) (h : ZH), C (some (.inr (E, h))) → zEndX G E h rmX5_addCube) : zV G 5 S 0 0 0 [(0, .ref a0), (1, .int a1), (2, .int a2), (3, .int a3)] [] (C (fX5_addCube a0 a1 a2 a3 S)) := by
  have J31 : ∀  (S9 : ZS), zV G 5 S9 3 18 31 [] [] (C (fX5_addCube_J31 S9)) := by
    intro  S9
    unfold fX5_addCube_J31
    exact zr_throwW h0 hnt (cls := "java/lang/IllegalStateException") (text := "there are 16 cubes") (names := ["java/lang/RuntimeException", "java/lang/Exception"]) (by decide +kernel) zfitN zw_180 zw_10 (by decide +kernel) (by decide +kernel) zat_X5_67 zbad_X5_67 zgd_X5_67 dX5_addCube_31 dX5_addCube_34 dX5_addCube_35 dX5_addCube_38 dX5_addCube_41 (by decide) (Nat.le_of_ble_eq_true rfl) (by decide) (by decide) (fun h => hEx _ _ h)
  unfold fX5_addCube
  refine zr_iload_n h0 dX5_addCube_0 rfl (n := 1) rfl ?_
  refine zr_cTV C hC 1 6 h0 (fun x hx => zk_ST h0 (fun l D z0 hlt => kX5_needSize l D z0 hlt a1 S x hx) hnt zw_207 zw_208 zw_1 zw_209 zyX5_needSize (As := [.int a1]) (st := []) rfl (by decide) rfl (Nat.le_of_ble_eq_true rfl) (by decide) dX5_addCube_1) hnt rfl rfl (by decide) (by decide) (n := 4) rfl (fun z h => hEx _ _ h) (fun x1 => ?_)
  refine zr_iload_n h0 dX5_addCube_4 rfl (n := 5) rfl ?_
  refine zr_cTV C hC 2 12 h0 (fun x hx => zk_ST h0 (fun l D z0 hlt => kX5_needSize l D z0 hlt a2 x1.2 x hx) hnt zw_207 zw_208 zw_1 zw_209 zyX5_needSize (As := [.int a2]) (st := []) rfl (by decide) rfl (Nat.le_of_ble_eq_true rfl) (by decide) dX5_addCube_5) hnt rfl rfl (by decide) (by decide) (n := 8) rfl (fun z h => hEx _ _ h) (fun x2 => ?_)
  refine zr_iload_n h0 dX5_addCube_8 rfl (n := 9) rfl ?_
  refine zr_cTV C hC 3 18 h0 (fun x hx => zk_ST h0 (fun l D z0 hlt => kX5_needSize l D z0 hlt a3 x2.2 x hx) hnt zw_207 zw_208 zw_1 zw_209 zyX5_needSize (As := [.int a3]) (st := []) rfl (by decide) rfl (Nat.le_of_ble_eq_true rfl) (by decide) dX5_addCube_9) hnt rfl rfl (by decide) (by decide) (n := 12) rfl (fun z h => hEx _ _ h) (fun x3 => ?_)
  refine zr_aload_n h0 dX5_addCube_12 rfl (n := 13) rfl ?_
  refine zr_getI C hC h0 zcX5 (k := 7) (by decide) zw_82 dX5_addCube_13 (n := 16) rfl (fun v4 => ?_)
  refine zr_if_lt C (tgt := 31) h0 dX5_addCube_16 (by decide) (n := 19) rfl ?_ ?_
  · refine zv_sub (lv' := []) ?_ (zsub_of [] rfl)
    exact J31 x3.2
  · refine zr_aload_n h0 dX5_addCube_19 rfl (n := 20) rfl ?_
    refine zr_getI C hC h0 zcX5 (k := 7) (by decide) zw_82 dX5_addCube_20 (n := 23) rfl (fun v5 => ?_)
    refine zr_aload_n h0 dX5_addCube_23 rfl (n := 24) rfl ?_
    refine zr_getR C hC h0 zcX5 (k := 0) (by decide) zw_75 dX5_addCube_24 (n := 27) rfl (fun v6 => ?_)
    refine zr_alen C hC h0 dX5_addCube_27 (n := 28) rfl (fun v7 => ?_)
    refine zr_icmp_lt C (tgt := 42) h0 dX5_addCube_28 (by decide) (n := 31) rfl ?_ ?_
    · refine zr_new (fs := [.int 0, .int 0, .int 0, .null, .int 0]) (ce' := 4) (sl' := 23) h0 zcX0 znwX0 zw_24 zw_212 zw_11 rfl rfl (by decide) (by decide) dX5_addCube_42 (n := 45) rfl ?_
      refine zr_dup h0 rfl dX5_addCube_45 (n := 46) rfl ?_
      refine zr_iload_n h0 dX5_addCube_46 rfl (n := 47) rfl ?_
      refine zr_iload_n h0 dX5_addCube_47 rfl (n := 48) rfl ?_
      refine zr_iload_n h0 dX5_addCube_48 rfl (n := 49) rfl ?_
      refine zr_cMV C hC 5 87 (fun x hx => zk_I h0 (fun l D z0 => kX0_init l D z0 (Prod.snd x3.2) a1 a2 a3 (zno x3.2 0 [.int 0, .int 0, .int 0, .null, .int 0]) x hx) zw_213 zw_214 zw_11 zw_215 rfl zyX0_init (As := [.int a1, .int a2, .int a3]) (st := [.ref (Prod.snd x3.2)]) rfl (by decide) rfl (Nat.le_of_ble_eq_true rfl) (by decide) dX5_addCube_49) rfl rfl (n := 52) rfl (fun x8 => ?_)
      refine zr_astore [(0, .ref a0), (1, .int a1), (2, .int a2), (3, .int a3), (4, .ref (Prod.snd x3.2))] h0 dX5_addCube_52 (by decide) rfl (n := 54) rfl ?_
      refine zr_aload_n h0 dX5_addCube_54 rfl (n := 55) rfl ?_
      refine zr_getR C hC h0 zcX5 (k := 0) (by decide) zw_75 dX5_addCube_55 (n := 58) rfl (fun v9 => ?_)
      refine zr_aload_n h0 dX5_addCube_58 rfl (n := 59) rfl ?_
      refine zr_getI C hC h0 zcX5 (k := 7) (by decide) zw_82 dX5_addCube_59 (n := 62) rfl (fun v10 => ?_)
      refine zr_aload h0 dX5_addCube_62 rfl (n := 64) rfl ?_
      refine zr_aastore C hC (t := 3) h0 zcX0 rfl dX5_addCube_64 (n := 65) rfl (fun S11 => ?_)
      refine zr_aload_n h0 dX5_addCube_65 rfl (n := 66) rfl ?_
      refine zr_dup h0 rfl dX5_addCube_66 (n := 67) rfl ?_
      refine zr_getI C hC h0 zcX5 (k := 7) (by decide) zw_82 dX5_addCube_67 (n := 70) rfl (fun v12 => ?_)
      refine zr_iconst (1 : Int32) h0 (by decide) dX5_addCube_70 (n := 71) rfl ?_
      refine zr_iadd h0 dX5_addCube_71 (n := 72) rfl ?_
      refine zr_putF C hC h0 zcX5 (k := 7) (by decide) zw_82 rfl rfl rfl dX5_addCube_72 (n := 75) rfl (fun S13 => ?_)
      refine zr_aload h0 dX5_addCube_75 rfl (n := 77) rfl ?_
      exact zr_aretT h0 rfl (Or.inl ⟨_, rfl⟩) dX5_addCube_77 (hE _ _) (by decide) (by decide)
    · refine zv_sub (lv' := []) ?_ (zsub_of [] rfl)
      exact J31 x3.2
theorem kX5_addCube (l : Launch) (D : ZD) (z0 : Nat) (hlt : l.stackTraces = false) (a0 : Nat) (a1 : Int32) (a2 : Int32) (a3 : Int32) (S : ZS) (x : ((Nat × ZS) ⊕ ZX)) (hf : fX5_addCube a0 a1 a2 a3 S = some x) : zMetT l D z0 yX5_addCube cX5_addCube 5 (some (.object "Bilinearium$Cube")) rmX5_addCube [.ref a0, .int a1, .int a2, .int a3] S (x.map (fun y => ((some (.ref y.1)), y.2)) id) :=
  zMetT_of hlt (by decide) (Nat.le_of_ble_eq_true rfl) (fun G h0 hnt hE hEx => wX5_addCube a0 a1 a2 a3 S h0 (fun o => o = some x) (fun h => nomatch h) hnt (fun v S1 h => by cases h; exact hE _ _ rfl) (fun E h hh => by cases hh; exact hEx _ _ rfl)) hf
theorem dX5_cube_0 : decode cX5_cube 0 = .ok (.aload_n 0, 1) := by decide +kernel
theorem dX5_cube_1 : decode cX5_cube 1 = .ok (.iload_n 1, 1) := by decide +kernel
theorem dX5_cube_2 : decode cX5_cube 2 = .ok (.iload_n 2, 1) := by decide +kernel
theorem dX5_cube_3 : decode cX5_cube 3 = .ok (.iload_n 3, 1) := by decide +kernel
theorem dX5_cube_4 : decode cX5_cube 4 = .ok (.invokevirtual 68, 3) := by decide +kernel
theorem dX5_cube_7 : decode cX5_cube 7 = .ok (.pop, 1) := by decide +kernel
theorem dX5_cube_8 : decode cX5_cube 8 = .ok (.aload_n 0, 1) := by decide +kernel
theorem dX5_cube_9 : decode cX5_cube 9 = .ok (.getfield 50, 3) := by decide +kernel
theorem dX5_cube_12 : decode cX5_cube 12 = .ok (.iconst 1, 1) := by decide +kernel
theorem dX5_cube_13 : decode cX5_cube 13 = .ok (.isub, 1) := by decide +kernel
theorem dX5_cube_14 : decode cX5_cube 14 = .ok (.ireturn, 1) := by decide +kernel
abbrev rmX5_cube : Room := { frames := 8, cells := 5, slots := 87, locals := 134 }
theorem zyX5_cube : zyOK yX5_cube 3 := ⟨by decide +kernel, by decide +kernel, by decide +kernel⟩
set_option maxHeartbeats 4000000 in
set_option maxRecDepth 100000 in
theorem wX5_cube {G : ZG} (a0 : Nat) (a1 : Int32) (a2 : Int32) (a3 : Int32) (S : ZS) (h0 : zFix G cX5_cube RX5 4 (some .int) rmX5_cube) (C : Option ((Int32 × ZS) ⊕ ZX) → Prop) (hC : ¬ C none) (hnt : zNoTab G) (hE : ∀ (v : Int32) (S1 : ZS), C (some (.inl (v, S1))) → zEndT G (some (.int v)) S1 rmX5_cube) (hEx : ∀ (E : String) (h : ZH), C (some (.inr (E, h))) → zEndX G E h rmX5_cube) : zV G 4 S 0 0 0 [(0, .ref a0), (1, .int a1), (2, .int a2), (3, .int a3)] [] (C (fX5_cube a0 a1 a2 a3 S)) := by
  unfold fX5_cube
  refine zr_aload_n h0 dX5_cube_0 rfl (n := 1) rfl ?_
  refine zr_iload_n h0 dX5_cube_1 rfl (n := 2) rfl ?_
  refine zr_iload_n h0 dX5_cube_2 rfl (n := 3) rfl ?_
  refine zr_iload_n h0 dX5_cube_3 rfl (n := 4) rfl ?_
  refine zr_cTR C hC 5 87 h0 (fun x hx => zk_VT h0 zcX5 (zcl_ex hx) (fun l D z0 hlt => kX5_addCube l D z0 hlt a0 a1 a2 a3 S x (zcl_of hx)) hnt zw_203 zw_205 zs_1 zw_1 zw_206 rfl zyX5_addCube (As := [.int a1, .int a2, .int a3]) (st := []) rfl (by decide) rfl (Nat.le_of_ble_eq_true rfl) (by decide) dX5_cube_4) hnt rfl rfl (by decide) (by decide) (n := 7) rfl (fun z h => hEx _ _ h) (fun x1 => ?_)
  refine zr_pop h0 rfl dX5_cube_7 (n := 8) rfl ?_
  refine zr_aload_n h0 dX5_cube_8 rfl (n := 9) rfl ?_
  refine zr_getI C hC h0 zcX5 (k := 7) (by decide) zw_82 dX5_cube_9 (n := 12) rfl (fun v2 => ?_)
  refine zr_iconst (1 : Int32) h0 (by decide) dX5_cube_12 (n := 13) rfl ?_
  refine zr_isub h0 dX5_cube_13 (n := 14) rfl ?_
  exact zr_iretT h0 rfl dX5_cube_14 (hE _ _) (by decide) (by decide)
theorem kX5_cube (l : Launch) (D : ZD) (z0 : Nat) (hlt : l.stackTraces = false) (a0 : Nat) (a1 : Int32) (a2 : Int32) (a3 : Int32) (S : ZS) (x : ((Int32 × ZS) ⊕ ZX)) (hf : fX5_cube a0 a1 a2 a3 S = some x) : zMetT l D z0 yX5_cube cX5_cube 4 (some .int) rmX5_cube [.ref a0, .int a1, .int a2, .int a3] S (x.map (fun y => ((some (.int y.1)), y.2)) id) :=
  zMetT_of hlt (by decide) (Nat.le_of_ble_eq_true rfl) (fun G h0 hnt hE hEx => wX5_cube a0 a1 a2 a3 S h0 (fun o => o = some x) (fun h => nomatch h) hnt (fun v S1 h => by cases h; exact hE _ _ rfl) (fun E h hh => by cases hh; exact hEx _ _ rfl)) hf
theorem dX0_indexOf_0 : decode cX0_indexOf 0 = .ok (.iload_n 0, 1) := by decide +kernel
theorem dX0_indexOf_1 : decode cX0_indexOf 1 = .ok (.iconst 4, 1) := by decide +kernel
theorem dX0_indexOf_2 : decode cX0_indexOf 2 = .ok (.imul, 1) := by decide +kernel
theorem dX0_indexOf_3 : decode cX0_indexOf 3 = .ok (.iload_n 1, 1) := by decide +kernel
theorem dX0_indexOf_4 : decode cX0_indexOf 4 = .ok (.iadd, 1) := by decide +kernel
theorem dX0_indexOf_5 : decode cX0_indexOf 5 = .ok (.iconst 4, 1) := by decide +kernel
theorem dX0_indexOf_6 : decode cX0_indexOf 6 = .ok (.imul, 1) := by decide +kernel
theorem dX0_indexOf_7 : decode cX0_indexOf 7 = .ok (.iload_n 2, 1) := by decide +kernel
theorem dX0_indexOf_8 : decode cX0_indexOf 8 = .ok (.iadd, 1) := by decide +kernel
theorem dX0_indexOf_9 : decode cX0_indexOf 9 = .ok (.ireturn, 1) := by decide +kernel
abbrev rmX0_indexOf : Room := { frames := 1, cells := 0, slots := 0, locals := 20 }
theorem zyX0_indexOf : zyOK yX0_indexOf 3 := ⟨by decide +kernel, by decide +kernel, by decide +kernel⟩
set_option maxHeartbeats 4000000 in
set_option maxRecDepth 100000 in
theorem wX0_indexOf {G : ZG} (a0 : Int32) (a1 : Int32) (a2 : Int32) (S : ZS) (h0 : zFix G cX0_indexOf RX0 3 (some .int) rmX0_indexOf) (C : Option Int32 → Prop) (hC : ¬ C none) (hE : ∀ v : Int32, C (some v) → zEnd G (some (.int v)) S rmX0_indexOf) : zV G 3 S 0 0 0 [(0, .int a0), (1, .int a1), (2, .int a2)] [] (C (fX0_indexOf a0 a1 a2)) := by
  unfold fX0_indexOf
  refine zr_iload_n h0 dX0_indexOf_0 rfl (n := 1) rfl ?_
  refine zr_iconst (4 : Int32) h0 (by decide) dX0_indexOf_1 (n := 2) rfl ?_
  refine zr_imul h0 dX0_indexOf_2 (n := 3) rfl ?_
  refine zr_iload_n h0 dX0_indexOf_3 rfl (n := 4) rfl ?_
  refine zr_iadd h0 dX0_indexOf_4 (n := 5) rfl ?_
  refine zr_iconst (4 : Int32) h0 (by decide) dX0_indexOf_5 (n := 6) rfl ?_
  refine zr_imul h0 dX0_indexOf_6 (n := 7) rfl ?_
  refine zr_iload_n h0 dX0_indexOf_7 rfl (n := 8) rfl ?_
  refine zr_iadd h0 dX0_indexOf_8 (n := 9) rfl ?_
  exact zr_iret h0 rfl dX0_indexOf_9 (hE _) (by decide) (by decide)
theorem kX0_indexOf (l : Launch) (D : ZD) (z0 : Nat) (a0 : Int32) (a1 : Int32) (a2 : Int32) (S : ZS) (x : Int32) (hf : fX0_indexOf a0 a1 a2 = some x) : zMet l D z0 yX0_indexOf cX0_indexOf 3 (some .int) rmX0_indexOf [.int a0, .int a1, .int a2] S (some (.int x)) S :=
  zMet_of (by decide) (Nat.le_of_ble_eq_true rfl) (fun G h0 hini hE => wX0_indexOf a0 a1 a2 S h0 (fun o => o = some x) (fun h => nomatch h) (fun v h => by cases h; exact hE)) hf
theorem dX5_put_0 : decode cX5_put 0 = .ok (.aload_n 0, 1) := by decide +kernel
theorem dX5_put_1 : decode cX5_put 1 = .ok (.ifnull 17, 3) := by decide +kernel
theorem dX5_put_4 : decode cX5_put 4 = .ok (.iload_n 1, 1) := by decide +kernel
theorem dX5_put_5 : decode cX5_put 5 = .ok (.ifCond .lt 13, 3) := by decide +kernel
theorem dX5_put_8 : decode cX5_put 8 = .ok (.iload_n 1, 1) := by decide +kernel
theorem dX5_put_9 : decode cX5_put 9 = .ok (.aload_n 0, 1) := by decide +kernel
theorem dX5_put_10 : decode cX5_put 10 = .ok (.arraylength, 1) := by decide +kernel
theorem dX5_put_11 : decode cX5_put 11 = .ok (.if_icmp .ge 7, 3) := by decide +kernel
theorem dX5_put_14 : decode cX5_put 14 = .ok (.aload_n 0, 1) := by decide +kernel
theorem dX5_put_15 : decode cX5_put 15 = .ok (.iload_n 1, 1) := by decide +kernel
theorem dX5_put_16 : decode cX5_put 16 = .ok (.iload_n 2, 1) := by decide +kernel
theorem dX5_put_17 : decode cX5_put 17 = .ok (.iastore, 1) := by decide +kernel
theorem dX5_put_18 : decode cX5_put 18 = .ok (.return_, 1) := by decide +kernel
abbrev rmX5_put : Room := { frames := 1, cells := 0, slots := 0, locals := 20 }
theorem zyX5_put : zyOK yX5_put 3 := ⟨by decide +kernel, by decide +kernel, by decide +kernel⟩
set_option maxHeartbeats 4000000 in
set_option maxRecDepth 100000 in
theorem wX5_put {G : ZG} (a0 : Nat) (a1 : Int32) (a2 : Int32) (S : ZS) (h0 : zFix G cX5_put RX5 3 none rmX5_put) (C : Option ZS → Prop) (hC : ¬ C none) (hE : ∀ S1 : ZS, C (some S1) → zEnd G none S1 rmX5_put) : zV G 3 S 0 0 0 [(0, .ref a0), (1, .int a1), (2, .int a2)] [] (C (fX5_put a0 a1 a2 S)) := by
  have J18 : ∀  (S9 : ZS), zV G 3 S9 0 0 18 [] [] (C (fX5_put_J18 S9)) := by
    intro  S9
    unfold fX5_put_J18
    exact zr_vret h0 rfl dX5_put_18 (fun h => hE _ h) (by decide) (by decide)
  unfold fX5_put
  refine zr_aload_n h0 dX5_put_0 rfl (n := 1) rfl ?_
  refine zr_nullR h0 dX5_put_1 (n := 4) rfl ?_
  refine zr_iload_n h0 dX5_put_4 rfl (n := 5) rfl ?_
  refine zr_if_lt C (tgt := 18) h0 dX5_put_5 (by decide) (n := 8) rfl ?_ ?_
  · refine zv_sub (lv' := []) ?_ (zsub_of [] rfl)
    exact J18 S
  · refine zr_iload_n h0 dX5_put_8 rfl (n := 9) rfl ?_
    refine zr_aload_n h0 dX5_put_9 rfl (n := 10) rfl ?_
    refine zr_alen C hC h0 dX5_put_10 (n := 11) rfl (fun v1 => ?_)
    refine zr_icmp_ge C (tgt := 18) h0 dX5_put_11 (by decide) (n := 14) rfl ?_ ?_
    · refine zv_sub (lv' := []) ?_ (zsub_of [] rfl)
      exact J18 S
    · refine zr_aload_n h0 dX5_put_14 rfl (n := 15) rfl ?_
      refine zr_iload_n h0 dX5_put_15 rfl (n := 16) rfl ?_
      refine zr_iload_n h0 dX5_put_16 rfl (n := 17) rfl ?_
      refine zr_iastore C hC h0 dX5_put_17 (n := 18) rfl (fun S2 => ?_)
      refine zv_sub (lv' := []) ?_ (zsub_of [] rfl)
      exact J18 S2
theorem kX5_put (l : Launch) (D : ZD) (z0 : Nat) (a0 : Nat) (a1 : Int32) (a2 : Int32) (S : ZS) (x : ZS) (hf : fX5_put a0 a1 a2 S = some x) : zMet l D z0 yX5_put cX5_put 3 none rmX5_put [.ref a0, .int a1, .int a2] S none x :=
  zMet_of (by decide) (Nat.le_of_ble_eq_true rfl) (fun G h0 hini hE => wX5_put a0 a1 a2 S h0 (fun o => o = some x) (fun h => nomatch h) (fun S1 h => by cases h; exact hE)) hf
theorem dX0_enter_0 : decode cX0_enter 0 = .ok (.aload_n 0, 1) := by decide +kernel
theorem dX0_enter_1 : decode cX0_enter 1 = .ok (.getfield 21, 3) := by decide +kernel
theorem dX0_enter_4 : decode cX0_enter 4 = .ok (.iload_n 1, 1) := by decide +kernel
theorem dX0_enter_5 : decode cX0_enter 5 = .ok (.iload_n 2, 1) := by decide +kernel
theorem dX0_enter_6 : decode cX0_enter 6 = .ok (.iload_n 3, 1) := by decide +kernel
theorem dX0_enter_7 : decode cX0_enter 7 = .ok (.invokestatic 39, 3) := by decide +kernel
theorem dX0_enter_10 : decode cX0_enter 10 = .ok (.iload 4, 2) := by decide +kernel
theorem dX0_enter_12 : decode cX0_enter 12 = .ok (.invokestatic 35, 3) := by decide +kernel
theorem dX0_enter_15 : decode cX0_enter 15 = .ok (.return_, 1) := by decide +kernel
abbrev rmX0_enter : Room := { frames := 2, cells := 0, slots := 0, locals := 42 }
theorem zyX0_enter : zyOK yX0_enter 4 := ⟨by decide +kernel, by decide +kernel, by decide +kernel⟩
set_option maxHeartbeats 4000000 in
set_option maxRecDepth 100000 in
theorem wX0_enter {G : ZG} (a0 : Nat) (a1 : Int32) (a2 : Int32) (a3 : Int32) (a4 : Int32) (S : ZS) (h0 : zFix G cX0_enter RX0 5 none rmX0_enter) (C : Option ZS → Prop) (hC : ¬ C none) (hE : ∀ S1 : ZS, C (some S1) → zEnd G none S1 rmX0_enter) : zV G 5 S 0 0 0 [(0, .ref a0), (1, .int a1), (2, .int a2), (3, .int a3), (4, .int a4)] [] (C (fX0_enter a0 a1 a2 a3 a4 S)) := by
  unfold fX0_enter
  refine zr_aload_n h0 dX0_enter_0 rfl (n := 1) rfl ?_
  refine zr_getR C hC h0 zcX0 (k := 3) (by decide) zw_229 dX0_enter_1 (n := 4) rfl (fun v1 => ?_)
  refine zr_iload_n h0 dX0_enter_4 rfl (n := 5) rfl ?_
  refine zr_iload_n h0 dX0_enter_5 rfl (n := 6) rfl ?_
  refine zr_iload_n h0 dX0_enter_6 rfl (n := 7) rfl ?_
  refine zr_cRI C hC 0 0 (fun x hx => zk_S h0 (fun l D z0 => kX0_indexOf l D z0 a1 a2 a3 S x hx) zw_255 zw_256 zw_11 zw_257 zyX0_indexOf (As := [.int a1, .int a2, .int a3]) (st := [.ref v1]) rfl (by decide) rfl (Nat.le_of_ble_eq_true rfl) (by decide) dX0_enter_7) rfl rfl (n := 10) rfl (fun x2 => ?_)
  refine zr_iload h0 dX0_enter_10 rfl (n := 12) rfl ?_
  refine zr_cMV C hC 0 0 (fun x hx => zk_SN (host := "Bilinearium") h0 (fun l D z0 => kX5_put l D z0 v1 x2 a4 S x hx) (by decide +kernel) zw_259 zw_1 zw_260 zyX5_put (As := [.ref v1, .int x2, .int a4]) (st := []) rfl (by decide) rfl (Nat.le_of_ble_eq_true rfl) (by decide) dX0_enter_12) rfl rfl (n := 15) rfl (fun x3 => ?_)
  exact zr_vret h0 rfl dX0_enter_15 (fun h => hE _ h) (by decide) (by decide)
theorem kX0_enter (l : Launch) (D : ZD) (z0 : Nat) (a0 : Nat) (a1 : Int32) (a2 : Int32) (a3 : Int32) (a4 : Int32) (S : ZS) (x : ZS) (hf : fX0_enter a0 a1 a2 a3 a4 S = some x) : zMet l D z0 yX0_enter cX0_enter 5 none rmX0_enter [.ref a0, .int a1, .int a2, .int a3, .int a4] S none x :=
  zMet_of (by decide) (Nat.le_of_ble_eq_true rfl) (fun G h0 hini hE => wX0_enter a0 a1 a2 a3 a4 S h0 (fun o => o = some x) (fun h => nomatch h) (fun S1 h => by cases h; exact hE)) hf
theorem dX5_matrices_0 : decode cX5_matrices 0 = .ok (.iload_n 1, 1) := by decide +kernel
theorem dX5_matrices_1 : decode cX5_matrices 1 = .ok (.invokestatic 72, 3) := by decide +kernel
theorem dX5_matrices_4 : decode cX5_matrices 4 = .ok (.iload_n 2, 1) := by decide +kernel
theorem dX5_matrices_5 : decode cX5_matrices 5 = .ok (.invokestatic 72, 3) := by decide +kernel
theorem dX5_matrices_8 : decode cX5_matrices 8 = .ok (.iload_n 3, 1) := by decide +kernel
theorem dX5_matrices_9 : decode cX5_matrices 9 = .ok (.invokestatic 72, 3) := by decide +kernel
theorem dX5_matrices_12 : decode cX5_matrices 12 = .ok (.aload_n 0, 1) := by decide +kernel
theorem dX5_matrices_13 : decode cX5_matrices 13 = .ok (.iload_n 1, 1) := by decide +kernel
theorem dX5_matrices_14 : decode cX5_matrices 14 = .ok (.iload_n 2, 1) := by decide +kernel
theorem dX5_matrices_15 : decode cX5_matrices 15 = .ok (.imul, 1) := by decide +kernel
theorem dX5_matrices_16 : decode cX5_matrices 16 = .ok (.iload_n 2, 1) := by decide +kernel
theorem dX5_matrices_17 : decode cX5_matrices 17 = .ok (.iload_n 3, 1) := by decide +kernel
theorem dX5_matrices_18 : decode cX5_matrices 18 = .ok (.imul, 1) := by decide +kernel
theorem dX5_matrices_19 : decode cX5_matrices 19 = .ok (.iload_n 1, 1) := by decide +kernel
theorem dX5_matrices_20 : decode cX5_matrices 20 = .ok (.iload_n 3, 1) := by decide +kernel
theorem dX5_matrices_21 : decode cX5_matrices 21 = .ok (.imul, 1) := by decide +kernel
theorem dX5_matrices_22 : decode cX5_matrices 22 = .ok (.invokevirtual 68, 3) := by decide +kernel
theorem dX5_matrices_25 : decode cX5_matrices 25 = .ok (.astore 4, 2) := by decide +kernel
theorem dX5_matrices_27 : decode cX5_matrices 27 = .ok (.iconst 0, 1) := by decide +kernel
theorem dX5_matrices_28 : decode cX5_matrices 28 = .ok (.istore 5, 2) := by decide +kernel
theorem dX5_matrices_30 : decode cX5_matrices 30 = .ok (.iload 5, 2) := by decide +kernel
theorem dX5_matrices_32 : decode cX5_matrices 32 = .ok (.iload_n 1, 1) := by decide +kernel
theorem dX5_matrices_33 : decode cX5_matrices 33 = .ok (.if_icmp .ge 66, 3) := by decide +kernel
theorem dX5_matrices_36 : decode cX5_matrices 36 = .ok (.iconst 0, 1) := by decide +kernel
theorem dX5_matrices_37 : decode cX5_matrices 37 = .ok (.istore 6, 2) := by decide +kernel
theorem dX5_matrices_39 : decode cX5_matrices 39 = .ok (.iload 6, 2) := by decide +kernel
theorem dX5_matrices_41 : decode cX5_matrices 41 = .ok (.iload_n 2, 1) := by decide +kernel
theorem dX5_matrices_42 : decode cX5_matrices 42 = .ok (.if_icmp .ge 51, 3) := by decide +kernel
theorem dX5_matrices_45 : decode cX5_matrices 45 = .ok (.iconst 0, 1) := by decide +kernel
theorem dX5_matrices_46 : decode cX5_matrices 46 = .ok (.istore 7, 2) := by decide +kernel
theorem dX5_matrices_48 : decode cX5_matrices 48 = .ok (.iload 7, 2) := by decide +kernel
theorem dX5_matrices_50 : decode cX5_matrices 50 = .ok (.iload_n 3, 1) := by decide +kernel
theorem dX5_matrices_51 : decode cX5_matrices 51 = .ok (.if_icmp .ge 36, 3) := by decide +kernel
theorem dX5_matrices_54 : decode cX5_matrices 54 = .ok (.aload 4, 2) := by decide +kernel
theorem dX5_matrices_56 : decode cX5_matrices 56 = .ok (.iload 5, 2) := by decide +kernel
theorem dX5_matrices_58 : decode cX5_matrices 58 = .ok (.iload_n 2, 1) := by decide +kernel
theorem dX5_matrices_59 : decode cX5_matrices 59 = .ok (.imul, 1) := by decide +kernel
theorem dX5_matrices_60 : decode cX5_matrices 60 = .ok (.iload 6, 2) := by decide +kernel
theorem dX5_matrices_62 : decode cX5_matrices 62 = .ok (.iadd, 1) := by decide +kernel
theorem dX5_matrices_63 : decode cX5_matrices 63 = .ok (.iload 6, 2) := by decide +kernel
theorem dX5_matrices_65 : decode cX5_matrices 65 = .ok (.iload_n 3, 1) := by decide +kernel
theorem dX5_matrices_66 : decode cX5_matrices 66 = .ok (.imul, 1) := by decide +kernel
theorem dX5_matrices_67 : decode cX5_matrices 67 = .ok (.iload 7, 2) := by decide +kernel
theorem dX5_matrices_69 : decode cX5_matrices 69 = .ok (.iadd, 1) := by decide +kernel
theorem dX5_matrices_70 : decode cX5_matrices 70 = .ok (.iload 5, 2) := by decide +kernel
theorem dX5_matrices_72 : decode cX5_matrices 72 = .ok (.iload_n 3, 1) := by decide +kernel
theorem dX5_matrices_73 : decode cX5_matrices 73 = .ok (.imul, 1) := by decide +kernel
theorem dX5_matrices_74 : decode cX5_matrices 74 = .ok (.iload 7, 2) := by decide +kernel
theorem dX5_matrices_76 : decode cX5_matrices 76 = .ok (.iadd, 1) := by decide +kernel
theorem dX5_matrices_77 : decode cX5_matrices 77 = .ok (.iconst 1, 1) := by decide +kernel
theorem dX5_matrices_78 : decode cX5_matrices 78 = .ok (.invokevirtual 76, 3) := by decide +kernel
theorem dX5_matrices_81 : decode cX5_matrices 81 = .ok (.iinc 7 1, 3) := by decide +kernel
theorem dX5_matrices_84 : decode cX5_matrices 84 = .ok (.goto (-36), 3) := by decide +kernel
theorem dX5_matrices_87 : decode cX5_matrices 87 = .ok (.iinc 6 1, 3) := by decide +kernel
theorem dX5_matrices_90 : decode cX5_matrices 90 = .ok (.goto (-51), 3) := by decide +kernel
theorem dX5_matrices_93 : decode cX5_matrices 93 = .ok (.iinc 5 1, 3) := by decide +kernel
theorem dX5_matrices_96 : decode cX5_matrices 96 = .ok (.goto (-66), 3) := by decide +kernel
theorem dX5_matrices_99 : decode cX5_matrices 99 = .ok (.aload 4, 2) := by decide +kernel
theorem dX5_matrices_101 : decode cX5_matrices 101 = .ok (.iload_n 1, 1) := by decide +kernel
theorem dX5_matrices_102 : decode cX5_matrices 102 = .ok (.iload_n 2, 1) := by decide +kernel
theorem dX5_matrices_103 : decode cX5_matrices 103 = .ok (.if_icmp .ne 12, 3) := by decide +kernel
theorem dX5_matrices_106 : decode cX5_matrices 106 = .ok (.iload_n 2, 1) := by decide +kernel
theorem dX5_matrices_107 : decode cX5_matrices 107 = .ok (.iload_n 3, 1) := by decide +kernel
theorem dX5_matrices_108 : decode cX5_matrices 108 = .ok (.if_icmp .ne 7, 3) := by decide +kernel
theorem dX5_matrices_111 : decode cX5_matrices 111 = .ok (.iload_n 1, 1) := by decide +kernel
theorem dX5_matrices_112 : decode cX5_matrices 112 = .ok (.goto 4, 3) := by decide +kernel
theorem dX5_matrices_115 : decode cX5_matrices 115 = .ok (.iconst 0, 1) := by decide +kernel
theorem dX5_matrices_116 : decode cX5_matrices 116 = .ok (.putfield 80, 3) := by decide +kernel
theorem dX5_matrices_119 : decode cX5_matrices 119 = .ok (.aload_n 0, 1) := by decide +kernel
theorem dX5_matrices_120 : decode cX5_matrices 120 = .ok (.getfield 50, 3) := by decide +kernel
theorem dX5_matrices_123 : decode cX5_matrices 123 = .ok (.iconst 1, 1) := by decide +kernel
theorem dX5_matrices_124 : decode cX5_matrices 124 = .ok (.isub, 1) := by decide +kernel
theorem dX5_matrices_125 : decode cX5_matrices 125 = .ok (.ireturn, 1) := by decide +kernel
abbrev rmX5_matrices : Room := { frames := 8, cells := 8, slots := 105, locals := 134 }
theorem zyX5_matrices : zyOK yX5_matrices 3 := ⟨by decide +kernel, by decide +kernel, by decide +kernel⟩
set_option maxHeartbeats 4000000 in
set_option maxRecDepth 100000 in
theorem wX5_matrices {G : ZG} (a0 : Nat) (a1 : Int32) (a2 : Int32) (a3 : Int32) (S : ZS) (h0 : zFix G cX5_matrices RX5 8 (some .int) rmX5_matrices) (C : Option ((Int32 × ZS) ⊕ ZX) → Prop) (hC : ¬ C none) (hnt : zNoTab G) (hE : ∀ (v : Int32) (S1 : ZS), C (some (.inl (v, S1))) → zEndT G (some (.int v)) S1 rmX5_matrices) (hEx : ∀ (E : String) (h : ZH), C (some (.inr (E, h))) → zEndX G E h rmX5_matrices) : zV G 8 S 0 0 0 [(0, .ref a0), (1, .int a1), (2, .int a2), (3, .int a3)] [] (C (fX5_matrices a0 a1 a2 a3 S)) := by
  have J116 : ∀ (l0 : Nat) (s0 : Nat) (s1 : Int32) (S9 : ZS), zV G 8 S9 8 105 116 [(0, .ref l0)] [.int s1, .ref s0] (C (fX5_matrices_J116 l0 s0 s1 S9)) := by
    intro l0 s0 s1 S9
    unfold fX5_matrices_J116
    refine zr_putF C hC h0 zcX0 (k := 4) (by decide) zw_232 rfl rfl rfl dX5_matrices_116 (n := 119) rfl (fun S11 => ?_)
    refine zr_aload_n h0 dX5_matrices_119 rfl (n := 120) rfl ?_
    refine zr_getI C hC h0 zcX5 (k := 7) (by decide) zw_82 dX5_matrices_120 (n := 123) rfl (fun v12 => ?_)
    refine zr_iconst (1 : Int32) h0 (by decide) dX5_matrices_123 (n := 124) rfl ?_
    refine zr_isub h0 dX5_matrices_124 (n := 125) rfl ?_
    exact zr_iretT h0 rfl dX5_matrices_125 (hE _ _) (by decide) (by decide)
  have J115 : ∀ (l0 : Nat) (s0 : Nat) (S9 : ZS), zV G 8 S9 8 105 115 [(0, .ref l0)] [.ref s0] (C (fX5_matrices_J115 l0 s0 S9)) := by
    intro l0 s0 S9
    unfold fX5_matrices_J115
    refine zr_iconst (0 : Int32) h0 (by decide) dX5_matrices_115 (n := 116) rfl ?_
    exact J116 l0 s0 (0 : Int32) S9
  unfold fX5_matrices
  refine zr_iload_n h0 dX5_matrices_0 rfl (n := 1) rfl ?_
  refine zr_cTV C hC 1 6 h0 (fun x hx => zk_ST h0 (fun l D z0 hlt => kX5_needSize l D z0 hlt a1 S x hx) hnt zw_207 zw_208 zw_1 zw_209 zyX5_needSize (As := [.int a1]) (st := []) rfl (by decide) rfl (Nat.le_of_ble_eq_true rfl) (by decide) dX5_matrices_1) hnt rfl rfl (by decide) (by decide) (n := 4) rfl (fun z h => hEx _ _ h) (fun x1 => ?_)
  refine zr_iload_n h0 dX5_matrices_4 rfl (n := 5) rfl ?_
  refine zr_cTV C hC 2 12 h0 (fun x hx => zk_ST h0 (fun l D z0 hlt => kX5_needSize l D z0 hlt a2 x1.2 x hx) hnt zw_207 zw_208 zw_1 zw_209 zyX5_needSize (As := [.int a2]) (st := []) rfl (by decide) rfl (Nat.le_of_ble_eq_true rfl) (by decide) dX5_matrices_5) hnt rfl rfl (by decide) (by decide) (n := 8) rfl (fun z h => hEx _ _ h) (fun x2 => ?_)
  refine zr_iload_n h0 dX5_matrices_8 rfl (n := 9) rfl ?_
  refine zr_cTV C hC 3 18 h0 (fun x hx => zk_ST h0 (fun l D z0 hlt => kX5_needSize l D z0 hlt a3 x2.2 x hx) hnt zw_207 zw_208 zw_1 zw_209 zyX5_needSize (As := [.int a3]) (st := []) rfl (by decide) rfl (Nat.le_of_ble_eq_true rfl) (by decide) dX5_matrices_9) hnt rfl rfl (by decide) (by decide) (n := 12) rfl (fun z h => hEx _ _ h) (fun x3 => ?_)
  refine zr_aload_n h0 dX5_matrices_12 rfl (n := 13) rfl ?_
  refine zr_iload_n h0 dX5_matrices_13 rfl (n := 14) rfl ?_
  refine zr_iload_n h0 dX5_matrices_14 rfl (n := 15) rfl ?_
  refine zr_imul h0 dX5_matrices_15 (n := 16) rfl ?_
  refine zr_iload_n h0 dX5_matrices_16 rfl (n := 17) rfl ?_
  refine zr_iload_n h0 dX5_matrices_17 rfl (n := 18) rfl ?_
  refine zr_imul h0 dX5_matrices_18 (n := 19) rfl ?_
  refine zr_iload_n h0 dX5_matrices_19 rfl (n := 20) rfl ?_
  refine zr_iload_n h0 dX5_matrices_20 rfl (n := 21) rfl ?_
  refine zr_imul h0 dX5_matrices_21 (n := 22) rfl ?_
  refine zr_cTR C hC 8 105 h0 (fun x hx => zk_VT h0 zcX5 (zcl_ex hx) (fun l D z0 hlt => kX5_addCube l D z0 hlt a0 (a1 * a2) (a2 * a3) (a1 * a3) x3.2 x (zcl_of hx)) hnt zw_203 zw_205 zs_1 zw_1 zw_206 rfl zyX5_addCube (As := [.int (a1 * a2), .int (a2 * a3), .int (a1 * a3)]) (st := []) rfl (by decide) rfl (Nat.le_of_ble_eq_true rfl) (by decide) dX5_matrices_22) hnt rfl rfl (by decide) (by decide) (n := 25) rfl (fun z h => hEx _ _ h) (fun x4 => ?_)
  refine zr_astore [(0, .ref a0), (1, .int a1), (2, .int a2), (3, .int a3), (4, .ref x4.1)] h0 dX5_matrices_25 (by decide) rfl (n := 27) rfl ?_
  refine zr_iconst (0 : Int32) h0 (by decide) dX5_matrices_27 (n := 28) rfl ?_
  refine zr_istore [(0, .ref a0), (1, .int a1), (2, .int a2), (3, .int a3), (4, .ref x4.1), (5, .int (0 : Int32))] h0 dX5_matrices_28 (by decide) rfl (n := 30) rfl ?_
  refine zr_loop hC (fX5_matrices_B30 a0 a1 a2 a3 x4.1) (fun y => [(0, .ref a0), (1, .int a1), (2, .int a2), (3, .int a3), (4, .ref x4.1), (5, .int y.1)]) (fun y => y.2) zF ((0 : Int32), x4.2) (fun C30 hC30 hX30 hL30 t30 => ?_)
  unfold fX5_matrices_B30
  refine zr_iload h0 dX5_matrices_30 rfl (n := 32) rfl ?_
  refine zr_iload_n h0 dX5_matrices_32 rfl (n := 33) rfl ?_
  refine zr_icmp_ge C30 (tgt := 99) h0 dX5_matrices_33 (by decide) (n := 36) rfl ?_ ?_
  · refine zr_ex hX30 ?_
    refine zv_sub (lv' := [(0, .ref a0), (1, .int a1), (2, .int a2), (3, .int a3), (4, .ref x4.1)]) ?_ (zsub_of [0, 1, 2, 3, 4] rfl)
    refine zr_aload h0 dX5_matrices_99 rfl (n := 101) rfl ?_
    refine zr_iload_n h0 dX5_matrices_101 rfl (n := 102) rfl ?_
    refine zr_iload_n h0 dX5_matrices_102 rfl (n := 103) rfl ?_
    refine zr_icmp_ne C (tgt := 115) h0 dX5_matrices_103 (by decide) (n := 106) rfl ?_ ?_
    · refine zv_sub (lv' := [(0, .ref a0), (1, .int a1), (2, .int a2), (3, .int a3)]) ?_ (zsub_of [0, 1, 2, 3] rfl)
      refine zr_iload_n h0 dX5_matrices_106 rfl (n := 107) rfl ?_
      refine zr_iload_n h0 dX5_matrices_107 rfl (n := 108) rfl ?_
      refine zr_icmp_ne C (tgt := 115) h0 dX5_matrices_108 (by decide) (n := 111) rfl ?_ ?_
      · refine zv_sub (lv' := [(0, .ref a0), (1, .int a1)]) ?_ (zsub_of [0, 1] rfl)
        refine zr_iload_n h0 dX5_matrices_111 rfl (n := 112) rfl ?_
        refine zr_goto (tgt := 116) h0 dX5_matrices_112 (by decide) ?_
        refine zv_sub (lv' := [(0, .ref a0)]) ?_ (zsub_of [0] rfl)
        exact J116 a0 x4.1 a1 t30.2
      · refine zv_sub (lv' := [(0, .ref a0)]) ?_ (zsub_of [0] rfl)
        exact J115 a0 x4.1 t30.2
    · refine zv_sub (lv' := [(0, .ref a0)]) ?_ (zsub_of [0] rfl)
      exact J115 a0 x4.1 t30.2
  · refine zr_iconst (0 : Int32) h0 (by decide) dX5_matrices_36 (n := 37) rfl ?_
    refine zr_istore [(0, .ref a0), (1, .int a1), (2, .int a2), (3, .int a3), (4, .ref x4.1), (5, .int t30.1), (6, .int (0 : Int32))] h0 dX5_matrices_37 (by decide) rfl (n := 39) rfl ?_
    refine zr_loop hC30 (fX5_matrices_B39 a0 a1 a2 a3 x4.1 t30.1) (fun y => [(0, .ref a0), (1, .int a1), (2, .int a2), (3, .int a3), (4, .ref x4.1), (5, .int t30.1), (6, .int y.1)]) (fun y => y.2) zF ((0 : Int32), t30.2) (fun C39 hC39 hX39 hL39 t39 => ?_)
    unfold fX5_matrices_B39
    refine zr_iload h0 dX5_matrices_39 rfl (n := 41) rfl ?_
    refine zr_iload_n h0 dX5_matrices_41 rfl (n := 42) rfl ?_
    refine zr_icmp_ge C39 (tgt := 93) h0 dX5_matrices_42 (by decide) (n := 45) rfl ?_ ?_
    · refine zr_ex hX39 ?_
      refine zv_sub (lv' := [(0, .ref a0), (1, .int a1), (2, .int a2), (3, .int a3), (4, .ref x4.1), (5, .int t30.1)]) ?_ (zsub_of [0, 1, 2, 3, 4, 5] rfl)
      refine zr_iinc (1 : Int32) [(0, .ref a0), (1, .int a1), (2, .int a2), (3, .int a3), (4, .ref x4.1), (5, .int (t30.1 + (1 : Int32)))] h0 dX5_matrices_93 rfl (by decide) rfl rfl (n := 96) rfl ?_
      refine zr_goto (tgt := 30) h0 dX5_matrices_96 (by decide) ?_
      exact hL30 (t30.1 + (1 : Int32), t39.2)
    · refine zr_iconst (0 : Int32) h0 (by decide) dX5_matrices_45 (n := 46) rfl ?_
      refine zr_istore [(0, .ref a0), (1, .int a1), (2, .int a2), (3, .int a3), (4, .ref x4.1), (5, .int t30.1), (6, .int t39.1), (7, .int (0 : Int32))] h0 dX5_matrices_46 (by decide) rfl (n := 48) rfl ?_
      refine zr_loop hC39 (fX5_matrices_B48 a0 a1 a2 a3 x4.1 t30.1 t39.1) (fun y => [(0, .ref a0), (1, .int a1), (2, .int a2), (3, .int a3), (4, .ref x4.1), (5, .int t30.1), (6, .int t39.1), (7, .int y.1)]) (fun y => y.2) zF ((0 : Int32), t39.2) (fun C48 hC48 hX48 hL48 t48 => ?_)
      unfold fX5_matrices_B48
      refine zr_iload h0 dX5_matrices_48 rfl (n := 50) rfl ?_
      refine zr_iload_n h0 dX5_matrices_50 rfl (n := 51) rfl ?_
      refine zr_icmp_ge C48 (tgt := 87) h0 dX5_matrices_51 (by decide) (n := 54) rfl ?_ ?_
      · refine zr_ex hX48 ?_
        refine zv_sub (lv' := [(0, .ref a0), (1, .int a1), (2, .int a2), (3, .int a3), (4, .ref x4.1), (5, .int t30.1), (6, .int t39.1)]) ?_ (zsub_of [0, 1, 2, 3, 4, 5, 6] rfl)
        refine zr_iinc (1 : Int32) [(0, .ref a0), (1, .int a1), (2, .int a2), (3, .int a3), (4, .ref x4.1), (5, .int t30.1), (6, .int (t39.1 + (1 : Int32)))] h0 dX5_matrices_87 rfl (by decide) rfl rfl (n := 90) rfl ?_
        refine zr_goto (tgt := 39) h0 dX5_matrices_90 (by decide) ?_
        exact hL39 (t39.1 + (1 : Int32), t48.2)
      · refine zr_aload h0 dX5_matrices_54 rfl (n := 56) rfl ?_
        refine zr_iload h0 dX5_matrices_56 rfl (n := 58) rfl ?_
        refine zr_iload_n h0 dX5_matrices_58 rfl (n := 59) rfl ?_
        refine zr_imul h0 dX5_matrices_59 (n := 60) rfl ?_
        refine zr_iload h0 dX5_matrices_60 rfl (n := 62) rfl ?_
        refine zr_iadd h0 dX5_matrices_62 (n := 63) rfl ?_
        refine zr_iload h0 dX5_matrices_63 rfl (n := 65) rfl ?_
        refine zr_iload_n h0 dX5_matrices_65 rfl (n := 66) rfl ?_
        refine zr_imul h0 dX5_matrices_66 (n := 67) rfl ?_
        refine zr_iload h0 dX5_matrices_67 rfl (n := 69) rfl ?_
        refine zr_iadd h0 dX5_matrices_69 (n := 70) rfl ?_
        refine zr_iload h0 dX5_matrices_70 rfl (n := 72) rfl ?_
        refine zr_iload_n h0 dX5_matrices_72 rfl (n := 73) rfl ?_
        refine zr_imul h0 dX5_matrices_73 (n := 74) rfl ?_
        refine zr_iload h0 dX5_matrices_74 rfl (n := 76) rfl ?_
        refine zr_iadd h0 dX5_matrices_76 (n := 77) rfl ?_
        refine zr_iconst (1 : Int32) h0 (by decide) dX5_matrices_77 (n := 78) rfl ?_
        refine zr_cMV C48 hC48 8 105 (fun x hx => zk_V h0 zcX0 (zcl_ex hx) (fun l D z0 => kX0_enter l D z0 x4.1 ((t30.1 * a2) + t39.1) ((t39.1 * a3) + t48.1) ((t30.1 * a3) + t48.1) (1 : Int32) t48.2 x (zcl_of hx)) zw_251 zw_252 zw_253 zw_11 zw_254 rfl zyX0_enter (As := [.int ((t30.1 * a2) + t39.1), .int ((t39.1 * a3) + t48.1), .int ((t30.1 * a3) + t48.1), .int (1 : Int32)]) (st := []) rfl (by decide) rfl (Nat.le_of_ble_eq_true rfl) (by decide) dX5_matrices_78) rfl rfl (n := 81) rfl (fun x10 => ?_)
        refine zr_iinc (1 : Int32) [(0, .ref a0), (1, .int a1), (2, .int a2), (3, .int a3), (4, .ref x4.1), (5, .int t30.1), (6, .int t39.1), (7, .int (t48.1 + (1 : Int32)))] h0 dX5_matrices_81 rfl (by decide) rfl rfl (n := 84) rfl ?_
        refine zr_goto (tgt := 48) h0 dX5_matrices_84 (by decide) ?_
        exact hL48 (t48.1 + (1 : Int32), x10)
theorem kX5_matrices (l : Launch) (D : ZD) (z0 : Nat) (hlt : l.stackTraces = false) (a0 : Nat) (a1 : Int32) (a2 : Int32) (a3 : Int32) (S : ZS) (x : ((Int32 × ZS) ⊕ ZX)) (hf : fX5_matrices a0 a1 a2 a3 S = some x) : zMetT l D z0 yX5_matrices cX5_matrices 8 (some .int) rmX5_matrices [.ref a0, .int a1, .int a2, .int a3] S (x.map (fun y => ((some (.int y.1)), y.2)) id) :=
  zMetT_of hlt (by decide) (Nat.le_of_ble_eq_true rfl) (fun G h0 hnt hE hEx => wX5_matrices a0 a1 a2 a3 S h0 (fun o => o = some x) (fun h => nomatch h) hnt (fun v S1 h => by cases h; exact hE _ _ rfl) (fun E h hh => by cases hh; exact hEx _ _ rfl)) hf
theorem dX5_polynomials_0 : decode cX5_polynomials 0 = .ok (.iload_n 1, 1) := by decide +kernel
theorem dX5_polynomials_1 : decode cX5_polynomials 1 = .ok (.invokestatic 72, 3) := by decide +kernel
theorem dX5_polynomials_4 : decode cX5_polynomials 4 = .ok (.iload_n 2, 1) := by decide +kernel
theorem dX5_polynomials_5 : decode cX5_polynomials 5 = .ok (.invokestatic 72, 3) := by decide +kernel
theorem dX5_polynomials_8 : decode cX5_polynomials 8 = .ok (.aload_n 0, 1) := by decide +kernel
theorem dX5_polynomials_9 : decode cX5_polynomials 9 = .ok (.iload_n 1, 1) := by decide +kernel
theorem dX5_polynomials_10 : decode cX5_polynomials 10 = .ok (.iload_n 2, 1) := by decide +kernel
theorem dX5_polynomials_11 : decode cX5_polynomials 11 = .ok (.iload_n 1, 1) := by decide +kernel
theorem dX5_polynomials_12 : decode cX5_polynomials 12 = .ok (.iload_n 2, 1) := by decide +kernel
theorem dX5_polynomials_13 : decode cX5_polynomials 13 = .ok (.iadd, 1) := by decide +kernel
theorem dX5_polynomials_14 : decode cX5_polynomials 14 = .ok (.iconst 1, 1) := by decide +kernel
theorem dX5_polynomials_15 : decode cX5_polynomials 15 = .ok (.isub, 1) := by decide +kernel
theorem dX5_polynomials_16 : decode cX5_polynomials 16 = .ok (.invokevirtual 68, 3) := by decide +kernel
theorem dX5_polynomials_19 : decode cX5_polynomials 19 = .ok (.astore_n 3, 1) := by decide +kernel
theorem dX5_polynomials_20 : decode cX5_polynomials 20 = .ok (.iconst 0, 1) := by decide +kernel
theorem dX5_polynomials_21 : decode cX5_polynomials 21 = .ok (.istore 4, 2) := by decide +kernel
theorem dX5_polynomials_23 : decode cX5_polynomials 23 = .ok (.iload 4, 2) := by decide +kernel
theorem dX5_polynomials_25 : decode cX5_polynomials 25 = .ok (.iload_n 1, 1) := by decide +kernel
theorem dX5_polynomials_26 : decode cX5_polynomials 26 = .ok (.if_icmp .ge 38, 3) := by decide +kernel
theorem dX5_polynomials_29 : decode cX5_polynomials 29 = .ok (.iconst 0, 1) := by decide +kernel
theorem dX5_polynomials_30 : decode cX5_polynomials 30 = .ok (.istore 5, 2) := by decide +kernel
theorem dX5_polynomials_32 : decode cX5_polynomials 32 = .ok (.iload 5, 2) := by decide +kernel
theorem dX5_polynomials_34 : decode cX5_polynomials 34 = .ok (.iload_n 2, 1) := by decide +kernel
theorem dX5_polynomials_35 : decode cX5_polynomials 35 = .ok (.if_icmp .ge 23, 3) := by decide +kernel
theorem dX5_polynomials_38 : decode cX5_polynomials 38 = .ok (.aload_n 3, 1) := by decide +kernel
theorem dX5_polynomials_39 : decode cX5_polynomials 39 = .ok (.iload 4, 2) := by decide +kernel
theorem dX5_polynomials_41 : decode cX5_polynomials 41 = .ok (.iload 5, 2) := by decide +kernel
theorem dX5_polynomials_43 : decode cX5_polynomials 43 = .ok (.iload 4, 2) := by decide +kernel
theorem dX5_polynomials_45 : decode cX5_polynomials 45 = .ok (.iload 5, 2) := by decide +kernel
theorem dX5_polynomials_47 : decode cX5_polynomials 47 = .ok (.iadd, 1) := by decide +kernel
theorem dX5_polynomials_48 : decode cX5_polynomials 48 = .ok (.iconst 1, 1) := by decide +kernel
theorem dX5_polynomials_49 : decode cX5_polynomials 49 = .ok (.invokevirtual 76, 3) := by decide +kernel
theorem dX5_polynomials_52 : decode cX5_polynomials 52 = .ok (.iinc 5 1, 3) := by decide +kernel
theorem dX5_polynomials_55 : decode cX5_polynomials 55 = .ok (.goto (-23), 3) := by decide +kernel
theorem dX5_polynomials_58 : decode cX5_polynomials 58 = .ok (.iinc 4 1, 3) := by decide +kernel
theorem dX5_polynomials_61 : decode cX5_polynomials 61 = .ok (.goto (-38), 3) := by decide +kernel
theorem dX5_polynomials_64 : decode cX5_polynomials 64 = .ok (.aload_n 0, 1) := by decide +kernel
theorem dX5_polynomials_65 : decode cX5_polynomials 65 = .ok (.getfield 50, 3) := by decide +kernel
theorem dX5_polynomials_68 : decode cX5_polynomials 68 = .ok (.iconst 1, 1) := by decide +kernel
theorem dX5_polynomials_69 : decode cX5_polynomials 69 = .ok (.isub, 1) := by decide +kernel
theorem dX5_polynomials_70 : decode cX5_polynomials 70 = .ok (.ireturn, 1) := by decide +kernel
abbrev rmX5_polynomials : Room := { frames := 8, cells := 7, slots := 99, locals := 134 }
theorem zyX5_polynomials : zyOK yX5_polynomials 2 := ⟨by decide +kernel, by decide +kernel, by decide +kernel⟩
set_option maxHeartbeats 4000000 in
set_option maxRecDepth 100000 in
theorem wX5_polynomials {G : ZG} (a0 : Nat) (a1 : Int32) (a2 : Int32) (S : ZS) (h0 : zFix G cX5_polynomials RX5 6 (some .int) rmX5_polynomials) (C : Option ((Int32 × ZS) ⊕ ZX) → Prop) (hC : ¬ C none) (hnt : zNoTab G) (hE : ∀ (v : Int32) (S1 : ZS), C (some (.inl (v, S1))) → zEndT G (some (.int v)) S1 rmX5_polynomials) (hEx : ∀ (E : String) (h : ZH), C (some (.inr (E, h))) → zEndX G E h rmX5_polynomials) : zV G 6 S 0 0 0 [(0, .ref a0), (1, .int a1), (2, .int a2)] [] (C (fX5_polynomials a0 a1 a2 S)) := by
  unfold fX5_polynomials
  refine zr_iload_n h0 dX5_polynomials_0 rfl (n := 1) rfl ?_
  refine zr_cTV C hC 1 6 h0 (fun x hx => zk_ST h0 (fun l D z0 hlt => kX5_needSize l D z0 hlt a1 S x hx) hnt zw_207 zw_208 zw_1 zw_209 zyX5_needSize (As := [.int a1]) (st := []) rfl (by decide) rfl (Nat.le_of_ble_eq_true rfl) (by decide) dX5_polynomials_1) hnt rfl rfl (by decide) (by decide) (n := 4) rfl (fun z h => hEx _ _ h) (fun x1 => ?_)
  refine zr_iload_n h0 dX5_polynomials_4 rfl (n := 5) rfl ?_
  refine zr_cTV C hC 2 12 h0 (fun x hx => zk_ST h0 (fun l D z0 hlt => kX5_needSize l D z0 hlt a2 x1.2 x hx) hnt zw_207 zw_208 zw_1 zw_209 zyX5_needSize (As := [.int a2]) (st := []) rfl (by decide) rfl (Nat.le_of_ble_eq_true rfl) (by decide) dX5_polynomials_5) hnt rfl rfl (by decide) (by decide) (n := 8) rfl (fun z h => hEx _ _ h) (fun x2 => ?_)
  refine zr_aload_n h0 dX5_polynomials_8 rfl (n := 9) rfl ?_
  refine zr_iload_n h0 dX5_polynomials_9 rfl (n := 10) rfl ?_
  refine zr_iload_n h0 dX5_polynomials_10 rfl (n := 11) rfl ?_
  refine zr_iload_n h0 dX5_polynomials_11 rfl (n := 12) rfl ?_
  refine zr_iload_n h0 dX5_polynomials_12 rfl (n := 13) rfl ?_
  refine zr_iadd h0 dX5_polynomials_13 (n := 14) rfl ?_
  refine zr_iconst (1 : Int32) h0 (by decide) dX5_polynomials_14 (n := 15) rfl ?_
  refine zr_isub h0 dX5_polynomials_15 (n := 16) rfl ?_
  refine zr_cTR C hC 7 99 h0 (fun x hx => zk_VT h0 zcX5 (zcl_ex hx) (fun l D z0 hlt => kX5_addCube l D z0 hlt a0 a1 a2 ((a1 + a2) - (1 : Int32)) x2.2 x (zcl_of hx)) hnt zw_203 zw_205 zs_1 zw_1 zw_206 rfl zyX5_addCube (As := [.int a1, .int a2, .int ((a1 + a2) - (1 : Int32))]) (st := []) rfl (by decide) rfl (Nat.le_of_ble_eq_true rfl) (by decide) dX5_polynomials_16) hnt rfl rfl (by decide) (by decide) (n := 19) rfl (fun z h => hEx _ _ h) (fun x3 => ?_)
  refine zr_astore_n [(0, .ref a0), (1, .int a1), (2, .int a2), (3, .ref x3.1)] h0 dX5_polynomials_19 (by decide) rfl (n := 20) rfl ?_
  refine zr_iconst (0 : Int32) h0 (by decide) dX5_polynomials_20 (n := 21) rfl ?_
  refine zr_istore [(0, .ref a0), (1, .int a1), (2, .int a2), (3, .ref x3.1), (4, .int (0 : Int32))] h0 dX5_polynomials_21 (by decide) rfl (n := 23) rfl ?_
  refine zr_loop hC (fX5_polynomials_B23 a0 a1 a2 x3.1) (fun y => [(0, .ref a0), (1, .int a1), (2, .int a2), (3, .ref x3.1), (4, .int y.1)]) (fun y => y.2) zF ((0 : Int32), x3.2) (fun C23 hC23 hX23 hL23 t23 => ?_)
  unfold fX5_polynomials_B23
  refine zr_iload h0 dX5_polynomials_23 rfl (n := 25) rfl ?_
  refine zr_iload_n h0 dX5_polynomials_25 rfl (n := 26) rfl ?_
  refine zr_icmp_ge C23 (tgt := 64) h0 dX5_polynomials_26 (by decide) (n := 29) rfl ?_ ?_
  · refine zr_ex hX23 ?_
    refine zv_sub (lv' := [(0, .ref a0)]) ?_ (zsub_of [0] rfl)
    refine zr_aload_n h0 dX5_polynomials_64 rfl (n := 65) rfl ?_
    refine zr_getI C hC h0 zcX5 (k := 7) (by decide) zw_82 dX5_polynomials_65 (n := 68) rfl (fun v7 => ?_)
    refine zr_iconst (1 : Int32) h0 (by decide) dX5_polynomials_68 (n := 69) rfl ?_
    refine zr_isub h0 dX5_polynomials_69 (n := 70) rfl ?_
    exact zr_iretT h0 rfl dX5_polynomials_70 (hE _ _) (by decide) (by decide)
  · refine zr_iconst (0 : Int32) h0 (by decide) dX5_polynomials_29 (n := 30) rfl ?_
    refine zr_istore [(0, .ref a0), (1, .int a1), (2, .int a2), (3, .ref x3.1), (4, .int t23.1), (5, .int (0 : Int32))] h0 dX5_polynomials_30 (by decide) rfl (n := 32) rfl ?_
    refine zr_loop hC23 (fX5_polynomials_B32 a0 a1 a2 x3.1 t23.1) (fun y => [(0, .ref a0), (1, .int a1), (2, .int a2), (3, .ref x3.1), (4, .int t23.1), (5, .int y.1)]) (fun y => y.2) zF ((0 : Int32), t23.2) (fun C32 hC32 hX32 hL32 t32 => ?_)
    unfold fX5_polynomials_B32
    refine zr_iload h0 dX5_polynomials_32 rfl (n := 34) rfl ?_
    refine zr_iload_n h0 dX5_polynomials_34 rfl (n := 35) rfl ?_
    refine zr_icmp_ge C32 (tgt := 58) h0 dX5_polynomials_35 (by decide) (n := 38) rfl ?_ ?_
    · refine zr_ex hX32 ?_
      refine zv_sub (lv' := [(0, .ref a0), (1, .int a1), (2, .int a2), (3, .ref x3.1), (4, .int t23.1)]) ?_ (zsub_of [0, 1, 2, 3, 4] rfl)
      refine zr_iinc (1 : Int32) [(0, .ref a0), (1, .int a1), (2, .int a2), (3, .ref x3.1), (4, .int (t23.1 + (1 : Int32)))] h0 dX5_polynomials_58 rfl (by decide) rfl rfl (n := 61) rfl ?_
      refine zr_goto (tgt := 23) h0 dX5_polynomials_61 (by decide) ?_
      exact hL23 (t23.1 + (1 : Int32), t32.2)
    · refine zr_aload_n h0 dX5_polynomials_38 rfl (n := 39) rfl ?_
      refine zr_iload h0 dX5_polynomials_39 rfl (n := 41) rfl ?_
      refine zr_iload h0 dX5_polynomials_41 rfl (n := 43) rfl ?_
      refine zr_iload h0 dX5_polynomials_43 rfl (n := 45) rfl ?_
      refine zr_iload h0 dX5_polynomials_45 rfl (n := 47) rfl ?_
      refine zr_iadd h0 dX5_polynomials_47 (n := 48) rfl ?_
      refine zr_iconst (1 : Int32) h0 (by decide) dX5_polynomials_48 (n := 49) rfl ?_
      refine zr_cMV C32 hC32 7 99 (fun x hx => zk_V h0 zcX0 (zcl_ex hx) (fun l D z0 => kX0_enter l D z0 x3.1 t23.1 t32.1 (t23.1 + t32.1) (1 : Int32) t32.2 x (zcl_of hx)) zw_251 zw_252 zw_253 zw_11 zw_254 rfl zyX0_enter (As := [.int t23.1, .int t32.1, .int (t23.1 + t32.1), .int (1 : Int32)]) (st := []) rfl (by decide) rfl (Nat.le_of_ble_eq_true rfl) (by decide) dX5_polynomials_49) rfl rfl (n := 52) rfl (fun x8 => ?_)
      refine zr_iinc (1 : Int32) [(0, .ref a0), (1, .int a1), (2, .int a2), (3, .ref x3.1), (4, .int t23.1), (5, .int (t32.1 + (1 : Int32)))] h0 dX5_polynomials_52 rfl (by decide) rfl rfl (n := 55) rfl ?_
      refine zr_goto (tgt := 32) h0 dX5_polynomials_55 (by decide) ?_
      exact hL32 (t32.1 + (1 : Int32), x8)
theorem kX5_polynomials (l : Launch) (D : ZD) (z0 : Nat) (hlt : l.stackTraces = false) (a0 : Nat) (a1 : Int32) (a2 : Int32) (S : ZS) (x : ((Int32 × ZS) ⊕ ZX)) (hf : fX5_polynomials a0 a1 a2 S = some x) : zMetT l D z0 yX5_polynomials cX5_polynomials 6 (some .int) rmX5_polynomials [.ref a0, .int a1, .int a2] S (x.map (fun y => ((some (.int y.1)), y.2)) id) :=
  zMetT_of hlt (by decide) (Nat.le_of_ble_eq_true rfl) (fun G h0 hnt hE hEx => wX5_polynomials a0 a1 a2 S h0 (fun o => o = some x) (fun h => nomatch h) hnt (fun v S1 h => by cases h; exact hE _ _ rfl) (fun E h hh => by cases hh; exact hEx _ _ rfl)) hf
theorem dX5_remainder_0 : decode cX5_remainder 0 = .ok (.iload_n 1, 1) := by decide +kernel
theorem dX5_remainder_1 : decode cX5_remainder 1 = .ok (.ifCond .le 9, 3) := by decide +kernel
theorem dX5_remainder_4 : decode cX5_remainder 4 = .ok (.iload_n 0, 1) := by decide +kernel
theorem dX5_remainder_5 : decode cX5_remainder 5 = .ok (.iload_n 1, 1) := by decide +kernel
theorem dX5_remainder_6 : decode cX5_remainder 6 = .ok (.irem, 1) := by decide +kernel
theorem dX5_remainder_7 : decode cX5_remainder 7 = .ok (.goto 4, 3) := by decide +kernel
theorem dX5_remainder_10 : decode cX5_remainder 10 = .ok (.iconst 0, 1) := by decide +kernel
theorem dX5_remainder_11 : decode cX5_remainder 11 = .ok (.ireturn, 1) := by decide +kernel
abbrev rmX5_remainder : Room := { frames := 1, cells := 0, slots := 0, locals := 20 }
theorem zyX5_remainder : zyOK yX5_remainder 2 := ⟨by decide +kernel, by decide +kernel, by decide +kernel⟩
set_option maxHeartbeats 4000000 in
set_option maxRecDepth 100000 in
theorem wX5_remainder {G : ZG} (a0 : Int32) (a1 : Int32) (S : ZS) (h0 : zFix G cX5_remainder RX5 2 (some .int) rmX5_remainder) (C : Option Int32 → Prop) (hC : ¬ C none) (hE : ∀ v : Int32, C (some v) → zEnd G (some (.int v)) S rmX5_remainder) : zV G 2 S 0 0 0 [(0, .int a0), (1, .int a1)] [] (C (fX5_remainder a0 a1)) := by
  have J11 : ∀ (s0 : Int32), zV G 2 S 0 0 11 [] [.int s0] (C (fX5_remainder_J11 s0)) := by
    intro s0
    unfold fX5_remainder_J11
    exact zr_iret h0 rfl dX5_remainder_11 (hE _) (by decide) (by decide)
  unfold fX5_remainder
  refine zr_iload_n h0 dX5_remainder_0 rfl (n := 1) rfl ?_
  refine zr_if_le C (tgt := 10) h0 dX5_remainder_1 (by decide) (n := 4) rfl ?_ ?_
  · refine zv_sub (lv' := []) ?_ (zsub_of [] rfl)
    refine zr_iconst (0 : Int32) h0 (by decide) dX5_remainder_10 (n := 11) rfl ?_
    exact J11 (0 : Int32)
  · refine zr_iload_n h0 dX5_remainder_4 rfl (n := 5) rfl ?_
    refine zr_iload_n h0 dX5_remainder_5 rfl (n := 6) rfl ?_
    refine zr_irem C hC h0 dX5_remainder_6 (n := 7) rfl (fun v1 => ?_)
    refine zr_goto (tgt := 11) h0 dX5_remainder_7 (by decide) ?_
    refine zv_sub (lv' := []) ?_ (zsub_of [] rfl)
    exact J11 v1
theorem kX5_remainder (l : Launch) (D : ZD) (z0 : Nat) (a0 : Int32) (a1 : Int32) (S : ZS) (x : Int32) (hf : fX5_remainder a0 a1 = some x) : zMet l D z0 yX5_remainder cX5_remainder 2 (some .int) rmX5_remainder [.int a0, .int a1] S (some (.int x)) S :=
  zMet_of (by decide) (Nat.le_of_ble_eq_true rfl) (fun G h0 hini hE => wX5_remainder a0 a1 S h0 (fun o => o = some x) (fun h => nomatch h) (fun v h => by cases h; exact hE)) hf
theorem dX5_group_0 : decode cX5_group 0 = .ok (.aload_n 0, 1) := by decide +kernel
theorem dX5_group_1 : decode cX5_group 1 = .ok (.iload_n 1, 1) := by decide +kernel
theorem dX5_group_2 : decode cX5_group 2 = .ok (.iload_n 1, 1) := by decide +kernel
theorem dX5_group_3 : decode cX5_group 3 = .ok (.iload_n 1, 1) := by decide +kernel
theorem dX5_group_4 : decode cX5_group 4 = .ok (.invokevirtual 68, 3) := by decide +kernel
theorem dX5_group_7 : decode cX5_group 7 = .ok (.astore_n 2, 1) := by decide +kernel
theorem dX5_group_8 : decode cX5_group 8 = .ok (.iconst 0, 1) := by decide +kernel
theorem dX5_group_9 : decode cX5_group 9 = .ok (.istore_n 3, 1) := by decide +kernel
theorem dX5_group_10 : decode cX5_group 10 = .ok (.iload_n 3, 1) := by decide +kernel
theorem dX5_group_11 : decode cX5_group 11 = .ok (.iload_n 1, 1) := by decide +kernel
theorem dX5_group_12 : decode cX5_group 12 = .ok (.if_icmp .ge 40, 3) := by decide +kernel
theorem dX5_group_15 : decode cX5_group 15 = .ok (.iconst 0, 1) := by decide +kernel
theorem dX5_group_16 : decode cX5_group 16 = .ok (.istore 4, 2) := by decide +kernel
theorem dX5_group_18 : decode cX5_group 18 = .ok (.iload 4, 2) := by decide +kernel
theorem dX5_group_20 : decode cX5_group 20 = .ok (.iload_n 1, 1) := by decide +kernel
theorem dX5_group_21 : decode cX5_group 21 = .ok (.if_icmp .ge 25, 3) := by decide +kernel
theorem dX5_group_24 : decode cX5_group 24 = .ok (.aload_n 2, 1) := by decide +kernel
theorem dX5_group_25 : decode cX5_group 25 = .ok (.iload_n 3, 1) := by decide +kernel
theorem dX5_group_26 : decode cX5_group 26 = .ok (.iload 4, 2) := by decide +kernel
theorem dX5_group_28 : decode cX5_group 28 = .ok (.iload_n 3, 1) := by decide +kernel
theorem dX5_group_29 : decode cX5_group 29 = .ok (.iload 4, 2) := by decide +kernel
theorem dX5_group_31 : decode cX5_group 31 = .ok (.iadd, 1) := by decide +kernel
theorem dX5_group_32 : decode cX5_group 32 = .ok (.iload_n 1, 1) := by decide +kernel
theorem dX5_group_33 : decode cX5_group 33 = .ok (.invokestatic 83, 3) := by decide +kernel
theorem dX5_group_36 : decode cX5_group 36 = .ok (.iconst 1, 1) := by decide +kernel
theorem dX5_group_37 : decode cX5_group 37 = .ok (.invokevirtual 76, 3) := by decide +kernel
theorem dX5_group_40 : decode cX5_group 40 = .ok (.iinc 4 1, 3) := by decide +kernel
theorem dX5_group_43 : decode cX5_group 43 = .ok (.goto (-25), 3) := by decide +kernel
theorem dX5_group_46 : decode cX5_group 46 = .ok (.iinc 3 1, 3) := by decide +kernel
theorem dX5_group_49 : decode cX5_group 49 = .ok (.goto (-39), 3) := by decide +kernel
theorem dX5_group_52 : decode cX5_group 52 = .ok (.aload_n 0, 1) := by decide +kernel
theorem dX5_group_53 : decode cX5_group 53 = .ok (.getfield 50, 3) := by decide +kernel
theorem dX5_group_56 : decode cX5_group 56 = .ok (.iconst 1, 1) := by decide +kernel
theorem dX5_group_57 : decode cX5_group 57 = .ok (.isub, 1) := by decide +kernel
theorem dX5_group_58 : decode cX5_group 58 = .ok (.ireturn, 1) := by decide +kernel
abbrev rmX5_group : Room := { frames := 8, cells := 5, slots := 87, locals := 134 }
theorem zyX5_group : zyOK yX5_group 1 := ⟨by decide +kernel, by decide +kernel, by decide +kernel⟩
set_option maxHeartbeats 4000000 in
set_option maxRecDepth 100000 in
theorem wX5_group {G : ZG} (a0 : Nat) (a1 : Int32) (S : ZS) (h0 : zFix G cX5_group RX5 5 (some .int) rmX5_group) (C : Option ((Int32 × ZS) ⊕ ZX) → Prop) (hC : ¬ C none) (hnt : zNoTab G) (hE : ∀ (v : Int32) (S1 : ZS), C (some (.inl (v, S1))) → zEndT G (some (.int v)) S1 rmX5_group) (hEx : ∀ (E : String) (h : ZH), C (some (.inr (E, h))) → zEndX G E h rmX5_group) : zV G 5 S 0 0 0 [(0, .ref a0), (1, .int a1)] [] (C (fX5_group a0 a1 S)) := by
  unfold fX5_group
  refine zr_aload_n h0 dX5_group_0 rfl (n := 1) rfl ?_
  refine zr_iload_n h0 dX5_group_1 rfl (n := 2) rfl ?_
  refine zr_iload_n h0 dX5_group_2 rfl (n := 3) rfl ?_
  refine zr_iload_n h0 dX5_group_3 rfl (n := 4) rfl ?_
  refine zr_cTR C hC 5 87 h0 (fun x hx => zk_VT h0 zcX5 (zcl_ex hx) (fun l D z0 hlt => kX5_addCube l D z0 hlt a0 a1 a1 a1 S x (zcl_of hx)) hnt zw_203 zw_205 zs_1 zw_1 zw_206 rfl zyX5_addCube (As := [.int a1, .int a1, .int a1]) (st := []) rfl (by decide) rfl (Nat.le_of_ble_eq_true rfl) (by decide) dX5_group_4) hnt rfl rfl (by decide) (by decide) (n := 7) rfl (fun z h => hEx _ _ h) (fun x1 => ?_)
  refine zr_astore_n [(0, .ref a0), (1, .int a1), (2, .ref x1.1)] h0 dX5_group_7 (by decide) rfl (n := 8) rfl ?_
  refine zr_iconst (0 : Int32) h0 (by decide) dX5_group_8 (n := 9) rfl ?_
  refine zr_istore_n [(0, .ref a0), (1, .int a1), (2, .ref x1.1), (3, .int (0 : Int32))] h0 dX5_group_9 (by decide) rfl (n := 10) rfl ?_
  refine zr_loop hC (fX5_group_B10 a0 a1 x1.1) (fun y => [(0, .ref a0), (1, .int a1), (2, .ref x1.1), (3, .int y.1)]) (fun y => y.2) zF ((0 : Int32), x1.2) (fun C10 hC10 hX10 hL10 t10 => ?_)
  unfold fX5_group_B10
  refine zr_iload_n h0 dX5_group_10 rfl (n := 11) rfl ?_
  refine zr_iload_n h0 dX5_group_11 rfl (n := 12) rfl ?_
  refine zr_icmp_ge C10 (tgt := 52) h0 dX5_group_12 (by decide) (n := 15) rfl ?_ ?_
  · refine zr_ex hX10 ?_
    refine zv_sub (lv' := [(0, .ref a0)]) ?_ (zsub_of [0] rfl)
    refine zr_aload_n h0 dX5_group_52 rfl (n := 53) rfl ?_
    refine zr_getI C hC h0 zcX5 (k := 7) (by decide) zw_82 dX5_group_53 (n := 56) rfl (fun v7 => ?_)
    refine zr_iconst (1 : Int32) h0 (by decide) dX5_group_56 (n := 57) rfl ?_
    refine zr_isub h0 dX5_group_57 (n := 58) rfl ?_
    exact zr_iretT h0 rfl dX5_group_58 (hE _ _) (by decide) (by decide)
  · refine zr_iconst (0 : Int32) h0 (by decide) dX5_group_15 (n := 16) rfl ?_
    refine zr_istore [(0, .ref a0), (1, .int a1), (2, .ref x1.1), (3, .int t10.1), (4, .int (0 : Int32))] h0 dX5_group_16 (by decide) rfl (n := 18) rfl ?_
    refine zr_loop hC10 (fX5_group_B18 a0 a1 x1.1 t10.1) (fun y => [(0, .ref a0), (1, .int a1), (2, .ref x1.1), (3, .int t10.1), (4, .int y.1)]) (fun y => y.2) zF ((0 : Int32), t10.2) (fun C18 hC18 hX18 hL18 t18 => ?_)
    unfold fX5_group_B18
    refine zr_iload h0 dX5_group_18 rfl (n := 20) rfl ?_
    refine zr_iload_n h0 dX5_group_20 rfl (n := 21) rfl ?_
    refine zr_icmp_ge C18 (tgt := 46) h0 dX5_group_21 (by decide) (n := 24) rfl ?_ ?_
    · refine zr_ex hX18 ?_
      refine zv_sub (lv' := [(0, .ref a0), (1, .int a1), (2, .ref x1.1), (3, .int t10.1)]) ?_ (zsub_of [0, 1, 2, 3] rfl)
      refine zr_iinc (1 : Int32) [(0, .ref a0), (1, .int a1), (2, .ref x1.1), (3, .int (t10.1 + (1 : Int32)))] h0 dX5_group_46 rfl (by decide) rfl rfl (n := 49) rfl ?_
      refine zr_goto (tgt := 10) h0 dX5_group_49 (by decide) ?_
      exact hL10 (t10.1 + (1 : Int32), t18.2)
    · refine zr_aload_n h0 dX5_group_24 rfl (n := 25) rfl ?_
      refine zr_iload_n h0 dX5_group_25 rfl (n := 26) rfl ?_
      refine zr_iload h0 dX5_group_26 rfl (n := 28) rfl ?_
      refine zr_iload_n h0 dX5_group_28 rfl (n := 29) rfl ?_
      refine zr_iload h0 dX5_group_29 rfl (n := 31) rfl ?_
      refine zr_iadd h0 dX5_group_31 (n := 32) rfl ?_
      refine zr_iload_n h0 dX5_group_32 rfl (n := 33) rfl ?_
      refine zr_cRI C18 hC18 5 87 (fun x hx => zk_S h0 (fun l D z0 => kX5_remainder l D z0 (t10.1 + t18.1) a1 t18.2 x hx) zw_275 zw_276 zw_1 zw_277 zyX5_remainder (As := [.int (t10.1 + t18.1), .int a1]) (st := [.int t18.1, .int t10.1, .ref x1.1]) rfl (by decide) rfl (Nat.le_of_ble_eq_true rfl) (by decide) dX5_group_33) rfl rfl (n := 36) rfl (fun x8 => ?_)
      refine zr_iconst (1 : Int32) h0 (by decide) dX5_group_36 (n := 37) rfl ?_
      refine zr_cMV C18 hC18 5 87 (fun x hx => zk_V h0 zcX0 (zcl_ex hx) (fun l D z0 => kX0_enter l D z0 x1.1 t10.1 t18.1 x8 (1 : Int32) t18.2 x (zcl_of hx)) zw_251 zw_252 zw_253 zw_11 zw_254 rfl zyX0_enter (As := [.int t10.1, .int t18.1, .int x8, .int (1 : Int32)]) (st := []) rfl (by decide) rfl (Nat.le_of_ble_eq_true rfl) (by decide) dX5_group_37) rfl rfl (n := 40) rfl (fun x9 => ?_)
      refine zr_iinc (1 : Int32) [(0, .ref a0), (1, .int a1), (2, .ref x1.1), (3, .int t10.1), (4, .int (t18.1 + (1 : Int32)))] h0 dX5_group_40 rfl (by decide) rfl rfl (n := 43) rfl ?_
      refine zr_goto (tgt := 18) h0 dX5_group_43 (by decide) ?_
      exact hL18 (t18.1 + (1 : Int32), x9)
theorem kX5_group (l : Launch) (D : ZD) (z0 : Nat) (hlt : l.stackTraces = false) (a0 : Nat) (a1 : Int32) (S : ZS) (x : ((Int32 × ZS) ⊕ ZX)) (hf : fX5_group a0 a1 S = some x) : zMetT l D z0 yX5_group cX5_group 5 (some .int) rmX5_group [.ref a0, .int a1] S (x.map (fun y => ((some (.int y.1)), y.2)) id) :=
  zMetT_of hlt (by decide) (Nat.le_of_ble_eq_true rfl) (fun G h0 hnt hE hEx => wX5_group a0 a1 S h0 (fun o => o = some x) (fun h => nomatch h) hnt (fun v S1 h => by cases h; exact hE _ _ rfl) (fun E h hh => by cases hh; exact hEx _ _ rfl)) hf
theorem dX5_needCube_0 : decode cX5_needCube 0 = .ok (.iload_n 1, 1) := by decide +kernel
theorem dX5_needCube_1 : decode cX5_needCube 1 = .ok (.ifCond .lt 21, 3) := by decide +kernel
theorem dX5_needCube_4 : decode cX5_needCube 4 = .ok (.iload_n 1, 1) := by decide +kernel
theorem dX5_needCube_5 : decode cX5_needCube 5 = .ok (.aload_n 0, 1) := by decide +kernel
theorem dX5_needCube_6 : decode cX5_needCube 6 = .ok (.getfield 11, 3) := by decide +kernel
theorem dX5_needCube_9 : decode cX5_needCube 9 = .ok (.arraylength, 1) := by decide +kernel
theorem dX5_needCube_10 : decode cX5_needCube 10 = .ok (.if_icmp .ge 12, 3) := by decide +kernel
theorem dX5_needCube_13 : decode cX5_needCube 13 = .ok (.aload_n 0, 1) := by decide +kernel
theorem dX5_needCube_14 : decode cX5_needCube 14 = .ok (.getfield 11, 3) := by decide +kernel
theorem dX5_needCube_17 : decode cX5_needCube 17 = .ok (.iload_n 1, 1) := by decide +kernel
theorem dX5_needCube_18 : decode cX5_needCube 18 = .ok (.aaload, 1) := by decide +kernel
theorem dX5_needCube_19 : decode cX5_needCube 19 = .ok (.goto 4, 3) := by decide +kernel
theorem dX5_needCube_22 : decode cX5_needCube 22 = .ok (.aconst_null, 1) := by decide +kernel
theorem dX5_needCube_23 : decode cX5_needCube 23 = .ok (.astore_n 2, 1) := by decide +kernel
theorem dX5_needCube_24 : decode cX5_needCube 24 = .ok (.aload_n 2, 1) := by decide +kernel
theorem dX5_needCube_25 : decode cX5_needCube 25 = .ok (.ifnonnull 14, 3) := by decide +kernel
theorem dX5_needCube_28 : decode cX5_needCube 28 = .ok (.new 254, 3) := by decide +kernel
theorem dX5_needCube_31 : decode cX5_needCube 31 = .ok (.dup, 1) := by decide +kernel
theorem dX5_needCube_32 : decode cX5_needCube 32 = .ok (.ldc_w 256, 3) := by decide +kernel
theorem dX5_needCube_35 : decode cX5_needCube 35 = .ok (.invokespecial 258, 3) := by decide +kernel
theorem dX5_needCube_38 : decode cX5_needCube 38 = .ok (.athrow, 1) := by decide +kernel
theorem dX5_needCube_39 : decode cX5_needCube 39 = .ok (.aload_n 2, 1) := by decide +kernel
theorem dX5_needCube_40 : decode cX5_needCube 40 = .ok (.areturn, 1) := by decide +kernel
abbrev rmX5_needCube : Room := { frames := 6, cells := 1, slots := 6, locals := 90 }
theorem zyX5_needCube : zyOK yX5_needCube 1 := ⟨by decide +kernel, by decide +kernel, by decide +kernel⟩
set_option maxHeartbeats 4000000 in
set_option maxRecDepth 100000 in
theorem wX5_needCube {G : ZG} (a0 : Nat) (a1 : Int32) (S : ZS) (h0 : zFix G cX5_needCube RX5 3 (some (.object "Bilinearium$Cube")) rmX5_needCube) (C : Option ((Nat × ZS) ⊕ ZX) → Prop) (hC : ¬ C none) (hnt : zNoTab G) (hE : ∀ (v : Nat) (S1 : ZS), C (some (.inl (v, S1))) → zEndT G (some (.ref v)) S1 rmX5_needCube) (hEx : ∀ (E : String) (h : ZH), C (some (.inr (E, h))) → zEndX G E h rmX5_needCube) : zV G 3 S 0 0 0 [(0, .ref a0), (1, .int a1)] [] (C (fX5_needCube a0 a1 S)) := by
  have J23 : ∀ (s0 : Option Nat) (S9 : ZS), zV G 3 S9 0 0 23 [] [va_rf s0] (C (fX5_needCube_J23 s0 S9)) := by
    intro s0 S9
    unfold fX5_needCube_J23
    refine zr_astoreQ_n [(2, va_rf s0)] h0 dX5_needCube_23 (by decide) rfl (n := 24) rfl ?_
    refine zr_aloadQ_n h0 dX5_needCube_24 rfl (n := 25) rfl ?_
    refine zr_nonnullQ C (tgt := 39) h0 dX5_needCube_25 (by decide) (n := 28) rfl (fun hr => ?_) (fun as0 hr => ?_)
    · subst hr
      refine zv_sub (lv' := []) ?_ (zsub_of [] rfl)
      exact zr_throwW h0 hnt (cls := "java/lang/IndexOutOfBoundsException") (text := "there is no such cube") (names := ["java/lang/RuntimeException", "java/lang/Exception"]) (by decide +kernel) zfitN zw_290 zw_12 (by decide +kernel) (by decide +kernel) zat_X5_258 zbad_X5_258 zgd_X5_258 dX5_needCube_28 dX5_needCube_31 dX5_needCube_32 dX5_needCube_35 dX5_needCube_38 (by decide) (Nat.le_of_ble_eq_true rfl) (by decide) (by decide) (fun h => hEx _ _ h)
    · subst hr
      refine zr_aload_n h0 dX5_needCube_39 rfl (n := 40) rfl ?_
      exact zr_aretT h0 rfl (Or.inl ⟨_, rfl⟩) dX5_needCube_40 (hE _ _) (by decide) (by decide)
  have J22 : ∀  (S9 : ZS), zV G 3 S9 0 0 22 [] [] (C (fX5_needCube_J22 S9)) := by
    intro  S9
    unfold fX5_needCube_J22
    refine zr_null h0 dX5_needCube_22 (n := 23) rfl ?_
    exact J23 none S9
  unfold fX5_needCube
  refine zr_iload_n h0 dX5_needCube_0 rfl (n := 1) rfl ?_
  refine zr_if_lt C (tgt := 22) h0 dX5_needCube_1 (by decide) (n := 4) rfl ?_ ?_
  · refine zv_sub (lv' := []) ?_ (zsub_of [] rfl)
    exact J22 S
  · refine zr_iload_n h0 dX5_needCube_4 rfl (n := 5) rfl ?_
    refine zr_aload_n h0 dX5_needCube_5 rfl (n := 6) rfl ?_
    refine zr_getR C hC h0 zcX5 (k := 0) (by decide) zw_75 dX5_needCube_6 (n := 9) rfl (fun v1 => ?_)
    refine zr_alen C hC h0 dX5_needCube_9 (n := 10) rfl (fun v2 => ?_)
    refine zr_icmp_ge C (tgt := 22) h0 dX5_needCube_10 (by decide) (n := 13) rfl ?_ ?_
    · refine zv_sub (lv' := []) ?_ (zsub_of [] rfl)
      exact J22 S
    · refine zr_aload_n h0 dX5_needCube_13 rfl (n := 14) rfl ?_
      refine zr_getR C hC h0 zcX5 (k := 0) (by decide) zw_75 dX5_needCube_14 (n := 17) rfl (fun v3 => ?_)
      refine zr_iload_n h0 dX5_needCube_17 rfl (n := 18) rfl ?_
      refine zr_aaload C hC (t := 3) h0 rfl dX5_needCube_18 (n := 19) rfl (fun v4 => ?_)
      refine zr_goto (tgt := 23) h0 dX5_needCube_19 (by decide) ?_
      refine zv_sub (lv' := []) ?_ (zsub_of [] rfl)
      exact J23 v4 S
theorem kX5_needCube (l : Launch) (D : ZD) (z0 : Nat) (hlt : l.stackTraces = false) (a0 : Nat) (a1 : Int32) (S : ZS) (x : ((Nat × ZS) ⊕ ZX)) (hf : fX5_needCube a0 a1 S = some x) : zMetT l D z0 yX5_needCube cX5_needCube 3 (some (.object "Bilinearium$Cube")) rmX5_needCube [.ref a0, .int a1] S (x.map (fun y => ((some (.ref y.1)), y.2)) id) :=
  zMetT_of hlt (by decide) (Nat.le_of_ble_eq_true rfl) (fun G h0 hnt hE hEx => wX5_needCube a0 a1 S h0 (fun o => o = some x) (fun h => nomatch h) hnt (fun v S1 h => by cases h; exact hE _ _ rfl) (fun E h hh => by cases hh; exact hEx _ _ rfl)) hf
theorem dX5_isBelow_0 : decode cX5_isBelow 0 = .ok (.iload_n 0, 1) := by decide +kernel
theorem dX5_isBelow_1 : decode cX5_isBelow 1 = .ok (.ifCond .lt 12, 3) := by decide +kernel
theorem dX5_isBelow_4 : decode cX5_isBelow 4 = .ok (.iload_n 0, 1) := by decide +kernel
theorem dX5_isBelow_5 : decode cX5_isBelow 5 = .ok (.iload_n 1, 1) := by decide +kernel
theorem dX5_isBelow_6 : decode cX5_isBelow 6 = .ok (.if_icmp .ge 7, 3) := by decide +kernel
theorem dX5_isBelow_9 : decode cX5_isBelow 9 = .ok (.iconst 1, 1) := by decide +kernel
theorem dX5_isBelow_10 : decode cX5_isBelow 10 = .ok (.goto 4, 3) := by decide +kernel
theorem dX5_isBelow_13 : decode cX5_isBelow 13 = .ok (.iconst 0, 1) := by decide +kernel
theorem dX5_isBelow_14 : decode cX5_isBelow 14 = .ok (.ireturn, 1) := by decide +kernel
abbrev rmX5_isBelow : Room := { frames := 1, cells := 0, slots := 0, locals := 20 }
theorem zyX5_isBelow : zyOK yX5_isBelow 2 := ⟨by decide +kernel, by decide +kernel, by decide +kernel⟩
set_option maxHeartbeats 4000000 in
set_option maxRecDepth 100000 in
theorem wX5_isBelow {G : ZG} (a0 : Int32) (a1 : Int32) (S : ZS) (h0 : zFix G cX5_isBelow RX5 2 (some .boolean) rmX5_isBelow) (C : Option Int32 → Prop) (hC : ¬ C none) (hE : ∀ v : Int32, C (some v) → zEnd G (some (.int v)) S rmX5_isBelow) : zV G 2 S 0 0 0 [(0, .int a0), (1, .int a1)] [] (C (fX5_isBelow a0 a1)) := by
  have J14 : ∀ (s0 : Int32), zV G 2 S 0 0 14 [] [.int s0] (C (fX5_isBelow_J14 s0)) := by
    intro s0
    unfold fX5_isBelow_J14
    exact zr_zret C hC h0 rfl dX5_isBelow_14 (fun w h => hE _ h) (by decide) (by decide)
  have J13 : zV G 2 S 0 0 13 [] [] (C (fX5_isBelow_J13)) := by
    unfold fX5_isBelow_J13
    refine zr_iconst (0 : Int32) h0 (by decide) dX5_isBelow_13 (n := 14) rfl ?_
    exact J14 (0 : Int32)
  unfold fX5_isBelow
  refine zr_iload_n h0 dX5_isBelow_0 rfl (n := 1) rfl ?_
  refine zr_if_lt C (tgt := 13) h0 dX5_isBelow_1 (by decide) (n := 4) rfl ?_ ?_
  · refine zv_sub (lv' := []) ?_ (zsub_of [] rfl)
    exact J13
  · refine zr_iload_n h0 dX5_isBelow_4 rfl (n := 5) rfl ?_
    refine zr_iload_n h0 dX5_isBelow_5 rfl (n := 6) rfl ?_
    refine zr_icmp_ge C (tgt := 13) h0 dX5_isBelow_6 (by decide) (n := 9) rfl ?_ ?_
    · refine zv_sub (lv' := []) ?_ (zsub_of [] rfl)
      exact J13
    · refine zv_sub (lv' := []) ?_ (zsub_of [] rfl)
      refine zr_iconst (1 : Int32) h0 (by decide) dX5_isBelow_9 (n := 10) rfl ?_
      refine zr_goto (tgt := 14) h0 dX5_isBelow_10 (by decide) ?_
      exact J14 (1 : Int32)
theorem kX5_isBelow (l : Launch) (D : ZD) (z0 : Nat) (a0 : Int32) (a1 : Int32) (S : ZS) (x : Int32) (hf : fX5_isBelow a0 a1 = some x) : zMet l D z0 yX5_isBelow cX5_isBelow 2 (some .boolean) rmX5_isBelow [.int a0, .int a1] S (some (.int x)) S :=
  zMet_of (by decide) (Nat.le_of_ble_eq_true rfl) (fun G h0 hini hE => wX5_isBelow a0 a1 S h0 (fun o => o = some x) (fun h => nomatch h) (fun v h => by cases h; exact hE)) hf
theorem dX5_needPlace_0 : decode cX5_needPlace 0 = .ok (.iload_n 1, 1) := by decide +kernel
theorem dX5_needPlace_1 : decode cX5_needPlace 1 = .ok (.aload_n 0, 1) := by decide +kernel
theorem dX5_needPlace_2 : decode cX5_needPlace 2 = .ok (.getfield 126, 3) := by decide +kernel
theorem dX5_needPlace_5 : decode cX5_needPlace 5 = .ok (.invokestatic 261, 3) := by decide +kernel
theorem dX5_needPlace_8 : decode cX5_needPlace 8 = .ok (.ifCond .eq 25, 3) := by decide +kernel
theorem dX5_needPlace_11 : decode cX5_needPlace 11 = .ok (.iload_n 2, 1) := by decide +kernel
theorem dX5_needPlace_12 : decode cX5_needPlace 12 = .ok (.aload_n 0, 1) := by decide +kernel
theorem dX5_needPlace_13 : decode cX5_needPlace 13 = .ok (.getfield 129, 3) := by decide +kernel
theorem dX5_needPlace_16 : decode cX5_needPlace 16 = .ok (.invokestatic 261, 3) := by decide +kernel
theorem dX5_needPlace_19 : decode cX5_needPlace 19 = .ok (.ifCond .eq 14, 3) := by decide +kernel
theorem dX5_needPlace_22 : decode cX5_needPlace 22 = .ok (.iload_n 3, 1) := by decide +kernel
theorem dX5_needPlace_23 : decode cX5_needPlace 23 = .ok (.aload_n 0, 1) := by decide +kernel
theorem dX5_needPlace_24 : decode cX5_needPlace 24 = .ok (.getfield 132, 3) := by decide +kernel
theorem dX5_needPlace_27 : decode cX5_needPlace 27 = .ok (.invokestatic 261, 3) := by decide +kernel
theorem dX5_needPlace_30 : decode cX5_needPlace 30 = .ok (.ifCond .ne 14, 3) := by decide +kernel
theorem dX5_needPlace_33 : decode cX5_needPlace 33 = .ok (.new 254, 3) := by decide +kernel
theorem dX5_needPlace_36 : decode cX5_needPlace 36 = .ok (.dup, 1) := by decide +kernel
theorem dX5_needPlace_37 : decode cX5_needPlace 37 = .ok (.ldc_w 265, 3) := by decide +kernel
theorem dX5_needPlace_40 : decode cX5_needPlace 40 = .ok (.invokespecial 258, 3) := by decide +kernel
theorem dX5_needPlace_43 : decode cX5_needPlace 43 = .ok (.athrow, 1) := by decide +kernel
theorem dX5_needPlace_44 : decode cX5_needPlace 44 = .ok (.return_, 1) := by decide +kernel
abbrev rmX5_needPlace : Room := { frames := 6, cells := 1, slots := 6, locals := 90 }
theorem zyX5_needPlace : zyOK yX5_needPlace 4 := ⟨by decide +kernel, by decide +kernel, by decide +kernel⟩
set_option maxHeartbeats 4000000 in
set_option maxRecDepth 100000 in
theorem wX5_needPlace {G : ZG} (a0 : Nat) (a1 : Int32) (a2 : Int32) (a3 : Int32) (S : ZS) (h0 : zFix G cX5_needPlace RX5 4 none rmX5_needPlace) (C : Option ((Unit × ZS) ⊕ ZX) → Prop) (hC : ¬ C none) (hnt : zNoTab G) (hE : ∀ (v : Unit) (S1 : ZS), C (some (.inl (v, S1))) → zEndT G none S1 rmX5_needPlace) (hEx : ∀ (E : String) (h : ZH), C (some (.inr (E, h))) → zEndX G E h rmX5_needPlace) : zV G 4 S 0 0 0 [(0, .ref a0), (1, .int a1), (2, .int a2), (3, .int a3)] [] (C (fX5_needPlace a0 a1 a2 a3 S)) := by
  have J33 : ∀  (S9 : ZS), zV G 4 S9 0 0 33 [] [] (C (fX5_needPlace_J33 S9)) := by
    intro  S9
    unfold fX5_needPlace_J33
    exact zr_throwW h0 hnt (cls := "java/lang/IndexOutOfBoundsException") (text := "there is no such place") (names := ["java/lang/RuntimeException", "java/lang/Exception"]) (by decide +kernel) zfitN zw_290 zw_12 (by decide +kernel) (by decide +kernel) zat_X5_258 zbad_X5_258 zgd_X5_258 dX5_needPlace_33 dX5_needPlace_36 dX5_needPlace_37 dX5_needPlace_40 dX5_needPlace_43 (by decide) (Nat.le_of_ble_eq_true rfl) (by decide) (by decide) (fun h => hEx _ _ h)
  unfold fX5_needPlace
  refine zr_iload_n h0 dX5_needPlace_0 rfl (n := 1) rfl ?_
  refine zr_aload_n h0 dX5_needPlace_1 rfl (n := 2) rfl ?_
  refine zr_getI C hC h0 zcX0 (k := 0) (by decide) zw_220 dX5_needPlace_2 (n := 5) rfl (fun v1 => ?_)
  refine zr_cRI C hC 0 0 (fun x hx => zk_S h0 (fun l D z0 => kX5_isBelow l D z0 a1 v1 S x hx) zw_309 zw_310 zw_1 zw_311 zyX5_isBelow (As := [.int a1, .int v1]) (st := []) rfl (by decide) rfl (Nat.le_of_ble_eq_true rfl) (by decide) dX5_needPlace_5) rfl rfl (n := 8) rfl (fun x2 => ?_)
  refine zr_if_eq C (tgt := 33) h0 dX5_needPlace_8 (by decide) (n := 11) rfl ?_ ?_
  · refine zv_sub (lv' := []) ?_ (zsub_of [] rfl)
    exact J33 S
  · refine zv_sub (lv' := [(0, .ref a0), (2, .int a2), (3, .int a3)]) ?_ (zsub_of [0, 2, 3] rfl)
    refine zr_iload_n h0 dX5_needPlace_11 rfl (n := 12) rfl ?_
    refine zr_aload_n h0 dX5_needPlace_12 rfl (n := 13) rfl ?_
    refine zr_getI C hC h0 zcX0 (k := 1) (by decide) zw_224 dX5_needPlace_13 (n := 16) rfl (fun v3 => ?_)
    refine zr_cRI C hC 0 0 (fun x hx => zk_S h0 (fun l D z0 => kX5_isBelow l D z0 a2 v3 S x hx) zw_309 zw_310 zw_1 zw_311 zyX5_isBelow (As := [.int a2, .int v3]) (st := []) rfl (by decide) rfl (Nat.le_of_ble_eq_true rfl) (by decide) dX5_needPlace_16) rfl rfl (n := 19) rfl (fun x4 => ?_)
    refine zr_if_eq C (tgt := 33) h0 dX5_needPlace_19 (by decide) (n := 22) rfl ?_ ?_
    · refine zv_sub (lv' := []) ?_ (zsub_of [] rfl)
      exact J33 S
    · refine zv_sub (lv' := [(0, .ref a0), (3, .int a3)]) ?_ (zsub_of [0, 2] rfl)
      refine zr_iload_n h0 dX5_needPlace_22 rfl (n := 23) rfl ?_
      refine zr_aload_n h0 dX5_needPlace_23 rfl (n := 24) rfl ?_
      refine zr_getI C hC h0 zcX0 (k := 2) (by decide) zw_228 dX5_needPlace_24 (n := 27) rfl (fun v5 => ?_)
      refine zr_cRI C hC 0 0 (fun x hx => zk_S h0 (fun l D z0 => kX5_isBelow l D z0 a3 v5 S x hx) zw_309 zw_310 zw_1 zw_311 zyX5_isBelow (As := [.int a3, .int v5]) (st := []) rfl (by decide) rfl (Nat.le_of_ble_eq_true rfl) (by decide) dX5_needPlace_27) rfl rfl (n := 30) rfl (fun x6 => ?_)
      refine zr_if_ne C (tgt := 44) h0 dX5_needPlace_30 (by decide) (n := 33) rfl ?_ ?_
      · refine zv_sub (lv' := []) ?_ (zsub_of [] rfl)
        exact J33 S
      · refine zv_sub (lv' := []) ?_ (zsub_of [] rfl)
        exact zr_vretT h0 rfl dX5_needPlace_44 (fun h => hE _ _ h) (by decide) (by decide)
theorem kX5_needPlace (l : Launch) (D : ZD) (z0 : Nat) (hlt : l.stackTraces = false) (a0 : Nat) (a1 : Int32) (a2 : Int32) (a3 : Int32) (S : ZS) (x : ((Unit × ZS) ⊕ ZX)) (hf : fX5_needPlace a0 a1 a2 a3 S = some x) : zMetT l D z0 yX5_needPlace cX5_needPlace 4 none rmX5_needPlace [.ref a0, .int a1, .int a2, .int a3] S (x.map (fun y => (none, y.2)) id) :=
  zMetT_of hlt (by decide) (Nat.le_of_ble_eq_true rfl) (fun G h0 hnt hE hEx => wX5_needPlace a0 a1 a2 a3 S h0 (fun o => o = some x) (fun h => nomatch h) hnt (fun v S1 h => by cases h; exact hE _ _ rfl) (fun E h hh => by cases hh; exact hEx _ _ rfl)) hf
theorem dX5_get_0 : decode cX5_get 0 = .ok (.aload_n 0, 1) := by decide +kernel
theorem dX5_get_1 : decode cX5_get 1 = .ok (.ifnull 19, 3) := by decide +kernel
theorem dX5_get_4 : decode cX5_get 4 = .ok (.iload_n 1, 1) := by decide +kernel
theorem dX5_get_5 : decode cX5_get 5 = .ok (.ifCond .lt 15, 3) := by decide +kernel
theorem dX5_get_8 : decode cX5_get 8 = .ok (.iload_n 1, 1) := by decide +kernel
theorem dX5_get_9 : decode cX5_get 9 = .ok (.aload_n 0, 1) := by decide +kernel
theorem dX5_get_10 : decode cX5_get 10 = .ok (.arraylength, 1) := by decide +kernel
theorem dX5_get_11 : decode cX5_get 11 = .ok (.if_icmp .ge 9, 3) := by decide +kernel
theorem dX5_get_14 : decode cX5_get 14 = .ok (.aload_n 0, 1) := by decide +kernel
theorem dX5_get_15 : decode cX5_get 15 = .ok (.iload_n 1, 1) := by decide +kernel
theorem dX5_get_16 : decode cX5_get 16 = .ok (.iaload, 1) := by decide +kernel
theorem dX5_get_17 : decode cX5_get 17 = .ok (.goto 4, 3) := by decide +kernel
theorem dX5_get_20 : decode cX5_get 20 = .ok (.iconst 0, 1) := by decide +kernel
theorem dX5_get_21 : decode cX5_get 21 = .ok (.ireturn, 1) := by decide +kernel
abbrev rmX5_get : Room := { frames := 1, cells := 0, slots := 0, locals := 20 }
theorem zyX5_get : zyOK yX5_get 2 := ⟨by decide +kernel, by decide +kernel, by decide +kernel⟩
set_option maxHeartbeats 4000000 in
set_option maxRecDepth 100000 in
theorem wX5_get {G : ZG} (a0 : Nat) (a1 : Int32) (S : ZS) (h0 : zFix G cX5_get RX5 2 (some .int) rmX5_get) (C : Option Int32 → Prop) (hC : ¬ C none) (hE : ∀ v : Int32, C (some v) → zEnd G (some (.int v)) S rmX5_get) : zV G 2 S 0 0 0 [(0, .ref a0), (1, .int a1)] [] (C (fX5_get a0 a1 S)) := by
  have J21 : ∀ (s0 : Int32), zV G 2 S 0 0 21 [] [.int s0] (C (fX5_get_J21 s0 S)) := by
    intro s0
    unfold fX5_get_J21
    exact zr_iret h0 rfl dX5_get_21 (hE _) (by decide) (by decide)
  have J20 : zV G 2 S 0 0 20 [] [] (C (fX5_get_J20 S)) := by
    unfold fX5_get_J20
    refine zr_iconst (0 : Int32) h0 (by decide) dX5_get_20 (n := 21) rfl ?_
    exact J21 (0 : Int32)
  unfold fX5_get
  refine zr_aload_n h0 dX5_get_0 rfl (n := 1) rfl ?_
  refine zr_nullR h0 dX5_get_1 (n := 4) rfl ?_
  refine zr_iload_n h0 dX5_get_4 rfl (n := 5) rfl ?_
  refine zr_if_lt C (tgt := 20) h0 dX5_get_5 (by decide) (n := 8) rfl ?_ ?_
  · refine zv_sub (lv' := []) ?_ (zsub_of [] rfl)
    exact J20
  · refine zr_iload_n h0 dX5_get_8 rfl (n := 9) rfl ?_
    refine zr_aload_n h0 dX5_get_9 rfl (n := 10) rfl ?_
    refine zr_alen C hC h0 dX5_get_10 (n := 11) rfl (fun v1 => ?_)
    refine zr_icmp_ge C (tgt := 20) h0 dX5_get_11 (by decide) (n := 14) rfl ?_ ?_
    · refine zv_sub (lv' := []) ?_ (zsub_of [] rfl)
      exact J20
    · refine zr_aload_n h0 dX5_get_14 rfl (n := 15) rfl ?_
      refine zr_iload_n h0 dX5_get_15 rfl (n := 16) rfl ?_
      refine zr_iaload C hC h0 dX5_get_16 (n := 17) rfl (fun v2 => ?_)
      refine zr_goto (tgt := 21) h0 dX5_get_17 (by decide) ?_
      refine zv_sub (lv' := []) ?_ (zsub_of [] rfl)
      exact J21 v2
theorem kX5_get (l : Launch) (D : ZD) (z0 : Nat) (a0 : Nat) (a1 : Int32) (S : ZS) (x : Int32) (hf : fX5_get a0 a1 S = some x) : zMet l D z0 yX5_get cX5_get 2 (some .int) rmX5_get [.ref a0, .int a1] S (some (.int x)) S :=
  zMet_of (by decide) (Nat.le_of_ble_eq_true rfl) (fun G h0 hini hE => wX5_get a0 a1 S h0 (fun o => o = some x) (fun h => nomatch h) (fun v h => by cases h; exact hE)) hf
theorem dX0_numberAt_0 : decode cX0_numberAt 0 = .ok (.aload_n 0, 1) := by decide +kernel
theorem dX0_numberAt_1 : decode cX0_numberAt 1 = .ok (.getfield 21, 3) := by decide +kernel
theorem dX0_numberAt_4 : decode cX0_numberAt 4 = .ok (.iload_n 1, 1) := by decide +kernel
theorem dX0_numberAt_5 : decode cX0_numberAt 5 = .ok (.iload_n 2, 1) := by decide +kernel
theorem dX0_numberAt_6 : decode cX0_numberAt 6 = .ok (.iload_n 3, 1) := by decide +kernel
theorem dX0_numberAt_7 : decode cX0_numberAt 7 = .ok (.invokestatic 39, 3) := by decide +kernel
theorem dX0_numberAt_10 : decode cX0_numberAt 10 = .ok (.invokestatic 31, 3) := by decide +kernel
theorem dX0_numberAt_13 : decode cX0_numberAt 13 = .ok (.ireturn, 1) := by decide +kernel
abbrev rmX0_numberAt : Room := { frames := 2, cells := 0, slots := 0, locals := 42 }
theorem zyX0_numberAt : zyOK yX0_numberAt 3 := ⟨by decide +kernel, by decide +kernel, by decide +kernel⟩
set_option maxHeartbeats 4000000 in
set_option maxRecDepth 100000 in
theorem wX0_numberAt {G : ZG} (a0 : Nat) (a1 : Int32) (a2 : Int32) (a3 : Int32) (S : ZS) (h0 : zFix G cX0_numberAt RX0 4 (some .int) rmX0_numberAt) (C : Option Int32 → Prop) (hC : ¬ C none) (hE : ∀ v : Int32, C (some v) → zEnd G (some (.int v)) S rmX0_numberAt) : zV G 4 S 0 0 0 [(0, .ref a0), (1, .int a1), (2, .int a2), (3, .int a3)] [] (C (fX0_numberAt a0 a1 a2 a3 S)) := by
  unfold fX0_numberAt
  refine zr_aload_n h0 dX0_numberAt_0 rfl (n := 1) rfl ?_
  refine zr_getR C hC h0 zcX0 (k := 3) (by decide) zw_229 dX0_numberAt_1 (n := 4) rfl (fun v1 => ?_)
  refine zr_iload_n h0 dX0_numberAt_4 rfl (n := 5) rfl ?_
  refine zr_iload_n h0 dX0_numberAt_5 rfl (n := 6) rfl ?_
  refine zr_iload_n h0 dX0_numberAt_6 rfl (n := 7) rfl ?_
  refine zr_cRI C hC 0 0 (fun x hx => zk_S h0 (fun l D z0 => kX0_indexOf l D z0 a1 a2 a3 S x hx) zw_255 zw_256 zw_11 zw_257 zyX0_indexOf (As := [.int a1, .int a2, .int a3]) (st := [.ref v1]) rfl (by decide) rfl (Nat.le_of_ble_eq_true rfl) (by decide) dX0_numberAt_7) rfl rfl (n := 10) rfl (fun x2 => ?_)
  refine zr_cRI C hC 0 0 (fun x hx => zk_SN (host := "Bilinearium") h0 (fun l D z0 => kX5_get l D z0 v1 x2 S x hx) (by decide +kernel) zw_319 zw_1 zw_320 zyX5_get (As := [.ref v1, .int x2]) (st := []) rfl (by decide) rfl (Nat.le_of_ble_eq_true rfl) (by decide) dX0_numberAt_10) rfl rfl (n := 13) rfl (fun x3 => ?_)
  exact zr_iret h0 rfl dX0_numberAt_13 (hE _) (by decide) (by decide)
theorem kX0_numberAt (l : Launch) (D : ZD) (z0 : Nat) (a0 : Nat) (a1 : Int32) (a2 : Int32) (a3 : Int32) (S : ZS) (x : Int32) (hf : fX0_numberAt a0 a1 a2 a3 S = some x) : zMet l D z0 yX0_numberAt cX0_numberAt 4 (some .int) rmX0_numberAt [.ref a0, .int a1, .int a2, .int a3] S (some (.int x)) S :=
  zMet_of (by decide) (Nat.le_of_ble_eq_true rfl) (fun G h0 hini hE => wX0_numberAt a0 a1 a2 a3 S h0 (fun o => o = some x) (fun h => nomatch h) (fun v h => by cases h; exact hE)) hf
theorem dX5_set_0 : decode cX5_set 0 = .ok (.aload_n 0, 1) := by decide +kernel
theorem dX5_set_1 : decode cX5_set 1 = .ok (.iload_n 1, 1) := by decide +kernel
theorem dX5_set_2 : decode cX5_set 2 = .ok (.invokevirtual 87, 3) := by decide +kernel
theorem dX5_set_5 : decode cX5_set 5 = .ok (.astore 6, 2) := by decide +kernel
theorem dX5_set_7 : decode cX5_set 7 = .ok (.aload 6, 2) := by decide +kernel
theorem dX5_set_9 : decode cX5_set 9 = .ok (.iload_n 2, 1) := by decide +kernel
theorem dX5_set_10 : decode cX5_set 10 = .ok (.iload_n 3, 1) := by decide +kernel
theorem dX5_set_11 : decode cX5_set 11 = .ok (.iload 4, 2) := by decide +kernel
theorem dX5_set_13 : decode cX5_set 13 = .ok (.invokestatic 91, 3) := by decide +kernel
theorem dX5_set_16 : decode cX5_set 16 = .ok (.iload 5, 2) := by decide +kernel
theorem dX5_set_18 : decode cX5_set 18 = .ok (.ifCond .lt 12, 3) := by decide +kernel
theorem dX5_set_21 : decode cX5_set 21 = .ok (.iload 5, 2) := by decide +kernel
theorem dX5_set_23 : decode cX5_set 23 = .ok (.aload_n 0, 1) := by decide +kernel
theorem dX5_set_24 : decode cX5_set 24 = .ok (.getfield 46, 3) := by decide +kernel
theorem dX5_set_27 : decode cX5_set 27 = .ok (.if_icmp .lt 13, 3) := by decide +kernel
theorem dX5_set_30 : decode cX5_set 30 = .ok (.new 56, 3) := by decide +kernel
theorem dX5_set_33 : decode cX5_set 33 = .ok (.dup, 1) := by decide +kernel
theorem dX5_set_34 : decode cX5_set 34 = .ok (.ldc 95, 2) := by decide +kernel
theorem dX5_set_36 : decode cX5_set 36 = .ok (.invokespecial 60, 3) := by decide +kernel
theorem dX5_set_39 : decode cX5_set 39 = .ok (.athrow, 1) := by decide +kernel
theorem dX5_set_40 : decode cX5_set 40 = .ok (.aload 6, 2) := by decide +kernel
theorem dX5_set_42 : decode cX5_set 42 = .ok (.iload_n 2, 1) := by decide +kernel
theorem dX5_set_43 : decode cX5_set 43 = .ok (.iload_n 3, 1) := by decide +kernel
theorem dX5_set_44 : decode cX5_set 44 = .ok (.iload 4, 2) := by decide +kernel
theorem dX5_set_46 : decode cX5_set 46 = .ok (.invokevirtual 97, 3) := by decide +kernel
theorem dX5_set_49 : decode cX5_set 49 = .ok (.istore 7, 2) := by decide +kernel
theorem dX5_set_51 : decode cX5_set 51 = .ok (.aload 6, 2) := by decide +kernel
theorem dX5_set_53 : decode cX5_set 53 = .ok (.iload_n 2, 1) := by decide +kernel
theorem dX5_set_54 : decode cX5_set 54 = .ok (.iload_n 3, 1) := by decide +kernel
theorem dX5_set_55 : decode cX5_set 55 = .ok (.iload 4, 2) := by decide +kernel
theorem dX5_set_57 : decode cX5_set 57 = .ok (.iload 5, 2) := by decide +kernel
theorem dX5_set_59 : decode cX5_set 59 = .ok (.invokevirtual 76, 3) := by decide +kernel
theorem dX5_set_62 : decode cX5_set 62 = .ok (.aload 6, 2) := by decide +kernel
theorem dX5_set_64 : decode cX5_set 64 = .ok (.iconst 0, 1) := by decide +kernel
theorem dX5_set_65 : decode cX5_set 65 = .ok (.putfield 80, 3) := by decide +kernel
theorem dX5_set_68 : decode cX5_set 68 = .ok (.iload 7, 2) := by decide +kernel
theorem dX5_set_70 : decode cX5_set 70 = .ok (.ireturn, 1) := by decide +kernel
abbrev rmX5_set : Room := { frames := 7, cells := 3, slots := 18, locals := 113 }
theorem zyX5_set : zyOK yX5_set 5 := ⟨by decide +kernel, by decide +kernel, by decide +kernel⟩
set_option maxHeartbeats 4000000 in
set_option maxRecDepth 100000 in
theorem wX5_set {G : ZG} (a0 : Nat) (a1 : Int32) (a2 : Int32) (a3 : Int32) (a4 : Int32) (a5 : Int32) (S : ZS) (h0 : zFix G cX5_set RX5 8 (some .int) rmX5_set) (C : Option ((Int32 × ZS) ⊕ ZX) → Prop) (hC : ¬ C none) (hnt : zNoTab G) (hE : ∀ (v : Int32) (S1 : ZS), C (some (.inl (v, S1))) → zEndT G (some (.int v)) S1 rmX5_set) (hEx : ∀ (E : String) (h : ZH), C (some (.inr (E, h))) → zEndX G E h rmX5_set) : zV G 8 S 0 0 0 [(0, .ref a0), (1, .int a1), (2, .int a2), (3, .int a3), (4, .int a4), (5, .int a5)] [] (C (fX5_set a0 a1 a2 a3 a4 a5 S)) := by
  have J30 : ∀  (S9 : ZS), zV G 8 S9 2 12 30 [] [] (C (fX5_set_J30 S9)) := by
    intro  S9
    unfold fX5_set_J30
    exact zr_throw h0 hnt (cls := "java/lang/IllegalArgumentException") (text := "the number is no remainder by the prime") (names := ["java/lang/RuntimeException", "java/lang/Exception"]) (by decide +kernel) zfitN zw_112 zw_9 (by decide +kernel) (by decide +kernel) zat_X5_60 zbad_X5_60 zgd_X5_60 dX5_set_30 dX5_set_33 dX5_set_34 dX5_set_36 dX5_set_39 (by decide) (Nat.le_of_ble_eq_true rfl) (by decide) (by decide) (fun h => hEx _ _ h)
  unfold fX5_set
  refine zr_aload_n h0 dX5_set_0 rfl (n := 1) rfl ?_
  refine zr_iload_n h0 dX5_set_1 rfl (n := 2) rfl ?_
  refine zr_cTR C hC 1 6 h0 (fun x hx => zk_VT h0 zcX5 (zcl_ex hx) (fun l D z0 hlt => kX5_needCube l D z0 hlt a0 a1 S x (zcl_of hx)) hnt zw_286 zw_288 zs_2 zw_1 zw_289 rfl zyX5_needCube (As := [.int a1]) (st := []) rfl (by decide) rfl (Nat.le_of_ble_eq_true rfl) (by decide) dX5_set_2) hnt rfl rfl (by decide) (by decide) (n := 5) rfl (fun z h => hEx _ _ h) (fun x1 => ?_)
  refine zr_astore [(0, .ref a0), (1, .int a1), (2, .int a2), (3, .int a3), (4, .int a4), (5, .int a5), (6, .ref x1.1)] h0 dX5_set_5 (by decide) rfl (n := 7) rfl ?_
  refine zr_aload h0 dX5_set_7 rfl (n := 9) rfl ?_
  refine zr_iload_n h0 dX5_set_9 rfl (n := 10) rfl ?_
  refine zr_iload_n h0 dX5_set_10 rfl (n := 11) rfl ?_
  refine zr_iload h0 dX5_set_11 rfl (n := 13) rfl ?_
  refine zr_cTV C hC 2 12 h0 (fun x hx => zk_ST h0 (fun l D z0 hlt => kX5_needPlace l D z0 hlt x1.1 a2 a3 a4 x1.2 x hx) hnt zw_306 zw_307 zw_1 zw_308 zyX5_needPlace (As := [.ref x1.1, .int a2, .int a3, .int a4]) (st := []) rfl (by decide) rfl (Nat.le_of_ble_eq_true rfl) (by decide) dX5_set_13) hnt rfl rfl (by decide) (by decide) (n := 16) rfl (fun z h => hEx _ _ h) (fun x2 => ?_)
  refine zr_iload h0 dX5_set_16 rfl (n := 18) rfl ?_
  refine zr_if_lt C (tgt := 30) h0 dX5_set_18 (by decide) (n := 21) rfl ?_ ?_
  · refine zv_sub (lv' := []) ?_ (zsub_of [] rfl)
    exact J30 x2.2
  · refine zv_sub (lv' := [(0, .ref a0), (2, .int a2), (3, .int a3), (4, .int a4), (5, .int a5), (6, .ref x1.1)]) ?_ (zsub_of [0, 2, 3, 4, 5, 6] rfl)
    refine zr_iload h0 dX5_set_21 rfl (n := 23) rfl ?_
    refine zr_aload_n h0 dX5_set_23 rfl (n := 24) rfl ?_
    refine zr_getI C hC h0 zcX5 (k := 6) (by decide) zw_81 dX5_set_24 (n := 27) rfl (fun v3 => ?_)
    refine zr_icmp_lt C (tgt := 40) h0 dX5_set_27 (by decide) (n := 30) rfl ?_ ?_
    · refine zv_sub (lv' := [(2, .int a2), (3, .int a3), (4, .int a4), (5, .int a5), (6, .ref x1.1)]) ?_ (zsub_of [1, 2, 3, 4, 5] rfl)
      refine zr_aload h0 dX5_set_40 rfl (n := 42) rfl ?_
      refine zr_iload_n h0 dX5_set_42 rfl (n := 43) rfl ?_
      refine zr_iload_n h0 dX5_set_43 rfl (n := 44) rfl ?_
      refine zr_iload h0 dX5_set_44 rfl (n := 46) rfl ?_
      refine zr_cRI C hC 2 12 (fun x hx => zk_V h0 zcX0 (zcl_ex hx) (fun l D z0 => kX0_numberAt l D z0 x1.1 a2 a3 a4 x2.2 x (zcl_of hx)) zw_314 zw_315 zw_316 zw_11 zw_317 rfl zyX0_numberAt (As := [.int a2, .int a3, .int a4]) (st := []) rfl (by decide) rfl (Nat.le_of_ble_eq_true rfl) (by decide) dX5_set_46) rfl rfl (n := 49) rfl (fun x4 => ?_)
      refine zr_istore [(2, .int a2), (3, .int a3), (4, .int a4), (5, .int a5), (6, .ref x1.1), (7, .int x4)] h0 dX5_set_49 (by decide) rfl (n := 51) rfl ?_
      refine zr_aload h0 dX5_set_51 rfl (n := 53) rfl ?_
      refine zr_iload_n h0 dX5_set_53 rfl (n := 54) rfl ?_
      refine zr_iload_n h0 dX5_set_54 rfl (n := 55) rfl ?_
      refine zr_iload h0 dX5_set_55 rfl (n := 57) rfl ?_
      refine zr_iload h0 dX5_set_57 rfl (n := 59) rfl ?_
      refine zr_cMV C hC 2 12 (fun x hx => zk_V h0 zcX0 (zcl_ex hx) (fun l D z0 => kX0_enter l D z0 x1.1 a2 a3 a4 a5 x2.2 x (zcl_of hx)) zw_251 zw_252 zw_253 zw_11 zw_254 rfl zyX0_enter (As := [.int a2, .int a3, .int a4, .int a5]) (st := []) rfl (by decide) rfl (Nat.le_of_ble_eq_true rfl) (by decide) dX5_set_59) rfl rfl (n := 62) rfl (fun x5 => ?_)
      refine zr_aload h0 dX5_set_62 rfl (n := 64) rfl ?_
      refine zr_iconst (0 : Int32) h0 (by decide) dX5_set_64 (n := 65) rfl ?_
      refine zr_putF C hC h0 zcX0 (k := 4) (by decide) zw_232 rfl rfl rfl dX5_set_65 (n := 68) rfl (fun S6 => ?_)
      refine zr_iload h0 dX5_set_68 rfl (n := 70) rfl ?_
      exact zr_iretT h0 rfl dX5_set_70 (hE _ _) (by decide) (by decide)
    · refine zv_sub (lv' := []) ?_ (zsub_of [] rfl)
      exact J30 x2.2
theorem kX5_set (l : Launch) (D : ZD) (z0 : Nat) (hlt : l.stackTraces = false) (a0 : Nat) (a1 : Int32) (a2 : Int32) (a3 : Int32) (a4 : Int32) (a5 : Int32) (S : ZS) (x : ((Int32 × ZS) ⊕ ZX)) (hf : fX5_set a0 a1 a2 a3 a4 a5 S = some x) : zMetT l D z0 yX5_set cX5_set 8 (some .int) rmX5_set [.ref a0, .int a1, .int a2, .int a3, .int a4, .int a5] S (x.map (fun y => ((some (.int y.1)), y.2)) id) :=
  zMetT_of hlt (by decide) (Nat.le_of_ble_eq_true rfl) (fun G h0 hnt hE hEx => wX5_set a0 a1 a2 a3 a4 a5 S h0 (fun o => o = some x) (fun h => nomatch h) hnt (fun v S1 h => by cases h; exact hE _ _ rfl) (fun E h hh => by cases hh; exact hEx _ _ rfl)) hf
theorem dX5_needSide_0 : decode cX5_needSide 0 = .ok (.iload_n 0, 1) := by decide +kernel
theorem dX5_needSide_1 : decode cX5_needSide 1 = .ok (.iconst 3, 1) := by decide +kernel
theorem dX5_needSide_2 : decode cX5_needSide 2 = .ok (.invokestatic 261, 3) := by decide +kernel
theorem dX5_needSide_5 : decode cX5_needSide 5 = .ok (.ifCond .ne 14, 3) := by decide +kernel
theorem dX5_needSide_8 : decode cX5_needSide 8 = .ok (.new 254, 3) := by decide +kernel
theorem dX5_needSide_11 : decode cX5_needSide 11 = .ok (.dup, 1) := by decide +kernel
theorem dX5_needSide_12 : decode cX5_needSide 12 = .ok (.ldc_w 267, 3) := by decide +kernel
theorem dX5_needSide_15 : decode cX5_needSide 15 = .ok (.invokespecial 258, 3) := by decide +kernel
theorem dX5_needSide_18 : decode cX5_needSide 18 = .ok (.athrow, 1) := by decide +kernel
theorem dX5_needSide_19 : decode cX5_needSide 19 = .ok (.return_, 1) := by decide +kernel
abbrev rmX5_needSide : Room := { frames := 6, cells := 1, slots := 6, locals := 90 }
theorem zyX5_needSide : zyOK yX5_needSide 1 := ⟨by decide +kernel, by decide +kernel, by decide +kernel⟩
set_option maxHeartbeats 4000000 in
set_option maxRecDepth 100000 in
theorem wX5_needSide {G : ZG} (a0 : Int32) (S : ZS) (h0 : zFix G cX5_needSide RX5 1 none rmX5_needSide) (C : Option ((Unit × ZS) ⊕ ZX) → Prop) (hC : ¬ C none) (hnt : zNoTab G) (hE : ∀ (v : Unit) (S1 : ZS), C (some (.inl (v, S1))) → zEndT G none S1 rmX5_needSide) (hEx : ∀ (E : String) (h : ZH), C (some (.inr (E, h))) → zEndX G E h rmX5_needSide) : zV G 1 S 0 0 0 [(0, .int a0)] [] (C (fX5_needSide a0 S)) := by
  unfold fX5_needSide
  refine zr_iload_n h0 dX5_needSide_0 rfl (n := 1) rfl ?_
  refine zr_iconst (3 : Int32) h0 (by decide) dX5_needSide_1 (n := 2) rfl ?_
  refine zr_cRI C hC 0 0 (fun x hx => zk_S h0 (fun l D z0 => kX5_isBelow l D z0 a0 (3 : Int32) S x hx) zw_309 zw_310 zw_1 zw_311 zyX5_isBelow (As := [.int a0, .int (3 : Int32)]) (st := []) rfl (by decide) rfl (Nat.le_of_ble_eq_true rfl) (by decide) dX5_needSide_2) rfl rfl (n := 5) rfl (fun x1 => ?_)
  refine zr_if_ne C (tgt := 19) h0 dX5_needSide_5 (by decide) (n := 8) rfl ?_ ?_
  · refine zv_sub (lv' := []) ?_ (zsub_of [] rfl)
    exact zr_throwW h0 hnt (cls := "java/lang/IndexOutOfBoundsException") (text := "there is no such side") (names := ["java/lang/RuntimeException", "java/lang/Exception"]) (by decide +kernel) zfitN zw_290 zw_12 (by decide +kernel) (by decide +kernel) zat_X5_258 zbad_X5_258 zgd_X5_258 dX5_needSide_8 dX5_needSide_11 dX5_needSide_12 dX5_needSide_15 dX5_needSide_18 (by decide) (Nat.le_of_ble_eq_true rfl) (by decide) (by decide) (fun h => hEx _ _ h)
  · refine zv_sub (lv' := []) ?_ (zsub_of [] rfl)
    exact zr_vretT h0 rfl dX5_needSide_19 (fun h => hE _ _ h) (by decide) (by decide)
theorem kX5_needSide (l : Launch) (D : ZD) (z0 : Nat) (hlt : l.stackTraces = false) (a0 : Int32) (S : ZS) (x : ((Unit × ZS) ⊕ ZX)) (hf : fX5_needSide a0 S = some x) : zMetT l D z0 yX5_needSide cX5_needSide 1 none rmX5_needSide [.int a0] S (x.map (fun y => (none, y.2)) id) :=
  zMetT_of hlt (by decide) (Nat.le_of_ble_eq_true rfl) (fun G h0 hnt hE hEx => wX5_needSide a0 S h0 (fun o => o = some x) (fun h => nomatch h) hnt (fun v S1 h => by cases h; exact hE _ _ rfl) (fun E h hh => by cases hh; exact hEx _ _ rfl)) hf
theorem dX0_sizeOf_0 : decode cX0_sizeOf 0 = .ok (.iload_n 1, 1) := by decide +kernel
theorem dX0_sizeOf_1 : decode cX0_sizeOf 1 = .ok (.ifCond .ne 10, 3) := by decide +kernel
theorem dX0_sizeOf_4 : decode cX0_sizeOf 4 = .ok (.aload_n 0, 1) := by decide +kernel
theorem dX0_sizeOf_5 : decode cX0_sizeOf 5 = .ok (.getfield 9, 3) := by decide +kernel
theorem dX0_sizeOf_8 : decode cX0_sizeOf 8 = .ok (.goto 19, 3) := by decide +kernel
theorem dX0_sizeOf_11 : decode cX0_sizeOf 11 = .ok (.iload_n 1, 1) := by decide +kernel
theorem dX0_sizeOf_12 : decode cX0_sizeOf 12 = .ok (.iconst 1, 1) := by decide +kernel
theorem dX0_sizeOf_13 : decode cX0_sizeOf 13 = .ok (.if_icmp .ne 10, 3) := by decide +kernel
theorem dX0_sizeOf_16 : decode cX0_sizeOf 16 = .ok (.aload_n 0, 1) := by decide +kernel
theorem dX0_sizeOf_17 : decode cX0_sizeOf 17 = .ok (.getfield 15, 3) := by decide +kernel
theorem dX0_sizeOf_20 : decode cX0_sizeOf 20 = .ok (.goto 7, 3) := by decide +kernel
theorem dX0_sizeOf_23 : decode cX0_sizeOf 23 = .ok (.aload_n 0, 1) := by decide +kernel
theorem dX0_sizeOf_24 : decode cX0_sizeOf 24 = .ok (.getfield 18, 3) := by decide +kernel
theorem dX0_sizeOf_27 : decode cX0_sizeOf 27 = .ok (.ireturn, 1) := by decide +kernel
abbrev rmX0_sizeOf : Room := { frames := 1, cells := 0, slots := 0, locals := 20 }
theorem zyX0_sizeOf : zyOK yX0_sizeOf 1 := ⟨by decide +kernel, by decide +kernel, by decide +kernel⟩
set_option maxHeartbeats 4000000 in
set_option maxRecDepth 100000 in
theorem wX0_sizeOf {G : ZG} (a0 : Nat) (a1 : Int32) (S : ZS) (h0 : zFix G cX0_sizeOf RX0 2 (some .int) rmX0_sizeOf) (C : Option Int32 → Prop) (hC : ¬ C none) (hE : ∀ v : Int32, C (some v) → zEnd G (some (.int v)) S rmX0_sizeOf) : zV G 2 S 0 0 0 [(0, .ref a0), (1, .int a1)] [] (C (fX0_sizeOf a0 a1 S)) := by
  have J27 : ∀ (s0 : Int32), zV G 2 S 0 0 27 [] [.int s0] (C (fX0_sizeOf_J27 s0 S)) := by
    intro s0
    unfold fX0_sizeOf_J27
    exact zr_iret h0 rfl dX0_sizeOf_27 (hE _) (by decide) (by decide)
  unfold fX0_sizeOf
  refine zr_iload_n h0 dX0_sizeOf_0 rfl (n := 1) rfl ?_
  refine zr_if_ne C (tgt := 11) h0 dX0_sizeOf_1 (by decide) (n := 4) rfl ?_ ?_
  · refine zv_sub (lv' := [(0, .ref a0)]) ?_ (zsub_of [0] rfl)
    refine zr_aload_n h0 dX0_sizeOf_4 rfl (n := 5) rfl ?_
    refine zr_getI C hC h0 zcX0 (k := 0) (by decide) zw_217 dX0_sizeOf_5 (n := 8) rfl (fun v1 => ?_)
    refine zr_goto (tgt := 27) h0 dX0_sizeOf_8 (by decide) ?_
    refine zv_sub (lv' := []) ?_ (zsub_of [] rfl)
    exact J27 v1
  · refine zr_iload_n h0 dX0_sizeOf_11 rfl (n := 12) rfl ?_
    refine zr_iconst (1 : Int32) h0 (by decide) dX0_sizeOf_12 (n := 13) rfl ?_
    refine zr_icmp_ne C (tgt := 23) h0 dX0_sizeOf_13 (by decide) (n := 16) rfl ?_ ?_
    · refine zv_sub (lv' := [(0, .ref a0)]) ?_ (zsub_of [0] rfl)
      refine zr_aload_n h0 dX0_sizeOf_16 rfl (n := 17) rfl ?_
      refine zr_getI C hC h0 zcX0 (k := 1) (by decide) zw_221 dX0_sizeOf_17 (n := 20) rfl (fun v2 => ?_)
      refine zr_goto (tgt := 27) h0 dX0_sizeOf_20 (by decide) ?_
      refine zv_sub (lv' := []) ?_ (zsub_of [] rfl)
      exact J27 v2
    · refine zv_sub (lv' := [(0, .ref a0)]) ?_ (zsub_of [0] rfl)
      refine zr_aload_n h0 dX0_sizeOf_23 rfl (n := 24) rfl ?_
      refine zr_getI C hC h0 zcX0 (k := 2) (by decide) zw_225 dX0_sizeOf_24 (n := 27) rfl (fun v3 => ?_)
      refine zv_sub (lv' := []) ?_ (zsub_of [] rfl)
      exact J27 v3
theorem kX0_sizeOf (l : Launch) (D : ZD) (z0 : Nat) (a0 : Nat) (a1 : Int32) (S : ZS) (x : Int32) (hf : fX0_sizeOf a0 a1 S = some x) : zMet l D z0 yX0_sizeOf cX0_sizeOf 2 (some .int) rmX0_sizeOf [.ref a0, .int a1] S (some (.int x)) S :=
  zMet_of (by decide) (Nat.le_of_ble_eq_true rfl) (fun G h0 hini hE => wX0_sizeOf a0 a1 S h0 (fun o => o = some x) (fun h => nomatch h) (fun v h => by cases h; exact hE)) hf
theorem dX5_needSlice_0 : decode cX5_needSlice 0 = .ok (.iload_n 2, 1) := by decide +kernel
theorem dX5_needSlice_1 : decode cX5_needSlice 1 = .ok (.aload_n 0, 1) := by decide +kernel
theorem dX5_needSlice_2 : decode cX5_needSlice 2 = .ok (.iload_n 1, 1) := by decide +kernel
theorem dX5_needSlice_3 : decode cX5_needSlice 3 = .ok (.invokevirtual 269, 3) := by decide +kernel
theorem dX5_needSlice_6 : decode cX5_needSlice 6 = .ok (.invokestatic 261, 3) := by decide +kernel
theorem dX5_needSlice_9 : decode cX5_needSlice 9 = .ok (.ifCond .ne 14, 3) := by decide +kernel
theorem dX5_needSlice_12 : decode cX5_needSlice 12 = .ok (.new 254, 3) := by decide +kernel
theorem dX5_needSlice_15 : decode cX5_needSlice 15 = .ok (.dup, 1) := by decide +kernel
theorem dX5_needSlice_16 : decode cX5_needSlice 16 = .ok (.ldc_w 273, 3) := by decide +kernel
theorem dX5_needSlice_19 : decode cX5_needSlice 19 = .ok (.invokespecial 258, 3) := by decide +kernel
theorem dX5_needSlice_22 : decode cX5_needSlice 22 = .ok (.athrow, 1) := by decide +kernel
theorem dX5_needSlice_23 : decode cX5_needSlice 23 = .ok (.return_, 1) := by decide +kernel
abbrev rmX5_needSlice : Room := { frames := 6, cells := 1, slots := 6, locals := 90 }
theorem zyX5_needSlice : zyOK yX5_needSlice 3 := ⟨by decide +kernel, by decide +kernel, by decide +kernel⟩
set_option maxHeartbeats 4000000 in
set_option maxRecDepth 100000 in
theorem wX5_needSlice {G : ZG} (a0 : Nat) (a1 : Int32) (a2 : Int32) (S : ZS) (h0 : zFix G cX5_needSlice RX5 3 none rmX5_needSlice) (C : Option ((Unit × ZS) ⊕ ZX) → Prop) (hC : ¬ C none) (hnt : zNoTab G) (hE : ∀ (v : Unit) (S1 : ZS), C (some (.inl (v, S1))) → zEndT G none S1 rmX5_needSlice) (hEx : ∀ (E : String) (h : ZH), C (some (.inr (E, h))) → zEndX G E h rmX5_needSlice) : zV G 3 S 0 0 0 [(0, .ref a0), (1, .int a1), (2, .int a2)] [] (C (fX5_needSlice a0 a1 a2 S)) := by
  unfold fX5_needSlice
  refine zr_iload_n h0 dX5_needSlice_0 rfl (n := 1) rfl ?_
  refine zr_aload_n h0 dX5_needSlice_1 rfl (n := 2) rfl ?_
  refine zr_iload_n h0 dX5_needSlice_2 rfl (n := 3) rfl ?_
  refine zr_cRI C hC 0 0 (fun x hx => zk_V h0 zcX0 (zcl_ex hx) (fun l D z0 => kX0_sizeOf l D z0 a0 a1 S x (zcl_of hx)) zw_335 zw_336 zw_337 zw_11 zw_338 rfl zyX0_sizeOf (As := [.int a1]) (st := [.int a2]) rfl (by decide) rfl (Nat.le_of_ble_eq_true rfl) (by decide) dX5_needSlice_3) rfl rfl (n := 6) rfl (fun x1 => ?_)
  refine zr_cRI C hC 0 0 (fun x hx => zk_S h0 (fun l D z0 => kX5_isBelow l D z0 a2 x1 S x hx) zw_309 zw_310 zw_1 zw_311 zyX5_isBelow (As := [.int a2, .int x1]) (st := []) rfl (by decide) rfl (Nat.le_of_ble_eq_true rfl) (by decide) dX5_needSlice_6) rfl rfl (n := 9) rfl (fun x2 => ?_)
  refine zr_if_ne C (tgt := 23) h0 dX5_needSlice_9 (by decide) (n := 12) rfl ?_ ?_
  · refine zv_sub (lv' := []) ?_ (zsub_of [] rfl)
    exact zr_throwW h0 hnt (cls := "java/lang/IndexOutOfBoundsException") (text := "there is no such slice") (names := ["java/lang/RuntimeException", "java/lang/Exception"]) (by decide +kernel) zfitN zw_290 zw_12 (by decide +kernel) (by decide +kernel) zat_X5_258 zbad_X5_258 zgd_X5_258 dX5_needSlice_12 dX5_needSlice_15 dX5_needSlice_16 dX5_needSlice_19 dX5_needSlice_22 (by decide) (Nat.le_of_ble_eq_true rfl) (by decide) (by decide) (fun h => hEx _ _ h)
  · refine zv_sub (lv' := []) ?_ (zsub_of [] rfl)
    exact zr_vretT h0 rfl dX5_needSlice_23 (fun h => hE _ _ h) (by decide) (by decide)
theorem kX5_needSlice (l : Launch) (D : ZD) (z0 : Nat) (hlt : l.stackTraces = false) (a0 : Nat) (a1 : Int32) (a2 : Int32) (S : ZS) (x : ((Unit × ZS) ⊕ ZX)) (hf : fX5_needSlice a0 a1 a2 S = some x) : zMetT l D z0 yX5_needSlice cX5_needSlice 3 none rmX5_needSlice [.ref a0, .int a1, .int a2] S (x.map (fun y => (none, y.2)) id) :=
  zMetT_of hlt (by decide) (Nat.le_of_ble_eq_true rfl) (fun G h0 hnt hE hEx => wX5_needSlice a0 a1 a2 S h0 (fun o => o = some x) (fun h => nomatch h) hnt (fun v S1 h => by cases h; exact hE _ _ rfl) (fun E h hh => by cases hh; exact hEx _ _ rfl)) hf
theorem dX0_indexInSlice_0 : decode cX0_indexInSlice 0 = .ok (.iload_n 2, 1) := by decide +kernel
theorem dX0_indexInSlice_1 : decode cX0_indexInSlice 1 = .ok (.iconst 4, 1) := by decide +kernel
theorem dX0_indexInSlice_2 : decode cX0_indexInSlice 2 = .ok (.idiv, 1) := by decide +kernel
theorem dX0_indexInSlice_3 : decode cX0_indexInSlice 3 = .ok (.istore_n 3, 1) := by decide +kernel
theorem dX0_indexInSlice_4 : decode cX0_indexInSlice 4 = .ok (.iload_n 2, 1) := by decide +kernel
theorem dX0_indexInSlice_5 : decode cX0_indexInSlice 5 = .ok (.iconst 4, 1) := by decide +kernel
theorem dX0_indexInSlice_6 : decode cX0_indexInSlice 6 = .ok (.irem, 1) := by decide +kernel
theorem dX0_indexInSlice_7 : decode cX0_indexInSlice 7 = .ok (.istore 4, 2) := by decide +kernel
theorem dX0_indexInSlice_9 : decode cX0_indexInSlice 9 = .ok (.iload_n 0, 1) := by decide +kernel
theorem dX0_indexInSlice_10 : decode cX0_indexInSlice 10 = .ok (.ifCond .ne 13, 3) := by decide +kernel
theorem dX0_indexInSlice_13 : decode cX0_indexInSlice 13 = .ok (.iload_n 1, 1) := by decide +kernel
theorem dX0_indexInSlice_14 : decode cX0_indexInSlice 14 = .ok (.iload_n 3, 1) := by decide +kernel
theorem dX0_indexInSlice_15 : decode cX0_indexInSlice 15 = .ok (.iload 4, 2) := by decide +kernel
theorem dX0_indexInSlice_17 : decode cX0_indexInSlice 17 = .ok (.invokestatic 39, 3) := by decide +kernel
theorem dX0_indexInSlice_20 : decode cX0_indexInSlice 20 = .ok (.goto 25, 3) := by decide +kernel
theorem dX0_indexInSlice_23 : decode cX0_indexInSlice 23 = .ok (.iload_n 0, 1) := by decide +kernel
theorem dX0_indexInSlice_24 : decode cX0_indexInSlice 24 = .ok (.iconst 1, 1) := by decide +kernel
theorem dX0_indexInSlice_25 : decode cX0_indexInSlice 25 = .ok (.if_icmp .ne 13, 3) := by decide +kernel
theorem dX0_indexInSlice_28 : decode cX0_indexInSlice 28 = .ok (.iload_n 3, 1) := by decide +kernel
theorem dX0_indexInSlice_29 : decode cX0_indexInSlice 29 = .ok (.iload_n 1, 1) := by decide +kernel
theorem dX0_indexInSlice_30 : decode cX0_indexInSlice 30 = .ok (.iload 4, 2) := by decide +kernel
theorem dX0_indexInSlice_32 : decode cX0_indexInSlice 32 = .ok (.invokestatic 39, 3) := by decide +kernel
theorem dX0_indexInSlice_35 : decode cX0_indexInSlice 35 = .ok (.goto 10, 3) := by decide +kernel
theorem dX0_indexInSlice_38 : decode cX0_indexInSlice 38 = .ok (.iload_n 3, 1) := by decide +kernel
theorem dX0_indexInSlice_39 : decode cX0_indexInSlice 39 = .ok (.iload 4, 2) := by decide +kernel
theorem dX0_indexInSlice_41 : decode cX0_indexInSlice 41 = .ok (.iload_n 1, 1) := by decide +kernel
theorem dX0_indexInSlice_42 : decode cX0_indexInSlice 42 = .ok (.invokestatic 39, 3) := by decide +kernel
theorem dX0_indexInSlice_45 : decode cX0_indexInSlice 45 = .ok (.ireturn, 1) := by decide +kernel
abbrev rmX0_indexInSlice : Room := { frames := 2, cells := 0, slots := 0, locals := 42 }
theorem zyX0_indexInSlice : zyOK yX0_indexInSlice 3 := ⟨by decide +kernel, by decide +kernel, by decide +kernel⟩
set_option maxHeartbeats 4000000 in
set_option maxRecDepth 100000 in
theorem wX0_indexInSlice {G : ZG} (a0 : Int32) (a1 : Int32) (a2 : Int32) (S : ZS) (h0 : zFix G cX0_indexInSlice RX0 5 (some .int) rmX0_indexInSlice) (C : Option Int32 → Prop) (hC : ¬ C none) (hE : ∀ v : Int32, C (some v) → zEnd G (some (.int v)) S rmX0_indexInSlice) : zV G 5 S 0 0 0 [(0, .int a0), (1, .int a1), (2, .int a2)] [] (C (fX0_indexInSlice a0 a1 a2)) := by
  have J45 : ∀ (s0 : Int32), zV G 5 S 0 0 45 [] [.int s0] (C (fX0_indexInSlice_J45 s0)) := by
    intro s0
    unfold fX0_indexInSlice_J45
    exact zr_iret h0 rfl dX0_indexInSlice_45 (hE _) (by decide) (by decide)
  unfold fX0_indexInSlice
  refine zr_iload_n h0 dX0_indexInSlice_0 rfl (n := 1) rfl ?_
  refine zr_iconst (4 : Int32) h0 (by decide) dX0_indexInSlice_1 (n := 2) rfl ?_
  refine zr_idivK h0 (by decide) dX0_indexInSlice_2 (n := 3) rfl ?_
  refine zr_istore_n [(0, .int a0), (1, .int a1), (2, .int a2), (3, .int (a2 / (4 : Int32)))] h0 dX0_indexInSlice_3 (by decide) rfl (n := 4) rfl ?_
  refine zr_iload_n h0 dX0_indexInSlice_4 rfl (n := 5) rfl ?_
  refine zr_iconst (4 : Int32) h0 (by decide) dX0_indexInSlice_5 (n := 6) rfl ?_
  refine zr_iremK h0 (by decide) dX0_indexInSlice_6 (n := 7) rfl ?_
  refine zr_istore [(0, .int a0), (1, .int a1), (2, .int a2), (3, .int (a2 / (4 : Int32))), (4, .int (a2 % (4 : Int32)))] h0 dX0_indexInSlice_7 (by decide) rfl (n := 9) rfl ?_
  refine zr_iload_n h0 dX0_indexInSlice_9 rfl (n := 10) rfl ?_
  refine zr_if_ne C (tgt := 23) h0 dX0_indexInSlice_10 (by decide) (n := 13) rfl ?_ ?_
  · refine zv_sub (lv' := [(1, .int a1), (3, .int (a2 / (4 : Int32))), (4, .int (a2 % (4 : Int32)))]) ?_ (zsub_of [1, 3, 4] rfl)
    refine zr_iload_n h0 dX0_indexInSlice_13 rfl (n := 14) rfl ?_
    refine zr_iload_n h0 dX0_indexInSlice_14 rfl (n := 15) rfl ?_
    refine zr_iload h0 dX0_indexInSlice_15 rfl (n := 17) rfl ?_
    refine zr_cRI C hC 0 0 (fun x hx => zk_S h0 (fun l D z0 => kX0_indexOf l D z0 a1 (a2 / (4 : Int32)) (a2 % (4 : Int32)) S x hx) zw_255 zw_256 zw_11 zw_257 zyX0_indexOf (As := [.int a1, .int (a2 / (4 : Int32)), .int (a2 % (4 : Int32))]) (st := []) rfl (by decide) rfl (Nat.le_of_ble_eq_true rfl) (by decide) dX0_indexInSlice_17) rfl rfl (n := 20) rfl (fun x1 => ?_)
    refine zr_goto (tgt := 45) h0 dX0_indexInSlice_20 (by decide) ?_
    refine zv_sub (lv' := []) ?_ (zsub_of [] rfl)
    exact J45 x1
  · refine zv_sub (lv' := [(0, .int a0), (1, .int a1), (3, .int (a2 / (4 : Int32))), (4, .int (a2 % (4 : Int32)))]) ?_ (zsub_of [0, 1, 3, 4] rfl)
    refine zr_iload_n h0 dX0_indexInSlice_23 rfl (n := 24) rfl ?_
    refine zr_iconst (1 : Int32) h0 (by decide) dX0_indexInSlice_24 (n := 25) rfl ?_
    refine zr_icmp_ne C (tgt := 38) h0 dX0_indexInSlice_25 (by decide) (n := 28) rfl ?_ ?_
    · refine zv_sub (lv' := [(1, .int a1), (3, .int (a2 / (4 : Int32))), (4, .int (a2 % (4 : Int32)))]) ?_ (zsub_of [1, 2, 3] rfl)
      refine zr_iload_n h0 dX0_indexInSlice_28 rfl (n := 29) rfl ?_
      refine zr_iload_n h0 dX0_indexInSlice_29 rfl (n := 30) rfl ?_
      refine zr_iload h0 dX0_indexInSlice_30 rfl (n := 32) rfl ?_
      refine zr_cRI C hC 0 0 (fun x hx => zk_S h0 (fun l D z0 => kX0_indexOf l D z0 (a2 / (4 : Int32)) a1 (a2 % (4 : Int32)) S x hx) zw_255 zw_256 zw_11 zw_257 zyX0_indexOf (As := [.int (a2 / (4 : Int32)), .int a1, .int (a2 % (4 : Int32))]) (st := []) rfl (by decide) rfl (Nat.le_of_ble_eq_true rfl) (by decide) dX0_indexInSlice_32) rfl rfl (n := 35) rfl (fun x2 => ?_)
      refine zr_goto (tgt := 45) h0 dX0_indexInSlice_35 (by decide) ?_
      refine zv_sub (lv' := []) ?_ (zsub_of [] rfl)
      exact J45 x2
    · refine zv_sub (lv' := [(1, .int a1), (3, .int (a2 / (4 : Int32))), (4, .int (a2 % (4 : Int32)))]) ?_ (zsub_of [1, 2, 3] rfl)
      refine zr_iload_n h0 dX0_indexInSlice_38 rfl (n := 39) rfl ?_
      refine zr_iload h0 dX0_indexInSlice_39 rfl (n := 41) rfl ?_
      refine zr_iload_n h0 dX0_indexInSlice_41 rfl (n := 42) rfl ?_
      refine zr_cRI C hC 0 0 (fun x hx => zk_S h0 (fun l D z0 => kX0_indexOf l D z0 (a2 / (4 : Int32)) (a2 % (4 : Int32)) a1 S x hx) zw_255 zw_256 zw_11 zw_257 zyX0_indexOf (As := [.int (a2 / (4 : Int32)), .int (a2 % (4 : Int32)), .int a1]) (st := []) rfl (by decide) rfl (Nat.le_of_ble_eq_true rfl) (by decide) dX0_indexInSlice_42) rfl rfl (n := 45) rfl (fun x3 => ?_)
      refine zv_sub (lv' := []) ?_ (zsub_of [] rfl)
      exact J45 x3
theorem kX0_indexInSlice (l : Launch) (D : ZD) (z0 : Nat) (a0 : Int32) (a1 : Int32) (a2 : Int32) (S : ZS) (x : Int32) (hf : fX0_indexInSlice a0 a1 a2 = some x) : zMet l D z0 yX0_indexInSlice cX0_indexInSlice 5 (some .int) rmX0_indexInSlice [.int a0, .int a1, .int a2] S (some (.int x)) S :=
  zMet_of (by decide) (Nat.le_of_ble_eq_true rfl) (fun G h0 hini hE => wX0_indexInSlice a0 a1 a2 S h0 (fun o => o = some x) (fun h => nomatch h) (fun v h => by cases h; exact hE)) hf
theorem dX0_addSlice_0 : decode cX0_addSlice 0 = .ok (.iconst 0, 1) := by decide +kernel
theorem dX0_addSlice_1 : decode cX0_addSlice 1 = .ok (.istore 6, 2) := by decide +kernel
theorem dX0_addSlice_3 : decode cX0_addSlice 3 = .ok (.iload 6, 2) := by decide +kernel
theorem dX0_addSlice_5 : decode cX0_addSlice 5 = .ok (.bipush 16, 2) := by decide +kernel
theorem dX0_addSlice_7 : decode cX0_addSlice 7 = .ok (.if_icmp .ge 63, 3) := by decide +kernel
theorem dX0_addSlice_10 : decode cX0_addSlice 10 = .ok (.iload_n 1, 1) := by decide +kernel
theorem dX0_addSlice_11 : decode cX0_addSlice 11 = .ok (.iload_n 3, 1) := by decide +kernel
theorem dX0_addSlice_12 : decode cX0_addSlice 12 = .ok (.iload 6, 2) := by decide +kernel
theorem dX0_addSlice_14 : decode cX0_addSlice 14 = .ok (.invokestatic 43, 3) := by decide +kernel
theorem dX0_addSlice_17 : decode cX0_addSlice 17 = .ok (.istore 7, 2) := by decide +kernel
theorem dX0_addSlice_19 : decode cX0_addSlice 19 = .ok (.aload_n 0, 1) := by decide +kernel
theorem dX0_addSlice_20 : decode cX0_addSlice 20 = .ok (.getfield 21, 3) := by decide +kernel
theorem dX0_addSlice_23 : decode cX0_addSlice 23 = .ok (.iload 7, 2) := by decide +kernel
theorem dX0_addSlice_25 : decode cX0_addSlice 25 = .ok (.invokestatic 31, 3) := by decide +kernel
theorem dX0_addSlice_28 : decode cX0_addSlice 28 = .ok (.iload 4, 2) := by decide +kernel
theorem dX0_addSlice_30 : decode cX0_addSlice 30 = .ok (.aload_n 0, 1) := by decide +kernel
theorem dX0_addSlice_31 : decode cX0_addSlice 31 = .ok (.getfield 21, 3) := by decide +kernel
theorem dX0_addSlice_34 : decode cX0_addSlice 34 = .ok (.iload_n 1, 1) := by decide +kernel
theorem dX0_addSlice_35 : decode cX0_addSlice 35 = .ok (.iload_n 2, 1) := by decide +kernel
theorem dX0_addSlice_36 : decode cX0_addSlice 36 = .ok (.iload 6, 2) := by decide +kernel
theorem dX0_addSlice_38 : decode cX0_addSlice 38 = .ok (.invokestatic 43, 3) := by decide +kernel
theorem dX0_addSlice_41 : decode cX0_addSlice 41 = .ok (.invokestatic 31, 3) := by decide +kernel
theorem dX0_addSlice_44 : decode cX0_addSlice 44 = .ok (.imul, 1) := by decide +kernel
theorem dX0_addSlice_45 : decode cX0_addSlice 45 = .ok (.iadd, 1) := by decide +kernel
theorem dX0_addSlice_46 : decode cX0_addSlice 46 = .ok (.istore 8, 2) := by decide +kernel
theorem dX0_addSlice_48 : decode cX0_addSlice 48 = .ok (.aload_n 0, 1) := by decide +kernel
theorem dX0_addSlice_49 : decode cX0_addSlice 49 = .ok (.getfield 21, 3) := by decide +kernel
theorem dX0_addSlice_52 : decode cX0_addSlice 52 = .ok (.iload 7, 2) := by decide +kernel
theorem dX0_addSlice_54 : decode cX0_addSlice 54 = .ok (.iload 8, 2) := by decide +kernel
theorem dX0_addSlice_56 : decode cX0_addSlice 56 = .ok (.iload 5, 2) := by decide +kernel
theorem dX0_addSlice_58 : decode cX0_addSlice 58 = .ok (.invokestatic 46, 3) := by decide +kernel
theorem dX0_addSlice_61 : decode cX0_addSlice 61 = .ok (.invokestatic 35, 3) := by decide +kernel
theorem dX0_addSlice_64 : decode cX0_addSlice 64 = .ok (.iinc 6 1, 3) := by decide +kernel
theorem dX0_addSlice_67 : decode cX0_addSlice 67 = .ok (.goto (-64), 3) := by decide +kernel
theorem dX0_addSlice_70 : decode cX0_addSlice 70 = .ok (.return_, 1) := by decide +kernel
abbrev rmX0_addSlice : Room := { frames := 3, cells := 0, slots := 0, locals := 66 }
theorem zyX0_addSlice : zyOK yX0_addSlice 5 := ⟨by decide +kernel, by decide +kernel, by decide +kernel⟩
set_option maxHeartbeats 4000000 in
set_option maxRecDepth 100000 in
theorem wX0_addSlice {G : ZG} (a0 : Nat) (a1 : Int32) (a2 : Int32) (a3 : Int32) (a4 : Int32) (a5 : Int32) (S : ZS) (h0 : zFix G cX0_addSlice RX0 9 none rmX0_addSlice) (C : Option ZS → Prop) (hC : ¬ C none) (hE : ∀ S1 : ZS, C (some S1) → zEnd G none S1 rmX0_addSlice) : zV G 9 S 0 0 0 [(0, .ref a0), (1, .int a1), (2, .int a2), (3, .int a3), (4, .int a4), (5, .int a5)] [] (C (fX0_addSlice a0 a1 a2 a3 a4 a5 S)) := by
  unfold fX0_addSlice
  refine zr_iconst (0 : Int32) h0 (by decide) dX0_addSlice_0 (n := 1) rfl ?_
  refine zr_istore [(0, .ref a0), (1, .int a1), (2, .int a2), (3, .int a3), (4, .int a4), (5, .int a5), (6, .int (0 : Int32))] h0 dX0_addSlice_1 (by decide) rfl (n := 3) rfl ?_
  refine zr_loop hC (fX0_addSlice_B3 a0 a1 a2 a3 a4 a5) (fun y => [(0, .ref a0), (1, .int a1), (2, .int a2), (3, .int a3), (4, .int a4), (5, .int a5), (6, .int y.1)]) (fun y => y.2) zF ((0 : Int32), S) (fun C3 hC3 hX3 hL3 t3 => ?_)
  unfold fX0_addSlice_B3
  refine zr_iload h0 dX0_addSlice_3 rfl (n := 5) rfl ?_
  refine zr_bipush (16 : Int32) h0 (by decide) dX0_addSlice_5 (n := 7) rfl ?_
  refine zr_icmp_ge C3 (tgt := 70) h0 dX0_addSlice_7 (by decide) (n := 10) rfl ?_ ?_
  · refine zr_ex hX3 ?_
    refine zv_sub (lv' := []) ?_ (zsub_of [] rfl)
    exact zr_vret h0 rfl dX0_addSlice_70 (fun h => hE _ h) (by decide) (by decide)
  · refine zr_iload_n h0 dX0_addSlice_10 rfl (n := 11) rfl ?_
    refine zr_iload_n h0 dX0_addSlice_11 rfl (n := 12) rfl ?_
    refine zr_iload h0 dX0_addSlice_12 rfl (n := 14) rfl ?_
    refine zr_cRI C3 hC3 0 0 (fun x hx => zk_S h0 (fun l D z0 => kX0_indexInSlice l D z0 a1 a3 t3.1 t3.2 x hx) zw_346 zw_347 zw_11 zw_348 zyX0_indexInSlice (As := [.int a1, .int a3, .int t3.1]) (st := []) rfl (by decide) rfl (Nat.le_of_ble_eq_true rfl) (by decide) dX0_addSlice_14) rfl rfl (n := 17) rfl (fun x10 => ?_)
    refine zr_istore [(0, .ref a0), (1, .int a1), (2, .int a2), (3, .int a3), (4, .int a4), (5, .int a5), (6, .int t3.1), (7, .int x10)] h0 dX0_addSlice_17 (by decide) rfl (n := 19) rfl ?_
    refine zr_aload_n h0 dX0_addSlice_19 rfl (n := 20) rfl ?_
    refine zr_getR C3 hC3 h0 zcX0 (k := 3) (by decide) zw_229 dX0_addSlice_20 (n := 23) rfl (fun v11 => ?_)
    refine zr_iload h0 dX0_addSlice_23 rfl (n := 25) rfl ?_
    refine zr_cRI C3 hC3 0 0 (fun x hx => zk_SN (host := "Bilinearium") h0 (fun l D z0 => kX5_get l D z0 v11 x10 t3.2 x hx) (by decide +kernel) zw_319 zw_1 zw_320 zyX5_get (As := [.ref v11, .int x10]) (st := []) rfl (by decide) rfl (Nat.le_of_ble_eq_true rfl) (by decide) dX0_addSlice_25) rfl rfl (n := 28) rfl (fun x12 => ?_)
    refine zr_iload h0 dX0_addSlice_28 rfl (n := 30) rfl ?_
    refine zr_aload_n h0 dX0_addSlice_30 rfl (n := 31) rfl ?_
    refine zr_getR C3 hC3 h0 zcX0 (k := 3) (by decide) zw_229 dX0_addSlice_31 (n := 34) rfl (fun v13 => ?_)
    refine zr_iload_n h0 dX0_addSlice_34 rfl (n := 35) rfl ?_
    refine zr_iload_n h0 dX0_addSlice_35 rfl (n := 36) rfl ?_
    refine zr_iload h0 dX0_addSlice_36 rfl (n := 38) rfl ?_
    refine zr_cRI C3 hC3 0 0 (fun x hx => zk_S h0 (fun l D z0 => kX0_indexInSlice l D z0 a1 a2 t3.1 t3.2 x hx) zw_346 zw_347 zw_11 zw_348 zyX0_indexInSlice (As := [.int a1, .int a2, .int t3.1]) (st := [.ref v13, .int a4, .int x12]) rfl (by decide) rfl (Nat.le_of_ble_eq_true rfl) (by decide) dX0_addSlice_38) rfl rfl (n := 41) rfl (fun x14 => ?_)
    refine zr_cRI C3 hC3 0 0 (fun x hx => zk_SN (host := "Bilinearium") h0 (fun l D z0 => kX5_get l D z0 v13 x14 t3.2 x hx) (by decide +kernel) zw_319 zw_1 zw_320 zyX5_get (As := [.ref v13, .int x14]) (st := [.int a4, .int x12]) rfl (by decide) rfl (Nat.le_of_ble_eq_true rfl) (by decide) dX0_addSlice_41) rfl rfl (n := 44) rfl (fun x15 => ?_)
    refine zr_imul h0 dX0_addSlice_44 (n := 45) rfl ?_
    refine zr_iadd h0 dX0_addSlice_45 (n := 46) rfl ?_
    refine zr_istore [(0, .ref a0), (1, .int a1), (2, .int a2), (3, .int a3), (4, .int a4), (5, .int a5), (6, .int t3.1), (7, .int x10), (8, .int (x12 + (a4 * x15)))] h0 dX0_addSlice_46 (by decide) rfl (n := 48) rfl ?_
    refine zr_aload_n h0 dX0_addSlice_48 rfl (n := 49) rfl ?_
    refine zr_getR C3 hC3 h0 zcX0 (k := 3) (by decide) zw_229 dX0_addSlice_49 (n := 52) rfl (fun v16 => ?_)
    refine zr_iload h0 dX0_addSlice_52 rfl (n := 54) rfl ?_
    refine zr_iload h0 dX0_addSlice_54 rfl (n := 56) rfl ?_
    refine zr_iload h0 dX0_addSlice_56 rfl (n := 58) rfl ?_
    refine zr_cRI C3 hC3 0 0 (fun x hx => zk_SN (host := "Bilinearium") h0 (fun l D z0 => kX5_remainder l D z0 (x12 + (a4 * x15)) a5 t3.2 x hx) (by decide +kernel) zw_276 zw_1 zw_277 zyX5_remainder (As := [.int (x12 + (a4 * x15)), .int a5]) (st := [.int x10, .ref v16]) rfl (by decide) rfl (Nat.le_of_ble_eq_true rfl) (by decide) dX0_addSlice_58) rfl rfl (n := 61) rfl (fun x17 => ?_)
    refine zr_cMV C3 hC3 0 0 (fun x hx => zk_SN (host := "Bilinearium") h0 (fun l D z0 => kX5_put l D z0 v16 x10 x17 t3.2 x hx) (by decide +kernel) zw_259 zw_1 zw_260 zyX5_put (As := [.ref v16, .int x10, .int x17]) (st := []) rfl (by decide) rfl (Nat.le_of_ble_eq_true rfl) (by decide) dX0_addSlice_61) rfl rfl (n := 64) rfl (fun x18 => ?_)
    refine zr_iinc (1 : Int32) [(0, .ref a0), (1, .int a1), (2, .int a2), (3, .int a3), (4, .int a4), (5, .int a5), (6, .int (t3.1 + (1 : Int32))), (7, .int x10), (8, .int (x12 + (a4 * x15)))] h0 dX0_addSlice_64 rfl (by decide) rfl rfl (n := 67) rfl ?_
    refine zr_goto (tgt := 3) h0 dX0_addSlice_67 (by decide) ?_
    refine zv_sub (lv' := [(0, .ref a0), (1, .int a1), (2, .int a2), (3, .int a3), (4, .int a4), (5, .int a5), (6, .int (t3.1 + (1 : Int32)))]) ?_ (zsub_of [0, 1, 2, 3, 4, 5, 6] rfl)
    exact hL3 (t3.1 + (1 : Int32), x18)
theorem kX0_addSlice (l : Launch) (D : ZD) (z0 : Nat) (a0 : Nat) (a1 : Int32) (a2 : Int32) (a3 : Int32) (a4 : Int32) (a5 : Int32) (S : ZS) (x : ZS) (hf : fX0_addSlice a0 a1 a2 a3 a4 a5 S = some x) : zMet l D z0 yX0_addSlice cX0_addSlice 9 none rmX0_addSlice [.ref a0, .int a1, .int a2, .int a3, .int a4, .int a5] S none x :=
  zMet_of (by decide) (Nat.le_of_ble_eq_true rfl) (fun G h0 hini hE => wX0_addSlice a0 a1 a2 a3 a4 a5 S h0 (fun o => o = some x) (fun h => nomatch h) (fun S1 h => by cases h; exact hE)) hf
theorem dX0_countOthersThanZero_0 : decode cX0_countOthersThanZero 0 = .ok (.iconst 0, 1) := by decide +kernel
theorem dX0_countOthersThanZero_1 : decode cX0_countOthersThanZero 1 = .ok (.istore_n 1, 1) := by decide +kernel
theorem dX0_countOthersThanZero_2 : decode cX0_countOthersThanZero 2 = .ok (.iconst 0, 1) := by decide +kernel
theorem dX0_countOthersThanZero_3 : decode cX0_countOthersThanZero 3 = .ok (.istore_n 2, 1) := by decide +kernel
theorem dX0_countOthersThanZero_4 : decode cX0_countOthersThanZero 4 = .ok (.iload_n 2, 1) := by decide +kernel
theorem dX0_countOthersThanZero_5 : decode cX0_countOthersThanZero 5 = .ok (.bipush 64, 2) := by decide +kernel
theorem dX0_countOthersThanZero_7 : decode cX0_countOthersThanZero 7 = .ok (.if_icmp .ge 28, 3) := by decide +kernel
theorem dX0_countOthersThanZero_10 : decode cX0_countOthersThanZero 10 = .ok (.iload_n 1, 1) := by decide +kernel
theorem dX0_countOthersThanZero_11 : decode cX0_countOthersThanZero 11 = .ok (.aload_n 0, 1) := by decide +kernel
theorem dX0_countOthersThanZero_12 : decode cX0_countOthersThanZero 12 = .ok (.getfield 21, 3) := by decide +kernel
theorem dX0_countOthersThanZero_15 : decode cX0_countOthersThanZero 15 = .ok (.iload_n 2, 1) := by decide +kernel
theorem dX0_countOthersThanZero_16 : decode cX0_countOthersThanZero 16 = .ok (.invokestatic 31, 3) := by decide +kernel
theorem dX0_countOthersThanZero_19 : decode cX0_countOthersThanZero 19 = .ok (.ifCond .eq 7, 3) := by decide +kernel
theorem dX0_countOthersThanZero_22 : decode cX0_countOthersThanZero 22 = .ok (.iconst 1, 1) := by decide +kernel
theorem dX0_countOthersThanZero_23 : decode cX0_countOthersThanZero 23 = .ok (.goto 4, 3) := by decide +kernel
theorem dX0_countOthersThanZero_26 : decode cX0_countOthersThanZero 26 = .ok (.iconst 0, 1) := by decide +kernel
theorem dX0_countOthersThanZero_27 : decode cX0_countOthersThanZero 27 = .ok (.iadd, 1) := by decide +kernel
theorem dX0_countOthersThanZero_28 : decode cX0_countOthersThanZero 28 = .ok (.istore_n 1, 1) := by decide +kernel
theorem dX0_countOthersThanZero_29 : decode cX0_countOthersThanZero 29 = .ok (.iinc 2 1, 3) := by decide +kernel
theorem dX0_countOthersThanZero_32 : decode cX0_countOthersThanZero 32 = .ok (.goto (-28), 3) := by decide +kernel
theorem dX0_countOthersThanZero_35 : decode cX0_countOthersThanZero 35 = .ok (.iload_n 1, 1) := by decide +kernel
theorem dX0_countOthersThanZero_36 : decode cX0_countOthersThanZero 36 = .ok (.ireturn, 1) := by decide +kernel
abbrev rmX0_countOthersThanZero : Room := { frames := 2, cells := 0, slots := 0, locals := 41 }
theorem zyX0_countOthersThanZero : zyOK yX0_countOthersThanZero 0 := ⟨by decide +kernel, by decide +kernel, by decide +kernel⟩
set_option maxHeartbeats 4000000 in
set_option maxRecDepth 100000 in
theorem wX0_countOthersThanZero {G : ZG} (a0 : Nat) (S : ZS) (h0 : zFix G cX0_countOthersThanZero RX0 3 (some .int) rmX0_countOthersThanZero) (C : Option Int32 → Prop) (hC : ¬ C none) (hE : ∀ v : Int32, C (some v) → zEnd G (some (.int v)) S rmX0_countOthersThanZero) : zV G 3 S 0 0 0 [(0, .ref a0)] [] (C (fX0_countOthersThanZero a0 S)) := by
  unfold fX0_countOthersThanZero
  refine zr_iconst (0 : Int32) h0 (by decide) dX0_countOthersThanZero_0 (n := 1) rfl ?_
  refine zr_istore_n [(0, .ref a0), (1, .int (0 : Int32))] h0 dX0_countOthersThanZero_1 (by decide) rfl (n := 2) rfl ?_
  refine zr_iconst (0 : Int32) h0 (by decide) dX0_countOthersThanZero_2 (n := 3) rfl ?_
  refine zr_istore_n [(0, .ref a0), (1, .int (0 : Int32)), (2, .int (0 : Int32))] h0 dX0_countOthersThanZero_3 (by decide) rfl (n := 4) rfl ?_
  refine zr_loop hC (fX0_countOthersThanZero_B4 a0 S) (fun y => [(0, .ref a0), (1, .int y.1), (2, .int y.2)]) (fun y => S) zF ((0 : Int32), (0 : Int32)) (fun C4 hC4 hX4 hL4 t4 => ?_)
  have J27 : ∀ (l2 : Int32) (s0 : Int32) (s1 : Int32), zV G 3 S 0 0 27 [(0, .ref a0), (2, .int l2)] [.int s1, .int s0] (C4 (fX0_countOthersThanZero_J27 a0 l2 s0 s1 S)) := by
    intro l2 s0 s1
    unfold fX0_countOthersThanZero_J27
    refine zr_iadd h0 dX0_countOthersThanZero_27 (n := 28) rfl ?_
    refine zr_istore_n [(0, .ref a0), (1, .int (s0 + s1)), (2, .int l2)] h0 dX0_countOthersThanZero_28 (by decide) rfl (n := 29) rfl ?_
    refine zr_iinc (1 : Int32) [(0, .ref a0), (1, .int (s0 + s1)), (2, .int (l2 + (1 : Int32)))] h0 dX0_countOthersThanZero_29 rfl (by decide) rfl rfl (n := 32) rfl ?_
    refine zr_goto (tgt := 4) h0 dX0_countOthersThanZero_32 (by decide) ?_
    exact hL4 (s0 + s1, l2 + (1 : Int32))
  unfold fX0_countOthersThanZero_B4
  refine zr_iload_n h0 dX0_countOthersThanZero_4 rfl (n := 5) rfl ?_
  refine zr_bipush (64 : Int32) h0 (by decide) dX0_countOthersThanZero_5 (n := 7) rfl ?_
  refine zr_icmp_ge C4 (tgt := 35) h0 dX0_countOthersThanZero_7 (by decide) (n := 10) rfl ?_ ?_
  · refine zr_ex hX4 ?_
    refine zv_sub (lv' := [(1, .int t4.1)]) ?_ (zsub_of [1] rfl)
    refine zr_iload_n h0 dX0_countOthersThanZero_35 rfl (n := 36) rfl ?_
    exact zr_iret h0 rfl dX0_countOthersThanZero_36 (hE _) (by decide) (by decide)
  · refine zr_iload_n h0 dX0_countOthersThanZero_10 rfl (n := 11) rfl ?_
    refine zr_aload_n h0 dX0_countOthersThanZero_11 rfl (n := 12) rfl ?_
    refine zr_getR C4 hC4 h0 zcX0 (k := 3) (by decide) zw_229 dX0_countOthersThanZero_12 (n := 15) rfl (fun v3 => ?_)
    refine zr_iload_n h0 dX0_countOthersThanZero_15 rfl (n := 16) rfl ?_
    refine zr_cRI C4 hC4 0 0 (fun x hx => zk_SN (host := "Bilinearium") h0 (fun l D z0 => kX5_get l D z0 v3 t4.2 S x hx) (by decide +kernel) zw_319 zw_1 zw_320 zyX5_get (As := [.ref v3, .int t4.2]) (st := [.int t4.1]) rfl (by decide) rfl (Nat.le_of_ble_eq_true rfl) (by decide) dX0_countOthersThanZero_16) rfl rfl (n := 19) rfl (fun x4 => ?_)
    refine zr_if_eq C4 (tgt := 26) h0 dX0_countOthersThanZero_19 (by decide) (n := 22) rfl ?_ ?_
    · refine zv_sub (lv' := [(0, .ref a0), (2, .int t4.2)]) ?_ (zsub_of [0, 2] rfl)
      refine zr_iconst (0 : Int32) h0 (by decide) dX0_countOthersThanZero_26 (n := 27) rfl ?_
      exact J27 t4.2 t4.1 (0 : Int32)
    · refine zv_sub (lv' := [(0, .ref a0), (2, .int t4.2)]) ?_ (zsub_of [0, 2] rfl)
      refine zr_iconst (1 : Int32) h0 (by decide) dX0_countOthersThanZero_22 (n := 23) rfl ?_
      refine zr_goto (tgt := 27) h0 dX0_countOthersThanZero_23 (by decide) ?_
      exact J27 t4.2 t4.1 (1 : Int32)
theorem kX0_countOthersThanZero (l : Launch) (D : ZD) (z0 : Nat) (a0 : Nat) (S : ZS) (x : Int32) (hf : fX0_countOthersThanZero a0 S = some x) : zMet l D z0 yX0_countOthersThanZero cX0_countOthersThanZero 3 (some .int) rmX0_countOthersThanZero [.ref a0] S (some (.int x)) S :=
  zMet_of (by decide) (Nat.le_of_ble_eq_true rfl) (fun G h0 hini hE => wX0_countOthersThanZero a0 S h0 (fun o => o = some x) (fun h => nomatch h) (fun v h => by cases h; exact hE)) hf
theorem dX5_move_0 : decode cX5_move 0 = .ok (.aload_n 0, 1) := by decide +kernel
theorem dX5_move_1 : decode cX5_move 1 = .ok (.iload_n 1, 1) := by decide +kernel
theorem dX5_move_2 : decode cX5_move 2 = .ok (.invokevirtual 87, 3) := by decide +kernel
theorem dX5_move_5 : decode cX5_move 5 = .ok (.astore 6, 2) := by decide +kernel
theorem dX5_move_7 : decode cX5_move 7 = .ok (.iload_n 2, 1) := by decide +kernel
theorem dX5_move_8 : decode cX5_move 8 = .ok (.invokestatic 101, 3) := by decide +kernel
theorem dX5_move_11 : decode cX5_move 11 = .ok (.aload 6, 2) := by decide +kernel
theorem dX5_move_13 : decode cX5_move 13 = .ok (.iload_n 2, 1) := by decide +kernel
theorem dX5_move_14 : decode cX5_move 14 = .ok (.iload_n 3, 1) := by decide +kernel
theorem dX5_move_15 : decode cX5_move 15 = .ok (.invokestatic 104, 3) := by decide +kernel
theorem dX5_move_18 : decode cX5_move 18 = .ok (.aload 6, 2) := by decide +kernel
theorem dX5_move_20 : decode cX5_move 20 = .ok (.iload_n 2, 1) := by decide +kernel
theorem dX5_move_21 : decode cX5_move 21 = .ok (.iload 4, 2) := by decide +kernel
theorem dX5_move_23 : decode cX5_move 23 = .ok (.invokestatic 104, 3) := by decide +kernel
theorem dX5_move_26 : decode cX5_move 26 = .ok (.iload_n 3, 1) := by decide +kernel
theorem dX5_move_27 : decode cX5_move 27 = .ok (.iload 4, 2) := by decide +kernel
theorem dX5_move_29 : decode cX5_move 29 = .ok (.if_icmp .ne 13, 3) := by decide +kernel
theorem dX5_move_32 : decode cX5_move 32 = .ok (.new 56, 3) := by decide +kernel
theorem dX5_move_35 : decode cX5_move 35 = .ok (.dup, 1) := by decide +kernel
theorem dX5_move_36 : decode cX5_move 36 = .ok (.ldc 108, 2) := by decide +kernel
theorem dX5_move_38 : decode cX5_move 38 = .ok (.invokespecial 60, 3) := by decide +kernel
theorem dX5_move_41 : decode cX5_move 41 = .ok (.athrow, 1) := by decide +kernel
theorem dX5_move_42 : decode cX5_move 42 = .ok (.iload 5, 2) := by decide +kernel
theorem dX5_move_44 : decode cX5_move 44 = .ok (.iconst 1, 1) := by decide +kernel
theorem dX5_move_45 : decode cX5_move 45 = .ok (.if_icmp .lt 12, 3) := by decide +kernel
theorem dX5_move_48 : decode cX5_move 48 = .ok (.iload 5, 2) := by decide +kernel
theorem dX5_move_50 : decode cX5_move 50 = .ok (.aload_n 0, 1) := by decide +kernel
theorem dX5_move_51 : decode cX5_move 51 = .ok (.getfield 46, 3) := by decide +kernel
theorem dX5_move_54 : decode cX5_move 54 = .ok (.if_icmp .lt 13, 3) := by decide +kernel
theorem dX5_move_57 : decode cX5_move 57 = .ok (.new 56, 3) := by decide +kernel
theorem dX5_move_60 : decode cX5_move 60 = .ok (.dup, 1) := by decide +kernel
theorem dX5_move_61 : decode cX5_move 61 = .ok (.ldc 110, 2) := by decide +kernel
theorem dX5_move_63 : decode cX5_move 63 = .ok (.invokespecial 60, 3) := by decide +kernel
theorem dX5_move_66 : decode cX5_move 66 = .ok (.athrow, 1) := by decide +kernel
theorem dX5_move_67 : decode cX5_move 67 = .ok (.aload 6, 2) := by decide +kernel
theorem dX5_move_69 : decode cX5_move 69 = .ok (.iload_n 2, 1) := by decide +kernel
theorem dX5_move_70 : decode cX5_move 70 = .ok (.iload_n 3, 1) := by decide +kernel
theorem dX5_move_71 : decode cX5_move 71 = .ok (.iload 4, 2) := by decide +kernel
theorem dX5_move_73 : decode cX5_move 73 = .ok (.iload 5, 2) := by decide +kernel
theorem dX5_move_75 : decode cX5_move 75 = .ok (.aload_n 0, 1) := by decide +kernel
theorem dX5_move_76 : decode cX5_move 76 = .ok (.getfield 46, 3) := by decide +kernel
theorem dX5_move_79 : decode cX5_move 79 = .ok (.invokevirtual 112, 3) := by decide +kernel
theorem dX5_move_82 : decode cX5_move 82 = .ok (.aload 6, 2) := by decide +kernel
theorem dX5_move_84 : decode cX5_move 84 = .ok (.iconst 0, 1) := by decide +kernel
theorem dX5_move_85 : decode cX5_move 85 = .ok (.putfield 80, 3) := by decide +kernel
theorem dX5_move_88 : decode cX5_move 88 = .ok (.aload 6, 2) := by decide +kernel
theorem dX5_move_90 : decode cX5_move 90 = .ok (.invokevirtual 116, 3) := by decide +kernel
theorem dX5_move_93 : decode cX5_move 93 = .ok (.ireturn, 1) := by decide +kernel
abbrev rmX5_move : Room := { frames := 7, cells := 5, slots := 30, locals := 112 }
theorem zyX5_move : zyOK yX5_move 5 := ⟨by decide +kernel, by decide +kernel, by decide +kernel⟩
set_option maxHeartbeats 4000000 in
set_option maxRecDepth 100000 in
theorem wX5_move {G : ZG} (a0 : Nat) (a1 : Int32) (a2 : Int32) (a3 : Int32) (a4 : Int32) (a5 : Int32) (S : ZS) (h0 : zFix G cX5_move RX5 7 (some .int) rmX5_move) (C : Option ((Int32 × ZS) ⊕ ZX) → Prop) (hC : ¬ C none) (hnt : zNoTab G) (hE : ∀ (v : Int32) (S1 : ZS), C (some (.inl (v, S1))) → zEndT G (some (.int v)) S1 rmX5_move) (hEx : ∀ (E : String) (h : ZH), C (some (.inr (E, h))) → zEndX G E h rmX5_move) : zV G 7 S 0 0 0 [(0, .ref a0), (1, .int a1), (2, .int a2), (3, .int a3), (4, .int a4), (5, .int a5)] [] (C (fX5_move a0 a1 a2 a3 a4 a5 S)) := by
  have J57 : ∀  (S9 : ZS), zV G 7 S9 4 24 57 [] [] (C (fX5_move_J57 S9)) := by
    intro  S9
    unfold fX5_move_J57
    exact zr_throw h0 hnt (cls := "java/lang/IllegalArgumentException") (text := "times is out of range") (names := ["java/lang/RuntimeException", "java/lang/Exception"]) (by decide +kernel) zfitN zw_112 zw_9 (by decide +kernel) (by decide +kernel) zat_X5_60 zbad_X5_60 zgd_X5_60 dX5_move_57 dX5_move_60 dX5_move_61 dX5_move_63 dX5_move_66 (by decide) (Nat.le_of_ble_eq_true rfl) (by decide) (by decide) (fun h => hEx _ _ h)
  unfold fX5_move
  refine zr_aload_n h0 dX5_move_0 rfl (n := 1) rfl ?_
  refine zr_iload_n h0 dX5_move_1 rfl (n := 2) rfl ?_
  refine zr_cTR C hC 1 6 h0 (fun x hx => zk_VT h0 zcX5 (zcl_ex hx) (fun l D z0 hlt => kX5_needCube l D z0 hlt a0 a1 S x (zcl_of hx)) hnt zw_286 zw_288 zs_2 zw_1 zw_289 rfl zyX5_needCube (As := [.int a1]) (st := []) rfl (by decide) rfl (Nat.le_of_ble_eq_true rfl) (by decide) dX5_move_2) hnt rfl rfl (by decide) (by decide) (n := 5) rfl (fun z h => hEx _ _ h) (fun x1 => ?_)
  refine zr_astore [(0, .ref a0), (1, .int a1), (2, .int a2), (3, .int a3), (4, .int a4), (5, .int a5), (6, .ref x1.1)] h0 dX5_move_5 (by decide) rfl (n := 7) rfl ?_
  refine zr_iload_n h0 dX5_move_7 rfl (n := 8) rfl ?_
  refine zr_cTV C hC 2 12 h0 (fun x hx => zk_ST h0 (fun l D z0 hlt => kX5_needSide l D z0 hlt a2 x1.2 x hx) hnt zw_328 zw_329 zw_1 zw_330 zyX5_needSide (As := [.int a2]) (st := []) rfl (by decide) rfl (Nat.le_of_ble_eq_true rfl) (by decide) dX5_move_8) hnt rfl rfl (by decide) (by decide) (n := 11) rfl (fun z h => hEx _ _ h) (fun x2 => ?_)
  refine zr_aload h0 dX5_move_11 rfl (n := 13) rfl ?_
  refine zr_iload_n h0 dX5_move_13 rfl (n := 14) rfl ?_
  refine zr_iload_n h0 dX5_move_14 rfl (n := 15) rfl ?_
  refine zr_cTV C hC 3 18 h0 (fun x hx => zk_ST h0 (fun l D z0 hlt => kX5_needSlice l D z0 hlt x1.1 a2 a3 x2.2 x hx) hnt zw_332 zw_333 zw_1 zw_334 zyX5_needSlice (As := [.ref x1.1, .int a2, .int a3]) (st := []) rfl (by decide) rfl (Nat.le_of_ble_eq_true rfl) (by decide) dX5_move_15) hnt rfl rfl (by decide) (by decide) (n := 18) rfl (fun z h => hEx _ _ h) (fun x3 => ?_)
  refine zr_aload h0 dX5_move_18 rfl (n := 20) rfl ?_
  refine zr_iload_n h0 dX5_move_20 rfl (n := 21) rfl ?_
  refine zr_iload h0 dX5_move_21 rfl (n := 23) rfl ?_
  refine zr_cTV C hC 4 24 h0 (fun x hx => zk_ST h0 (fun l D z0 hlt => kX5_needSlice l D z0 hlt x1.1 a2 a4 x3.2 x hx) hnt zw_332 zw_333 zw_1 zw_334 zyX5_needSlice (As := [.ref x1.1, .int a2, .int a4]) (st := []) rfl (by decide) rfl (Nat.le_of_ble_eq_true rfl) (by decide) dX5_move_23) hnt rfl rfl (by decide) (by decide) (n := 26) rfl (fun z h => hEx _ _ h) (fun x4 => ?_)
  refine zr_iload_n h0 dX5_move_26 rfl (n := 27) rfl ?_
  refine zr_iload h0 dX5_move_27 rfl (n := 29) rfl ?_
  refine zr_icmp_ne C (tgt := 42) h0 dX5_move_29 (by decide) (n := 32) rfl ?_ ?_
  · refine zv_sub (lv' := []) ?_ (zsub_of [] rfl)
    exact zr_throw h0 hnt (cls := "java/lang/IllegalArgumentException") (text := "the slices are the same") (names := ["java/lang/RuntimeException", "java/lang/Exception"]) (by decide +kernel) zfitN zw_112 zw_9 (by decide +kernel) (by decide +kernel) zat_X5_60 zbad_X5_60 zgd_X5_60 dX5_move_32 dX5_move_35 dX5_move_36 dX5_move_38 dX5_move_41 (by decide) (Nat.le_of_ble_eq_true rfl) (by decide) (by decide) (fun h => hEx _ _ h)
  · refine zv_sub (lv' := [(0, .ref a0), (2, .int a2), (3, .int a3), (4, .int a4), (5, .int a5), (6, .ref x1.1)]) ?_ (zsub_of [0, 2, 3, 4, 5, 6] rfl)
    refine zr_iload h0 dX5_move_42 rfl (n := 44) rfl ?_
    refine zr_iconst (1 : Int32) h0 (by decide) dX5_move_44 (n := 45) rfl ?_
    refine zr_icmp_lt C (tgt := 57) h0 dX5_move_45 (by decide) (n := 48) rfl ?_ ?_
    · refine zv_sub (lv' := []) ?_ (zsub_of [] rfl)
      exact J57 x4.2
    · refine zr_iload h0 dX5_move_48 rfl (n := 50) rfl ?_
      refine zr_aload_n h0 dX5_move_50 rfl (n := 51) rfl ?_
      refine zr_getI C hC h0 zcX5 (k := 6) (by decide) zw_81 dX5_move_51 (n := 54) rfl (fun v5 => ?_)
      refine zr_icmp_lt C (tgt := 67) h0 dX5_move_54 (by decide) (n := 57) rfl ?_ ?_
      · refine zr_aload h0 dX5_move_67 rfl (n := 69) rfl ?_
        refine zr_iload_n h0 dX5_move_69 rfl (n := 70) rfl ?_
        refine zr_iload_n h0 dX5_move_70 rfl (n := 71) rfl ?_
        refine zr_iload h0 dX5_move_71 rfl (n := 73) rfl ?_
        refine zr_iload h0 dX5_move_73 rfl (n := 75) rfl ?_
        refine zr_aload_n h0 dX5_move_75 rfl (n := 76) rfl ?_
        refine zr_getI C hC h0 zcX5 (k := 6) (by decide) zw_81 dX5_move_76 (n := 79) rfl (fun v6 => ?_)
        refine zr_cMV C hC 4 24 (fun x hx => zk_V h0 zcX0 (zcl_ex hx) (fun l D z0 => kX0_addSlice l D z0 x1.1 a2 a3 a4 a5 v6 x4.2 x (zcl_of hx)) zw_342 zw_343 zw_344 zw_11 zw_345 rfl zyX0_addSlice (As := [.int a2, .int a3, .int a4, .int a5, .int v6]) (st := []) rfl (by decide) rfl (Nat.le_of_ble_eq_true rfl) (by decide) dX5_move_79) rfl rfl (n := 82) rfl (fun x7 => ?_)
        refine zr_aload h0 dX5_move_82 rfl (n := 84) rfl ?_
        refine zr_iconst (0 : Int32) h0 (by decide) dX5_move_84 (n := 85) rfl ?_
        refine zr_putF C hC h0 zcX0 (k := 4) (by decide) zw_232 rfl rfl rfl dX5_move_85 (n := 88) rfl (fun S8 => ?_)
        refine zr_aload h0 dX5_move_88 rfl (n := 90) rfl ?_
        refine zr_cRI C hC 4 24 (fun x hx => zk_V h0 zcX0 (zcl_ex hx) (fun l D z0 => kX0_countOthersThanZero l D z0 x1.1 S8 x (zcl_of hx)) zw_350 zw_351 zw_352 zw_11 zw_353 rfl zyX0_countOthersThanZero (As := []) (st := []) rfl (by decide) rfl (Nat.le_of_ble_eq_true rfl) (by decide) dX5_move_90) rfl rfl (n := 93) rfl (fun x9 => ?_)
        exact zr_iretT h0 rfl dX5_move_93 (hE _ _) (by decide) (by decide)
      · refine zv_sub (lv' := []) ?_ (zsub_of [] rfl)
        exact J57 x4.2
theorem kX5_move (l : Launch) (D : ZD) (z0 : Nat) (hlt : l.stackTraces = false) (a0 : Nat) (a1 : Int32) (a2 : Int32) (a3 : Int32) (a4 : Int32) (a5 : Int32) (S : ZS) (x : ((Int32 × ZS) ⊕ ZX)) (hf : fX5_move a0 a1 a2 a3 a4 a5 S = some x) : zMetT l D z0 yX5_move cX5_move 7 (some .int) rmX5_move [.ref a0, .int a1, .int a2, .int a3, .int a4, .int a5] S (x.map (fun y => ((some (.int y.1)), y.2)) id) :=
  zMetT_of hlt (by decide) (Nat.le_of_ble_eq_true rfl) (fun G h0 hnt hE hEx => wX5_move a0 a1 a2 a3 a4 a5 S h0 (fun o => o = some x) (fun h => nomatch h) hnt (fun v S1 h => by cases h; exact hE _ _ rfl) (fun E h hh => by cases hh; exact hEx _ _ rfl)) hf
theorem dX0_isLike_0 : decode cX0_isLike 0 = .ok (.aload_n 0, 1) := by decide +kernel
theorem dX0_isLike_1 : decode cX0_isLike 1 = .ok (.getfield 9, 3) := by decide +kernel
theorem dX0_isLike_4 : decode cX0_isLike 4 = .ok (.aload_n 1, 1) := by decide +kernel
theorem dX0_isLike_5 : decode cX0_isLike 5 = .ok (.getfield 9, 3) := by decide +kernel
theorem dX0_isLike_8 : decode cX0_isLike 8 = .ok (.if_icmp .ne 29, 3) := by decide +kernel
theorem dX0_isLike_11 : decode cX0_isLike 11 = .ok (.aload_n 0, 1) := by decide +kernel
theorem dX0_isLike_12 : decode cX0_isLike 12 = .ok (.getfield 15, 3) := by decide +kernel
theorem dX0_isLike_15 : decode cX0_isLike 15 = .ok (.aload_n 1, 1) := by decide +kernel
theorem dX0_isLike_16 : decode cX0_isLike 16 = .ok (.getfield 15, 3) := by decide +kernel
theorem dX0_isLike_19 : decode cX0_isLike 19 = .ok (.if_icmp .ne 18, 3) := by decide +kernel
theorem dX0_isLike_22 : decode cX0_isLike 22 = .ok (.aload_n 0, 1) := by decide +kernel
theorem dX0_isLike_23 : decode cX0_isLike 23 = .ok (.getfield 18, 3) := by decide +kernel
theorem dX0_isLike_26 : decode cX0_isLike 26 = .ok (.aload_n 1, 1) := by decide +kernel
theorem dX0_isLike_27 : decode cX0_isLike 27 = .ok (.getfield 18, 3) := by decide +kernel
theorem dX0_isLike_30 : decode cX0_isLike 30 = .ok (.if_icmp .ne 7, 3) := by decide +kernel
theorem dX0_isLike_33 : decode cX0_isLike 33 = .ok (.iconst 1, 1) := by decide +kernel
theorem dX0_isLike_34 : decode cX0_isLike 34 = .ok (.goto 4, 3) := by decide +kernel
theorem dX0_isLike_37 : decode cX0_isLike 37 = .ok (.iconst 0, 1) := by decide +kernel
theorem dX0_isLike_38 : decode cX0_isLike 38 = .ok (.ireturn, 1) := by decide +kernel
abbrev rmX0_isLike : Room := { frames := 1, cells := 0, slots := 0, locals := 20 }
theorem zyX0_isLike : zyOK yX0_isLike 1 := ⟨by decide +kernel, by decide +kernel, by decide +kernel⟩
set_option maxHeartbeats 4000000 in
set_option maxRecDepth 100000 in
theorem wX0_isLike {G : ZG} (a0 : Nat) (a1 : Nat) (S : ZS) (h0 : zFix G cX0_isLike RX0 2 (some .boolean) rmX0_isLike) (C : Option Int32 → Prop) (hC : ¬ C none) (hE : ∀ v : Int32, C (some v) → zEnd G (some (.int v)) S rmX0_isLike) : zV G 2 S 0 0 0 [(0, .ref a0), (1, .ref a1)] [] (C (fX0_isLike a0 a1 S)) := by
  have J38 : ∀ (s0 : Int32), zV G 2 S 0 0 38 [] [.int s0] (C (fX0_isLike_J38 s0 S)) := by
    intro s0
    unfold fX0_isLike_J38
    exact zr_zret C hC h0 rfl dX0_isLike_38 (fun w h => hE _ h) (by decide) (by decide)
  have J37 : zV G 2 S 0 0 37 [] [] (C (fX0_isLike_J37 S)) := by
    unfold fX0_isLike_J37
    refine zr_iconst (0 : Int32) h0 (by decide) dX0_isLike_37 (n := 38) rfl ?_
    exact J38 (0 : Int32)
  unfold fX0_isLike
  refine zr_aload_n h0 dX0_isLike_0 rfl (n := 1) rfl ?_
  refine zr_getI C hC h0 zcX0 (k := 0) (by decide) zw_217 dX0_isLike_1 (n := 4) rfl (fun v1 => ?_)
  refine zr_aload_n h0 dX0_isLike_4 rfl (n := 5) rfl ?_
  refine zr_getI C hC h0 zcX0 (k := 0) (by decide) zw_217 dX0_isLike_5 (n := 8) rfl (fun v2 => ?_)
  refine zr_icmp_ne C (tgt := 37) h0 dX0_isLike_8 (by decide) (n := 11) rfl ?_ ?_
  · refine zr_aload_n h0 dX0_isLike_11 rfl (n := 12) rfl ?_
    refine zr_getI C hC h0 zcX0 (k := 1) (by decide) zw_221 dX0_isLike_12 (n := 15) rfl (fun v3 => ?_)
    refine zr_aload_n h0 dX0_isLike_15 rfl (n := 16) rfl ?_
    refine zr_getI C hC h0 zcX0 (k := 1) (by decide) zw_221 dX0_isLike_16 (n := 19) rfl (fun v4 => ?_)
    refine zr_icmp_ne C (tgt := 37) h0 dX0_isLike_19 (by decide) (n := 22) rfl ?_ ?_
    · refine zr_aload_n h0 dX0_isLike_22 rfl (n := 23) rfl ?_
      refine zr_getI C hC h0 zcX0 (k := 2) (by decide) zw_225 dX0_isLike_23 (n := 26) rfl (fun v5 => ?_)
      refine zr_aload_n h0 dX0_isLike_26 rfl (n := 27) rfl ?_
      refine zr_getI C hC h0 zcX0 (k := 2) (by decide) zw_225 dX0_isLike_27 (n := 30) rfl (fun v6 => ?_)
      refine zr_icmp_ne C (tgt := 37) h0 dX0_isLike_30 (by decide) (n := 33) rfl ?_ ?_
      · refine zv_sub (lv' := []) ?_ (zsub_of [] rfl)
        refine zr_iconst (1 : Int32) h0 (by decide) dX0_isLike_33 (n := 34) rfl ?_
        refine zr_goto (tgt := 38) h0 dX0_isLike_34 (by decide) ?_
        exact J38 (1 : Int32)
      · refine zv_sub (lv' := []) ?_ (zsub_of [] rfl)
        exact J37
    · refine zv_sub (lv' := []) ?_ (zsub_of [] rfl)
      exact J37
  · refine zv_sub (lv' := []) ?_ (zsub_of [] rfl)
    exact J37
theorem kX0_isLike (l : Launch) (D : ZD) (z0 : Nat) (a0 : Nat) (a1 : Nat) (S : ZS) (x : Int32) (hf : fX0_isLike a0 a1 S = some x) : zMet l D z0 yX0_isLike cX0_isLike 2 (some .boolean) rmX0_isLike [.ref a0, .ref a1] S (some (.int x)) S :=
  zMet_of (by decide) (Nat.le_of_ble_eq_true rfl) (fun G h0 hini hE => wX0_isLike a0 a1 S h0 (fun o => o = some x) (fun h => nomatch h) (fun v h => by cases h; exact hE)) hf
theorem dX5_sum_0 : decode cX5_sum 0 = .ok (.aload_n 0, 1) := by decide +kernel
theorem dX5_sum_1 : decode cX5_sum 1 = .ok (.iload_n 1, 1) := by decide +kernel
theorem dX5_sum_2 : decode cX5_sum 2 = .ok (.invokevirtual 87, 3) := by decide +kernel
theorem dX5_sum_5 : decode cX5_sum 5 = .ok (.astore_n 3, 1) := by decide +kernel
theorem dX5_sum_6 : decode cX5_sum 6 = .ok (.aload_n 0, 1) := by decide +kernel
theorem dX5_sum_7 : decode cX5_sum 7 = .ok (.iload_n 2, 1) := by decide +kernel
theorem dX5_sum_8 : decode cX5_sum 8 = .ok (.invokevirtual 87, 3) := by decide +kernel
theorem dX5_sum_11 : decode cX5_sum 11 = .ok (.astore 4, 2) := by decide +kernel
theorem dX5_sum_13 : decode cX5_sum 13 = .ok (.aload_n 3, 1) := by decide +kernel
theorem dX5_sum_14 : decode cX5_sum 14 = .ok (.aload 4, 2) := by decide +kernel
theorem dX5_sum_16 : decode cX5_sum 16 = .ok (.invokevirtual 120, 3) := by decide +kernel
theorem dX5_sum_19 : decode cX5_sum 19 = .ok (.ifCond .ne 13, 3) := by decide +kernel
theorem dX5_sum_22 : decode cX5_sum 22 = .ok (.new 56, 3) := by decide +kernel
theorem dX5_sum_25 : decode cX5_sum 25 = .ok (.dup, 1) := by decide +kernel
theorem dX5_sum_26 : decode cX5_sum 26 = .ok (.ldc 124, 2) := by decide +kernel
theorem dX5_sum_28 : decode cX5_sum 28 = .ok (.invokespecial 60, 3) := by decide +kernel
theorem dX5_sum_31 : decode cX5_sum 31 = .ok (.athrow, 1) := by decide +kernel
theorem dX5_sum_32 : decode cX5_sum 32 = .ok (.aload_n 0, 1) := by decide +kernel
theorem dX5_sum_33 : decode cX5_sum 33 = .ok (.aload_n 3, 1) := by decide +kernel
theorem dX5_sum_34 : decode cX5_sum 34 = .ok (.getfield 126, 3) := by decide +kernel
theorem dX5_sum_37 : decode cX5_sum 37 = .ok (.aload_n 3, 1) := by decide +kernel
theorem dX5_sum_38 : decode cX5_sum 38 = .ok (.getfield 129, 3) := by decide +kernel
theorem dX5_sum_41 : decode cX5_sum 41 = .ok (.aload_n 3, 1) := by decide +kernel
theorem dX5_sum_42 : decode cX5_sum 42 = .ok (.getfield 132, 3) := by decide +kernel
theorem dX5_sum_45 : decode cX5_sum 45 = .ok (.invokevirtual 68, 3) := by decide +kernel
theorem dX5_sum_48 : decode cX5_sum 48 = .ok (.astore 5, 2) := by decide +kernel
theorem dX5_sum_50 : decode cX5_sum 50 = .ok (.iconst 0, 1) := by decide +kernel
theorem dX5_sum_51 : decode cX5_sum 51 = .ok (.istore 6, 2) := by decide +kernel
theorem dX5_sum_53 : decode cX5_sum 53 = .ok (.iload 6, 2) := by decide +kernel
theorem dX5_sum_55 : decode cX5_sum 55 = .ok (.aload 5, 2) := by decide +kernel
theorem dX5_sum_57 : decode cX5_sum 57 = .ok (.getfield 126, 3) := by decide +kernel
theorem dX5_sum_60 : decode cX5_sum 60 = .ok (.if_icmp .ge 87, 3) := by decide +kernel
theorem dX5_sum_63 : decode cX5_sum 63 = .ok (.iconst 0, 1) := by decide +kernel
theorem dX5_sum_64 : decode cX5_sum 64 = .ok (.istore 7, 2) := by decide +kernel
theorem dX5_sum_66 : decode cX5_sum 66 = .ok (.iload 7, 2) := by decide +kernel
theorem dX5_sum_68 : decode cX5_sum 68 = .ok (.aload 5, 2) := by decide +kernel
theorem dX5_sum_70 : decode cX5_sum 70 = .ok (.getfield 129, 3) := by decide +kernel
theorem dX5_sum_73 : decode cX5_sum 73 = .ok (.if_icmp .ge 68, 3) := by decide +kernel
theorem dX5_sum_76 : decode cX5_sum 76 = .ok (.iconst 0, 1) := by decide +kernel
theorem dX5_sum_77 : decode cX5_sum 77 = .ok (.istore 8, 2) := by decide +kernel
theorem dX5_sum_79 : decode cX5_sum 79 = .ok (.iload 8, 2) := by decide +kernel
theorem dX5_sum_81 : decode cX5_sum 81 = .ok (.aload 5, 2) := by decide +kernel
theorem dX5_sum_83 : decode cX5_sum 83 = .ok (.getfield 132, 3) := by decide +kernel
theorem dX5_sum_86 : decode cX5_sum 86 = .ok (.if_icmp .ge 49, 3) := by decide +kernel
theorem dX5_sum_89 : decode cX5_sum 89 = .ok (.aload 5, 2) := by decide +kernel
theorem dX5_sum_91 : decode cX5_sum 91 = .ok (.iload 6, 2) := by decide +kernel
theorem dX5_sum_93 : decode cX5_sum 93 = .ok (.iload 7, 2) := by decide +kernel
theorem dX5_sum_95 : decode cX5_sum 95 = .ok (.iload 8, 2) := by decide +kernel
theorem dX5_sum_97 : decode cX5_sum 97 = .ok (.aload_n 3, 1) := by decide +kernel
theorem dX5_sum_98 : decode cX5_sum 98 = .ok (.iload 6, 2) := by decide +kernel
theorem dX5_sum_100 : decode cX5_sum 100 = .ok (.iload 7, 2) := by decide +kernel
theorem dX5_sum_102 : decode cX5_sum 102 = .ok (.iload 8, 2) := by decide +kernel
theorem dX5_sum_104 : decode cX5_sum 104 = .ok (.invokevirtual 97, 3) := by decide +kernel
theorem dX5_sum_107 : decode cX5_sum 107 = .ok (.aload 4, 2) := by decide +kernel
theorem dX5_sum_109 : decode cX5_sum 109 = .ok (.iload 6, 2) := by decide +kernel
theorem dX5_sum_111 : decode cX5_sum 111 = .ok (.iload 7, 2) := by decide +kernel
theorem dX5_sum_113 : decode cX5_sum 113 = .ok (.iload 8, 2) := by decide +kernel
theorem dX5_sum_115 : decode cX5_sum 115 = .ok (.invokevirtual 97, 3) := by decide +kernel
theorem dX5_sum_118 : decode cX5_sum 118 = .ok (.iadd, 1) := by decide +kernel
theorem dX5_sum_119 : decode cX5_sum 119 = .ok (.aload_n 0, 1) := by decide +kernel
theorem dX5_sum_120 : decode cX5_sum 120 = .ok (.getfield 46, 3) := by decide +kernel
theorem dX5_sum_123 : decode cX5_sum 123 = .ok (.invokestatic 83, 3) := by decide +kernel
theorem dX5_sum_126 : decode cX5_sum 126 = .ok (.invokevirtual 76, 3) := by decide +kernel
theorem dX5_sum_129 : decode cX5_sum 129 = .ok (.iinc 8 1, 3) := by decide +kernel
theorem dX5_sum_132 : decode cX5_sum 132 = .ok (.goto (-53), 3) := by decide +kernel
theorem dX5_sum_135 : decode cX5_sum 135 = .ok (.iinc 7 1, 3) := by decide +kernel
theorem dX5_sum_138 : decode cX5_sum 138 = .ok (.goto (-72), 3) := by decide +kernel
theorem dX5_sum_141 : decode cX5_sum 141 = .ok (.iinc 6 1, 3) := by decide +kernel
theorem dX5_sum_144 : decode cX5_sum 144 = .ok (.goto (-91), 3) := by decide +kernel
theorem dX5_sum_147 : decode cX5_sum 147 = .ok (.aload_n 0, 1) := by decide +kernel
theorem dX5_sum_148 : decode cX5_sum 148 = .ok (.getfield 50, 3) := by decide +kernel
theorem dX5_sum_151 : decode cX5_sum 151 = .ok (.iconst 1, 1) := by decide +kernel
theorem dX5_sum_152 : decode cX5_sum 152 = .ok (.isub, 1) := by decide +kernel
theorem dX5_sum_153 : decode cX5_sum 153 = .ok (.ireturn, 1) := by decide +kernel
abbrev rmX5_sum : Room := { frames := 8, cells := 7, slots := 99, locals := 134 }
theorem zyX5_sum : zyOK yX5_sum 2 := ⟨by decide +kernel, by decide +kernel, by decide +kernel⟩
set_option maxHeartbeats 4000000 in
set_option maxRecDepth 100000 in
theorem wX5_sum {G : ZG} (a0 : Nat) (a1 : Int32) (a2 : Int32) (S : ZS) (h0 : zFix G cX5_sum RX5 9 (some .int) rmX5_sum) (C : Option ((Int32 × ZS) ⊕ ZX) → Prop) (hC : ¬ C none) (hnt : zNoTab G) (hE : ∀ (v : Int32) (S1 : ZS), C (some (.inl (v, S1))) → zEndT G (some (.int v)) S1 rmX5_sum) (hEx : ∀ (E : String) (h : ZH), C (some (.inr (E, h))) → zEndX G E h rmX5_sum) : zV G 9 S 0 0 0 [(0, .ref a0), (1, .int a1), (2, .int a2)] [] (C (fX5_sum a0 a1 a2 S)) := by
  unfold fX5_sum
  refine zr_aload_n h0 dX5_sum_0 rfl (n := 1) rfl ?_
  refine zr_iload_n h0 dX5_sum_1 rfl (n := 2) rfl ?_
  refine zr_cTR C hC 1 6 h0 (fun x hx => zk_VT h0 zcX5 (zcl_ex hx) (fun l D z0 hlt => kX5_needCube l D z0 hlt a0 a1 S x (zcl_of hx)) hnt zw_286 zw_288 zs_2 zw_1 zw_289 rfl zyX5_needCube (As := [.int a1]) (st := []) rfl (by decide) rfl (Nat.le_of_ble_eq_true rfl) (by decide) dX5_sum_2) hnt rfl rfl (by decide) (by decide) (n := 5) rfl (fun z h => hEx _ _ h) (fun x1 => ?_)
  refine zr_astore_n [(0, .ref a0), (1, .int a1), (2, .int a2), (3, .ref x1.1)] h0 dX5_sum_5 (by decide) rfl (n := 6) rfl ?_
  refine zr_aload_n h0 dX5_sum_6 rfl (n := 7) rfl ?_
  refine zr_iload_n h0 dX5_sum_7 rfl (n := 8) rfl ?_
  refine zr_cTR C hC 2 12 h0 (fun x hx => zk_VT h0 zcX5 (zcl_ex hx) (fun l D z0 hlt => kX5_needCube l D z0 hlt a0 a2 x1.2 x (zcl_of hx)) hnt zw_286 zw_288 zs_2 zw_1 zw_289 rfl zyX5_needCube (As := [.int a2]) (st := []) rfl (by decide) rfl (Nat.le_of_ble_eq_true rfl) (by decide) dX5_sum_8) hnt rfl rfl (by decide) (by decide) (n := 11) rfl (fun z h => hEx _ _ h) (fun x2 => ?_)
  refine zr_astore [(0, .ref a0), (1, .int a1), (2, .int a2), (3, .ref x1.1), (4, .ref x2.1)] h0 dX5_sum_11 (by decide) rfl (n := 13) rfl ?_
  refine zr_aload_n h0 dX5_sum_13 rfl (n := 14) rfl ?_
  refine zr_aload h0 dX5_sum_14 rfl (n := 16) rfl ?_
  refine zr_cRI C hC 2 12 (fun x hx => zk_V h0 zcX0 (zcl_ex hx) (fun l D z0 => kX0_isLike l D z0 x1.1 x2.1 x2.2 x (zcl_of hx)) zw_361 zw_362 zw_363 zw_11 zw_364 rfl zyX0_isLike (As := [.ref x2.1]) (st := []) rfl (by decide) rfl (Nat.le_of_ble_eq_true rfl) (by decide) dX5_sum_16) rfl rfl (n := 19) rfl (fun x3 => ?_)
  refine zr_if_ne C (tgt := 32) h0 dX5_sum_19 (by decide) (n := 22) rfl ?_ ?_
  · refine zv_sub (lv' := []) ?_ (zsub_of [] rfl)
    exact zr_throw h0 hnt (cls := "java/lang/IllegalArgumentException") (text := "the sizes are unlike") (names := ["java/lang/RuntimeException", "java/lang/Exception"]) (by decide +kernel) zfitN zw_112 zw_9 (by decide +kernel) (by decide +kernel) zat_X5_60 zbad_X5_60 zgd_X5_60 dX5_sum_22 dX5_sum_25 dX5_sum_26 dX5_sum_28 dX5_sum_31 (by decide) (Nat.le_of_ble_eq_true rfl) (by decide) (by decide) (fun h => hEx _ _ h)
  · refine zv_sub (lv' := [(0, .ref a0), (3, .ref x1.1), (4, .ref x2.1)]) ?_ (zsub_of [0, 3, 4] rfl)
    refine zr_aload_n h0 dX5_sum_32 rfl (n := 33) rfl ?_
    refine zr_aload_n h0 dX5_sum_33 rfl (n := 34) rfl ?_
    refine zr_getI C hC h0 zcX0 (k := 0) (by decide) zw_220 dX5_sum_34 (n := 37) rfl (fun v4 => ?_)
    refine zr_aload_n h0 dX5_sum_37 rfl (n := 38) rfl ?_
    refine zr_getI C hC h0 zcX0 (k := 1) (by decide) zw_224 dX5_sum_38 (n := 41) rfl (fun v5 => ?_)
    refine zr_aload_n h0 dX5_sum_41 rfl (n := 42) rfl ?_
    refine zr_getI C hC h0 zcX0 (k := 2) (by decide) zw_228 dX5_sum_42 (n := 45) rfl (fun v6 => ?_)
    refine zr_cTR C hC 7 99 h0 (fun x hx => zk_VT h0 zcX5 (zcl_ex hx) (fun l D z0 hlt => kX5_addCube l D z0 hlt a0 v4 v5 v6 x2.2 x (zcl_of hx)) hnt zw_203 zw_205 zs_1 zw_1 zw_206 rfl zyX5_addCube (As := [.int v4, .int v5, .int v6]) (st := []) rfl (by decide) rfl (Nat.le_of_ble_eq_true rfl) (by decide) dX5_sum_45) hnt rfl rfl (by decide) (by decide) (n := 48) rfl (fun z h => hEx _ _ h) (fun x7 => ?_)
    refine zr_astore [(0, .ref a0), (3, .ref x1.1), (4, .ref x2.1), (5, .ref x7.1)] h0 dX5_sum_48 (by decide) rfl (n := 50) rfl ?_
    refine zr_iconst (0 : Int32) h0 (by decide) dX5_sum_50 (n := 51) rfl ?_
    refine zr_istore [(0, .ref a0), (3, .ref x1.1), (4, .ref x2.1), (5, .ref x7.1), (6, .int (0 : Int32))] h0 dX5_sum_51 (by decide) rfl (n := 53) rfl ?_
    refine zr_loop hC (fX5_sum_B53 a0 x1.1 x2.1 x7.1) (fun y => [(0, .ref a0), (3, .ref x1.1), (4, .ref x2.1), (5, .ref x7.1), (6, .int y.1)]) (fun y => y.2) zF ((0 : Int32), x7.2) (fun C53 hC53 hX53 hL53 t53 => ?_)
    unfold fX5_sum_B53
    refine zr_iload h0 dX5_sum_53 rfl (n := 55) rfl ?_
    refine zr_aload h0 dX5_sum_55 rfl (n := 57) rfl ?_
    refine zr_getI C53 hC53 h0 zcX0 (k := 0) (by decide) zw_220 dX5_sum_57 (n := 60) rfl (fun v30 => ?_)
    refine zr_icmp_ge C53 (tgt := 147) h0 dX5_sum_60 (by decide) (n := 63) rfl ?_ ?_
    · refine zr_ex hX53 ?_
      refine zv_sub (lv' := [(0, .ref a0)]) ?_ (zsub_of [0] rfl)
      refine zr_aload_n h0 dX5_sum_147 rfl (n := 148) rfl ?_
      refine zr_getI C hC h0 zcX5 (k := 7) (by decide) zw_82 dX5_sum_148 (n := 151) rfl (fun v31 => ?_)
      refine zr_iconst (1 : Int32) h0 (by decide) dX5_sum_151 (n := 152) rfl ?_
      refine zr_isub h0 dX5_sum_152 (n := 153) rfl ?_
      exact zr_iretT h0 rfl dX5_sum_153 (hE _ _) (by decide) (by decide)
    · refine zr_iconst (0 : Int32) h0 (by decide) dX5_sum_63 (n := 64) rfl ?_
      refine zr_istore [(0, .ref a0), (3, .ref x1.1), (4, .ref x2.1), (5, .ref x7.1), (6, .int t53.1), (7, .int (0 : Int32))] h0 dX5_sum_64 (by decide) rfl (n := 66) rfl ?_
      refine zr_loop hC53 (fX5_sum_B66 a0 x1.1 x2.1 x7.1 t53.1) (fun y => [(0, .ref a0), (3, .ref x1.1), (4, .ref x2.1), (5, .ref x7.1), (6, .int t53.1), (7, .int y.1)]) (fun y => y.2) zF ((0 : Int32), t53.2) (fun C66 hC66 hX66 hL66 t66 => ?_)
      unfold fX5_sum_B66
      refine zr_iload h0 dX5_sum_66 rfl (n := 68) rfl ?_
      refine zr_aload h0 dX5_sum_68 rfl (n := 70) rfl ?_
      refine zr_getI C66 hC66 h0 zcX0 (k := 1) (by decide) zw_224 dX5_sum_70 (n := 73) rfl (fun v32 => ?_)
      refine zr_icmp_ge C66 (tgt := 141) h0 dX5_sum_73 (by decide) (n := 76) rfl ?_ ?_
      · refine zr_ex hX66 ?_
        refine zv_sub (lv' := [(0, .ref a0), (3, .ref x1.1), (4, .ref x2.1), (5, .ref x7.1), (6, .int t53.1)]) ?_ (zsub_of [0, 1, 2, 3, 4] rfl)
        refine zr_iinc (1 : Int32) [(0, .ref a0), (3, .ref x1.1), (4, .ref x2.1), (5, .ref x7.1), (6, .int (t53.1 + (1 : Int32)))] h0 dX5_sum_141 rfl (by decide) rfl rfl (n := 144) rfl ?_
        refine zr_goto (tgt := 53) h0 dX5_sum_144 (by decide) ?_
        exact hL53 (t53.1 + (1 : Int32), t66.2)
      · refine zr_iconst (0 : Int32) h0 (by decide) dX5_sum_76 (n := 77) rfl ?_
        refine zr_istore [(0, .ref a0), (3, .ref x1.1), (4, .ref x2.1), (5, .ref x7.1), (6, .int t53.1), (7, .int t66.1), (8, .int (0 : Int32))] h0 dX5_sum_77 (by decide) rfl (n := 79) rfl ?_
        refine zr_loop hC66 (fX5_sum_B79 a0 x1.1 x2.1 x7.1 t53.1 t66.1) (fun y => [(0, .ref a0), (3, .ref x1.1), (4, .ref x2.1), (5, .ref x7.1), (6, .int t53.1), (7, .int t66.1), (8, .int y.1)]) (fun y => y.2) zF ((0 : Int32), t66.2) (fun C79 hC79 hX79 hL79 t79 => ?_)
        unfold fX5_sum_B79
        refine zr_iload h0 dX5_sum_79 rfl (n := 81) rfl ?_
        refine zr_aload h0 dX5_sum_81 rfl (n := 83) rfl ?_
        refine zr_getI C79 hC79 h0 zcX0 (k := 2) (by decide) zw_228 dX5_sum_83 (n := 86) rfl (fun v33 => ?_)
        refine zr_icmp_ge C79 (tgt := 135) h0 dX5_sum_86 (by decide) (n := 89) rfl ?_ ?_
        · refine zr_ex hX79 ?_
          refine zv_sub (lv' := [(0, .ref a0), (3, .ref x1.1), (4, .ref x2.1), (5, .ref x7.1), (6, .int t53.1), (7, .int t66.1)]) ?_ (zsub_of [0, 1, 2, 3, 4, 5] rfl)
          refine zr_iinc (1 : Int32) [(0, .ref a0), (3, .ref x1.1), (4, .ref x2.1), (5, .ref x7.1), (6, .int t53.1), (7, .int (t66.1 + (1 : Int32)))] h0 dX5_sum_135 rfl (by decide) rfl rfl (n := 138) rfl ?_
          refine zr_goto (tgt := 66) h0 dX5_sum_138 (by decide) ?_
          exact hL66 (t66.1 + (1 : Int32), t79.2)
        · refine zr_aload h0 dX5_sum_89 rfl (n := 91) rfl ?_
          refine zr_iload h0 dX5_sum_91 rfl (n := 93) rfl ?_
          refine zr_iload h0 dX5_sum_93 rfl (n := 95) rfl ?_
          refine zr_iload h0 dX5_sum_95 rfl (n := 97) rfl ?_
          refine zr_aload_n h0 dX5_sum_97 rfl (n := 98) rfl ?_
          refine zr_iload h0 dX5_sum_98 rfl (n := 100) rfl ?_
          refine zr_iload h0 dX5_sum_100 rfl (n := 102) rfl ?_
          refine zr_iload h0 dX5_sum_102 rfl (n := 104) rfl ?_
          refine zr_cRI C79 hC79 7 99 (fun x hx => zk_V h0 zcX0 (zcl_ex hx) (fun l D z0 => kX0_numberAt l D z0 x1.1 t53.1 t66.1 t79.1 t79.2 x (zcl_of hx)) zw_314 zw_315 zw_316 zw_11 zw_317 rfl zyX0_numberAt (As := [.int t53.1, .int t66.1, .int t79.1]) (st := [.int t79.1, .int t66.1, .int t53.1, .ref x7.1]) rfl (by decide) rfl (Nat.le_of_ble_eq_true rfl) (by decide) dX5_sum_104) rfl rfl (n := 107) rfl (fun x34 => ?_)
          refine zr_aload h0 dX5_sum_107 rfl (n := 109) rfl ?_
          refine zr_iload h0 dX5_sum_109 rfl (n := 111) rfl ?_
          refine zr_iload h0 dX5_sum_111 rfl (n := 113) rfl ?_
          refine zr_iload h0 dX5_sum_113 rfl (n := 115) rfl ?_
          refine zr_cRI C79 hC79 7 99 (fun x hx => zk_V h0 zcX0 (zcl_ex hx) (fun l D z0 => kX0_numberAt l D z0 x2.1 t53.1 t66.1 t79.1 t79.2 x (zcl_of hx)) zw_314 zw_315 zw_316 zw_11 zw_317 rfl zyX0_numberAt (As := [.int t53.1, .int t66.1, .int t79.1]) (st := [.int x34, .int t79.1, .int t66.1, .int t53.1, .ref x7.1]) rfl (by decide) rfl (Nat.le_of_ble_eq_true rfl) (by decide) dX5_sum_115) rfl rfl (n := 118) rfl (fun x35 => ?_)
          refine zr_iadd h0 dX5_sum_118 (n := 119) rfl ?_
          refine zr_aload_n h0 dX5_sum_119 rfl (n := 120) rfl ?_
          refine zr_getI C79 hC79 h0 zcX5 (k := 6) (by decide) zw_81 dX5_sum_120 (n := 123) rfl (fun v36 => ?_)
          refine zr_cRI C79 hC79 7 99 (fun x hx => zk_S h0 (fun l D z0 => kX5_remainder l D z0 (x34 + x35) v36 t79.2 x hx) zw_275 zw_276 zw_1 zw_277 zyX5_remainder (As := [.int (x34 + x35), .int v36]) (st := [.int t79.1, .int t66.1, .int t53.1, .ref x7.1]) rfl (by decide) rfl (Nat.le_of_ble_eq_true rfl) (by decide) dX5_sum_123) rfl rfl (n := 126) rfl (fun x37 => ?_)
          refine zr_cMV C79 hC79 7 99 (fun x hx => zk_V h0 zcX0 (zcl_ex hx) (fun l D z0 => kX0_enter l D z0 x7.1 t53.1 t66.1 t79.1 x37 t79.2 x (zcl_of hx)) zw_251 zw_252 zw_253 zw_11 zw_254 rfl zyX0_enter (As := [.int t53.1, .int t66.1, .int t79.1, .int x37]) (st := []) rfl (by decide) rfl (Nat.le_of_ble_eq_true rfl) (by decide) dX5_sum_126) rfl rfl (n := 129) rfl (fun x38 => ?_)
          refine zr_iinc (1 : Int32) [(0, .ref a0), (3, .ref x1.1), (4, .ref x2.1), (5, .ref x7.1), (6, .int t53.1), (7, .int t66.1), (8, .int (t79.1 + (1 : Int32)))] h0 dX5_sum_129 rfl (by decide) rfl rfl (n := 132) rfl ?_
          refine zr_goto (tgt := 79) h0 dX5_sum_132 (by decide) ?_
          exact hL79 (t79.1 + (1 : Int32), x38)
theorem kX5_sum (l : Launch) (D : ZD) (z0 : Nat) (hlt : l.stackTraces = false) (a0 : Nat) (a1 : Int32) (a2 : Int32) (S : ZS) (x : ((Int32 × ZS) ⊕ ZX)) (hf : fX5_sum a0 a1 a2 S = some x) : zMetT l D z0 yX5_sum cX5_sum 9 (some .int) rmX5_sum [.ref a0, .int a1, .int a2] S (x.map (fun y => ((some (.int y.1)), y.2)) id) :=
  zMetT_of hlt (by decide) (Nat.le_of_ble_eq_true rfl) (fun G h0 hnt hE hEx => wX5_sum a0 a1 a2 S h0 (fun o => o = some x) (fun h => nomatch h) hnt (fun v S1 h => by cases h; exact hE _ _ rfl) (fun E h hh => by cases hh; exact hEx _ _ rfl)) hf
theorem dX5_quotient_0 : decode cX5_quotient 0 = .ok (.iload_n 1, 1) := by decide +kernel
theorem dX5_quotient_1 : decode cX5_quotient 1 = .ok (.ifCond .le 9, 3) := by decide +kernel
theorem dX5_quotient_4 : decode cX5_quotient 4 = .ok (.iload_n 0, 1) := by decide +kernel
theorem dX5_quotient_5 : decode cX5_quotient 5 = .ok (.iload_n 1, 1) := by decide +kernel
theorem dX5_quotient_6 : decode cX5_quotient 6 = .ok (.idiv, 1) := by decide +kernel
theorem dX5_quotient_7 : decode cX5_quotient 7 = .ok (.goto 4, 3) := by decide +kernel
theorem dX5_quotient_10 : decode cX5_quotient 10 = .ok (.iconst 0, 1) := by decide +kernel
theorem dX5_quotient_11 : decode cX5_quotient 11 = .ok (.ireturn, 1) := by decide +kernel
abbrev rmX5_quotient : Room := { frames := 1, cells := 0, slots := 0, locals := 20 }
theorem zyX5_quotient : zyOK yX5_quotient 2 := ⟨by decide +kernel, by decide +kernel, by decide +kernel⟩
set_option maxHeartbeats 4000000 in
set_option maxRecDepth 100000 in
theorem wX5_quotient {G : ZG} (a0 : Int32) (a1 : Int32) (S : ZS) (h0 : zFix G cX5_quotient RX5 2 (some .int) rmX5_quotient) (C : Option Int32 → Prop) (hC : ¬ C none) (hE : ∀ v : Int32, C (some v) → zEnd G (some (.int v)) S rmX5_quotient) : zV G 2 S 0 0 0 [(0, .int a0), (1, .int a1)] [] (C (fX5_quotient a0 a1)) := by
  have J11 : ∀ (s0 : Int32), zV G 2 S 0 0 11 [] [.int s0] (C (fX5_quotient_J11 s0)) := by
    intro s0
    unfold fX5_quotient_J11
    exact zr_iret h0 rfl dX5_quotient_11 (hE _) (by decide) (by decide)
  unfold fX5_quotient
  refine zr_iload_n h0 dX5_quotient_0 rfl (n := 1) rfl ?_
  refine zr_if_le C (tgt := 10) h0 dX5_quotient_1 (by decide) (n := 4) rfl ?_ ?_
  · refine zv_sub (lv' := []) ?_ (zsub_of [] rfl)
    refine zr_iconst (0 : Int32) h0 (by decide) dX5_quotient_10 (n := 11) rfl ?_
    exact J11 (0 : Int32)
  · refine zr_iload_n h0 dX5_quotient_4 rfl (n := 5) rfl ?_
    refine zr_iload_n h0 dX5_quotient_5 rfl (n := 6) rfl ?_
    refine zr_idiv C hC h0 dX5_quotient_6 (n := 7) rfl (fun v1 => ?_)
    refine zr_goto (tgt := 11) h0 dX5_quotient_7 (by decide) ?_
    refine zv_sub (lv' := []) ?_ (zsub_of [] rfl)
    exact J11 v1
theorem kX5_quotient (l : Launch) (D : ZD) (z0 : Nat) (a0 : Int32) (a1 : Int32) (S : ZS) (x : Int32) (hf : fX5_quotient a0 a1 = some x) : zMet l D z0 yX5_quotient cX5_quotient 2 (some .int) rmX5_quotient [.int a0, .int a1] S (some (.int x)) S :=
  zMet_of (by decide) (Nat.le_of_ble_eq_true rfl) (fun G h0 hini hE => wX5_quotient a0 a1 S h0 (fun o => o = some x) (fun h => nomatch h) (fun v h => by cases h; exact hE)) hf
theorem dX5_numberOfProduct_0 : decode cX5_numberOfProduct 0 = .ok (.aload_n 0, 1) := by decide +kernel
theorem dX5_numberOfProduct_1 : decode cX5_numberOfProduct 1 = .ok (.iload_n 2, 1) := by decide +kernel
theorem dX5_numberOfProduct_2 : decode cX5_numberOfProduct 2 = .ok (.aload_n 1, 1) := by decide +kernel
theorem dX5_numberOfProduct_3 : decode cX5_numberOfProduct 3 = .ok (.getfield 126, 3) := by decide +kernel
theorem dX5_numberOfProduct_6 : decode cX5_numberOfProduct 6 = .ok (.invokestatic 290, 3) := by decide +kernel
theorem dX5_numberOfProduct_9 : decode cX5_numberOfProduct 9 = .ok (.iload_n 3, 1) := by decide +kernel
theorem dX5_numberOfProduct_10 : decode cX5_numberOfProduct 10 = .ok (.aload_n 1, 1) := by decide +kernel
theorem dX5_numberOfProduct_11 : decode cX5_numberOfProduct 11 = .ok (.getfield 129, 3) := by decide +kernel
theorem dX5_numberOfProduct_14 : decode cX5_numberOfProduct 14 = .ok (.invokestatic 290, 3) := by decide +kernel
theorem dX5_numberOfProduct_17 : decode cX5_numberOfProduct 17 = .ok (.iload 4, 2) := by decide +kernel
theorem dX5_numberOfProduct_19 : decode cX5_numberOfProduct 19 = .ok (.aload_n 1, 1) := by decide +kernel
theorem dX5_numberOfProduct_20 : decode cX5_numberOfProduct 20 = .ok (.getfield 132, 3) := by decide +kernel
theorem dX5_numberOfProduct_23 : decode cX5_numberOfProduct 23 = .ok (.invokestatic 290, 3) := by decide +kernel
theorem dX5_numberOfProduct_26 : decode cX5_numberOfProduct 26 = .ok (.invokevirtual 97, 3) := by decide +kernel
theorem dX5_numberOfProduct_29 : decode cX5_numberOfProduct 29 = .ok (.istore 5, 2) := by decide +kernel
theorem dX5_numberOfProduct_31 : decode cX5_numberOfProduct 31 = .ok (.aload_n 1, 1) := by decide +kernel
theorem dX5_numberOfProduct_32 : decode cX5_numberOfProduct 32 = .ok (.iload_n 2, 1) := by decide +kernel
theorem dX5_numberOfProduct_33 : decode cX5_numberOfProduct 33 = .ok (.aload_n 1, 1) := by decide +kernel
theorem dX5_numberOfProduct_34 : decode cX5_numberOfProduct 34 = .ok (.getfield 126, 3) := by decide +kernel
theorem dX5_numberOfProduct_37 : decode cX5_numberOfProduct 37 = .ok (.invokestatic 83, 3) := by decide +kernel
theorem dX5_numberOfProduct_40 : decode cX5_numberOfProduct 40 = .ok (.iload_n 3, 1) := by decide +kernel
theorem dX5_numberOfProduct_41 : decode cX5_numberOfProduct 41 = .ok (.aload_n 1, 1) := by decide +kernel
theorem dX5_numberOfProduct_42 : decode cX5_numberOfProduct 42 = .ok (.getfield 129, 3) := by decide +kernel
theorem dX5_numberOfProduct_45 : decode cX5_numberOfProduct 45 = .ok (.invokestatic 83, 3) := by decide +kernel
theorem dX5_numberOfProduct_48 : decode cX5_numberOfProduct 48 = .ok (.iload 4, 2) := by decide +kernel
theorem dX5_numberOfProduct_50 : decode cX5_numberOfProduct 50 = .ok (.aload_n 1, 1) := by decide +kernel
theorem dX5_numberOfProduct_51 : decode cX5_numberOfProduct 51 = .ok (.getfield 132, 3) := by decide +kernel
theorem dX5_numberOfProduct_54 : decode cX5_numberOfProduct 54 = .ok (.invokestatic 83, 3) := by decide +kernel
theorem dX5_numberOfProduct_57 : decode cX5_numberOfProduct 57 = .ok (.invokevirtual 97, 3) := by decide +kernel
theorem dX5_numberOfProduct_60 : decode cX5_numberOfProduct 60 = .ok (.istore 6, 2) := by decide +kernel
theorem dX5_numberOfProduct_62 : decode cX5_numberOfProduct 62 = .ok (.iload 5, 2) := by decide +kernel
theorem dX5_numberOfProduct_64 : decode cX5_numberOfProduct 64 = .ok (.iload 6, 2) := by decide +kernel
theorem dX5_numberOfProduct_66 : decode cX5_numberOfProduct 66 = .ok (.imul, 1) := by decide +kernel
theorem dX5_numberOfProduct_67 : decode cX5_numberOfProduct 67 = .ok (.ireturn, 1) := by decide +kernel
abbrev rmX5_numberOfProduct : Room := { frames := 3, cells := 0, slots := 0, locals := 65 }
theorem zyX5_numberOfProduct : zyOK yX5_numberOfProduct 5 := ⟨by decide +kernel, by decide +kernel, by decide +kernel⟩
set_option maxHeartbeats 4000000 in
set_option maxRecDepth 100000 in
theorem wX5_numberOfProduct {G : ZG} (a0 : Nat) (a1 : Nat) (a2 : Int32) (a3 : Int32) (a4 : Int32) (S : ZS) (h0 : zFix G cX5_numberOfProduct RX5 7 (some .int) rmX5_numberOfProduct) (C : Option Int32 → Prop) (hC : ¬ C none) (hE : ∀ v : Int32, C (some v) → zEnd G (some (.int v)) S rmX5_numberOfProduct) : zV G 7 S 0 0 0 [(0, .ref a0), (1, .ref a1), (2, .int a2), (3, .int a3), (4, .int a4)] [] (C (fX5_numberOfProduct a0 a1 a2 a3 a4 S)) := by
  unfold fX5_numberOfProduct
  refine zr_aload_n h0 dX5_numberOfProduct_0 rfl (n := 1) rfl ?_
  refine zr_iload_n h0 dX5_numberOfProduct_1 rfl (n := 2) rfl ?_
  refine zr_aload_n h0 dX5_numberOfProduct_2 rfl (n := 3) rfl ?_
  refine zr_getI C hC h0 zcX0 (k := 0) (by decide) zw_220 dX5_numberOfProduct_3 (n := 6) rfl (fun v1 => ?_)
  refine zr_cRI C hC 0 0 (fun x hx => zk_S h0 (fun l D z0 => kX5_quotient l D z0 a2 v1 S x hx) zw_376 zw_377 zw_1 zw_378 zyX5_quotient (As := [.int a2, .int v1]) (st := [.ref a0]) rfl (by decide) rfl (Nat.le_of_ble_eq_true rfl) (by decide) dX5_numberOfProduct_6) rfl rfl (n := 9) rfl (fun x2 => ?_)
  refine zr_iload_n h0 dX5_numberOfProduct_9 rfl (n := 10) rfl ?_
  refine zr_aload_n h0 dX5_numberOfProduct_10 rfl (n := 11) rfl ?_
  refine zr_getI C hC h0 zcX0 (k := 1) (by decide) zw_224 dX5_numberOfProduct_11 (n := 14) rfl (fun v3 => ?_)
  refine zr_cRI C hC 0 0 (fun x hx => zk_S h0 (fun l D z0 => kX5_quotient l D z0 a3 v3 S x hx) zw_376 zw_377 zw_1 zw_378 zyX5_quotient (As := [.int a3, .int v3]) (st := [.int x2, .ref a0]) rfl (by decide) rfl (Nat.le_of_ble_eq_true rfl) (by decide) dX5_numberOfProduct_14) rfl rfl (n := 17) rfl (fun x4 => ?_)
  refine zr_iload h0 dX5_numberOfProduct_17 rfl (n := 19) rfl ?_
  refine zr_aload_n h0 dX5_numberOfProduct_19 rfl (n := 20) rfl ?_
  refine zr_getI C hC h0 zcX0 (k := 2) (by decide) zw_228 dX5_numberOfProduct_20 (n := 23) rfl (fun v5 => ?_)
  refine zr_cRI C hC 0 0 (fun x hx => zk_S h0 (fun l D z0 => kX5_quotient l D z0 a4 v5 S x hx) zw_376 zw_377 zw_1 zw_378 zyX5_quotient (As := [.int a4, .int v5]) (st := [.int x4, .int x2, .ref a0]) rfl (by decide) rfl (Nat.le_of_ble_eq_true rfl) (by decide) dX5_numberOfProduct_23) rfl rfl (n := 26) rfl (fun x6 => ?_)
  refine zr_cRI C hC 0 0 (fun x hx => zk_V h0 zcX0 (zcl_ex hx) (fun l D z0 => kX0_numberAt l D z0 a0 x2 x4 x6 S x (zcl_of hx)) zw_314 zw_315 zw_316 zw_11 zw_317 rfl zyX0_numberAt (As := [.int x2, .int x4, .int x6]) (st := []) rfl (by decide) rfl (Nat.le_of_ble_eq_true rfl) (by decide) dX5_numberOfProduct_26) rfl rfl (n := 29) rfl (fun x7 => ?_)
  refine zr_istore [(0, .ref a0), (1, .ref a1), (2, .int a2), (3, .int a3), (4, .int a4), (5, .int x7)] h0 dX5_numberOfProduct_29 (by decide) rfl (n := 31) rfl ?_
  refine zr_aload_n h0 dX5_numberOfProduct_31 rfl (n := 32) rfl ?_
  refine zr_iload_n h0 dX5_numberOfProduct_32 rfl (n := 33) rfl ?_
  refine zr_aload_n h0 dX5_numberOfProduct_33 rfl (n := 34) rfl ?_
  refine zr_getI C hC h0 zcX0 (k := 0) (by decide) zw_220 dX5_numberOfProduct_34 (n := 37) rfl (fun v8 => ?_)
  refine zr_cRI C hC 0 0 (fun x hx => zk_S h0 (fun l D z0 => kX5_remainder l D z0 a2 v8 S x hx) zw_275 zw_276 zw_1 zw_277 zyX5_remainder (As := [.int a2, .int v8]) (st := [.ref a1]) rfl (by decide) rfl (Nat.le_of_ble_eq_true rfl) (by decide) dX5_numberOfProduct_37) rfl rfl (n := 40) rfl (fun x9 => ?_)
  refine zr_iload_n h0 dX5_numberOfProduct_40 rfl (n := 41) rfl ?_
  refine zr_aload_n h0 dX5_numberOfProduct_41 rfl (n := 42) rfl ?_
  refine zr_getI C hC h0 zcX0 (k := 1) (by decide) zw_224 dX5_numberOfProduct_42 (n := 45) rfl (fun v10 => ?_)
  refine zr_cRI C hC 0 0 (fun x hx => zk_S h0 (fun l D z0 => kX5_remainder l D z0 a3 v10 S x hx) zw_275 zw_276 zw_1 zw_277 zyX5_remainder (As := [.int a3, .int v10]) (st := [.int x9, .ref a1]) rfl (by decide) rfl (Nat.le_of_ble_eq_true rfl) (by decide) dX5_numberOfProduct_45) rfl rfl (n := 48) rfl (fun x11 => ?_)
  refine zr_iload h0 dX5_numberOfProduct_48 rfl (n := 50) rfl ?_
  refine zr_aload_n h0 dX5_numberOfProduct_50 rfl (n := 51) rfl ?_
  refine zr_getI C hC h0 zcX0 (k := 2) (by decide) zw_228 dX5_numberOfProduct_51 (n := 54) rfl (fun v12 => ?_)
  refine zr_cRI C hC 0 0 (fun x hx => zk_S h0 (fun l D z0 => kX5_remainder l D z0 a4 v12 S x hx) zw_275 zw_276 zw_1 zw_277 zyX5_remainder (As := [.int a4, .int v12]) (st := [.int x11, .int x9, .ref a1]) rfl (by decide) rfl (Nat.le_of_ble_eq_true rfl) (by decide) dX5_numberOfProduct_54) rfl rfl (n := 57) rfl (fun x13 => ?_)
  refine zr_cRI C hC 0 0 (fun x hx => zk_V h0 zcX0 (zcl_ex hx) (fun l D z0 => kX0_numberAt l D z0 a1 x9 x11 x13 S x (zcl_of hx)) zw_314 zw_315 zw_316 zw_11 zw_317 rfl zyX0_numberAt (As := [.int x9, .int x11, .int x13]) (st := []) rfl (by decide) rfl (Nat.le_of_ble_eq_true rfl) (by decide) dX5_numberOfProduct_57) rfl rfl (n := 60) rfl (fun x14 => ?_)
  refine zr_istore [(0, .ref a0), (1, .ref a1), (2, .int a2), (3, .int a3), (4, .int a4), (5, .int x7), (6, .int x14)] h0 dX5_numberOfProduct_60 (by decide) rfl (n := 62) rfl ?_
  refine zr_iload h0 dX5_numberOfProduct_62 rfl (n := 64) rfl ?_
  refine zr_iload h0 dX5_numberOfProduct_64 rfl (n := 66) rfl ?_
  refine zr_imul h0 dX5_numberOfProduct_66 (n := 67) rfl ?_
  exact zr_iret h0 rfl dX5_numberOfProduct_67 (hE _) (by decide) (by decide)
theorem kX5_numberOfProduct (l : Launch) (D : ZD) (z0 : Nat) (a0 : Nat) (a1 : Nat) (a2 : Int32) (a3 : Int32) (a4 : Int32) (S : ZS) (x : Int32) (hf : fX5_numberOfProduct a0 a1 a2 a3 a4 S = some x) : zMet l D z0 yX5_numberOfProduct cX5_numberOfProduct 7 (some .int) rmX5_numberOfProduct [.ref a0, .ref a1, .int a2, .int a3, .int a4] S (some (.int x)) S :=
  zMet_of (by decide) (Nat.le_of_ble_eq_true rfl) (fun G h0 hini hE => wX5_numberOfProduct a0 a1 a2 a3 a4 S h0 (fun o => o = some x) (fun h => nomatch h) (fun v h => by cases h; exact hE)) hf
theorem dX5_product_0 : decode cX5_product 0 = .ok (.aload_n 0, 1) := by decide +kernel
theorem dX5_product_1 : decode cX5_product 1 = .ok (.iload_n 1, 1) := by decide +kernel
theorem dX5_product_2 : decode cX5_product 2 = .ok (.invokevirtual 87, 3) := by decide +kernel
theorem dX5_product_5 : decode cX5_product 5 = .ok (.astore_n 3, 1) := by decide +kernel
theorem dX5_product_6 : decode cX5_product 6 = .ok (.aload_n 0, 1) := by decide +kernel
theorem dX5_product_7 : decode cX5_product 7 = .ok (.iload_n 2, 1) := by decide +kernel
theorem dX5_product_8 : decode cX5_product 8 = .ok (.invokevirtual 87, 3) := by decide +kernel
theorem dX5_product_11 : decode cX5_product 11 = .ok (.astore 4, 2) := by decide +kernel
theorem dX5_product_13 : decode cX5_product 13 = .ok (.aload_n 0, 1) := by decide +kernel
theorem dX5_product_14 : decode cX5_product 14 = .ok (.aload_n 3, 1) := by decide +kernel
theorem dX5_product_15 : decode cX5_product 15 = .ok (.getfield 126, 3) := by decide +kernel
theorem dX5_product_18 : decode cX5_product 18 = .ok (.aload 4, 2) := by decide +kernel
theorem dX5_product_20 : decode cX5_product 20 = .ok (.getfield 126, 3) := by decide +kernel
theorem dX5_product_23 : decode cX5_product 23 = .ok (.imul, 1) := by decide +kernel
theorem dX5_product_24 : decode cX5_product 24 = .ok (.aload_n 3, 1) := by decide +kernel
theorem dX5_product_25 : decode cX5_product 25 = .ok (.getfield 129, 3) := by decide +kernel
theorem dX5_product_28 : decode cX5_product 28 = .ok (.aload 4, 2) := by decide +kernel
theorem dX5_product_30 : decode cX5_product 30 = .ok (.getfield 129, 3) := by decide +kernel
theorem dX5_product_33 : decode cX5_product 33 = .ok (.imul, 1) := by decide +kernel
theorem dX5_product_34 : decode cX5_product 34 = .ok (.aload_n 3, 1) := by decide +kernel
theorem dX5_product_35 : decode cX5_product 35 = .ok (.getfield 132, 3) := by decide +kernel
theorem dX5_product_38 : decode cX5_product 38 = .ok (.aload 4, 2) := by decide +kernel
theorem dX5_product_40 : decode cX5_product 40 = .ok (.getfield 132, 3) := by decide +kernel
theorem dX5_product_43 : decode cX5_product 43 = .ok (.imul, 1) := by decide +kernel
theorem dX5_product_44 : decode cX5_product 44 = .ok (.invokevirtual 68, 3) := by decide +kernel
theorem dX5_product_47 : decode cX5_product 47 = .ok (.astore 5, 2) := by decide +kernel
theorem dX5_product_49 : decode cX5_product 49 = .ok (.iconst 0, 1) := by decide +kernel
theorem dX5_product_50 : decode cX5_product 50 = .ok (.istore 6, 2) := by decide +kernel
theorem dX5_product_52 : decode cX5_product 52 = .ok (.iload 6, 2) := by decide +kernel
theorem dX5_product_54 : decode cX5_product 54 = .ok (.aload 5, 2) := by decide +kernel
theorem dX5_product_56 : decode cX5_product 56 = .ok (.getfield 126, 3) := by decide +kernel
theorem dX5_product_59 : decode cX5_product 59 = .ok (.if_icmp .ge 77, 3) := by decide +kernel
theorem dX5_product_62 : decode cX5_product 62 = .ok (.iconst 0, 1) := by decide +kernel
theorem dX5_product_63 : decode cX5_product 63 = .ok (.istore 7, 2) := by decide +kernel
theorem dX5_product_65 : decode cX5_product 65 = .ok (.iload 7, 2) := by decide +kernel
theorem dX5_product_67 : decode cX5_product 67 = .ok (.aload 5, 2) := by decide +kernel
theorem dX5_product_69 : decode cX5_product 69 = .ok (.getfield 129, 3) := by decide +kernel
theorem dX5_product_72 : decode cX5_product 72 = .ok (.if_icmp .ge 58, 3) := by decide +kernel
theorem dX5_product_75 : decode cX5_product 75 = .ok (.iconst 0, 1) := by decide +kernel
theorem dX5_product_76 : decode cX5_product 76 = .ok (.istore 8, 2) := by decide +kernel
theorem dX5_product_78 : decode cX5_product 78 = .ok (.iload 8, 2) := by decide +kernel
theorem dX5_product_80 : decode cX5_product 80 = .ok (.aload 5, 2) := by decide +kernel
theorem dX5_product_82 : decode cX5_product 82 = .ok (.getfield 132, 3) := by decide +kernel
theorem dX5_product_85 : decode cX5_product 85 = .ok (.if_icmp .ge 39, 3) := by decide +kernel
theorem dX5_product_88 : decode cX5_product 88 = .ok (.aload 5, 2) := by decide +kernel
theorem dX5_product_90 : decode cX5_product 90 = .ok (.iload 6, 2) := by decide +kernel
theorem dX5_product_92 : decode cX5_product 92 = .ok (.iload 7, 2) := by decide +kernel
theorem dX5_product_94 : decode cX5_product 94 = .ok (.iload 8, 2) := by decide +kernel
theorem dX5_product_96 : decode cX5_product 96 = .ok (.aload_n 3, 1) := by decide +kernel
theorem dX5_product_97 : decode cX5_product 97 = .ok (.aload 4, 2) := by decide +kernel
theorem dX5_product_99 : decode cX5_product 99 = .ok (.iload 6, 2) := by decide +kernel
theorem dX5_product_101 : decode cX5_product 101 = .ok (.iload 7, 2) := by decide +kernel
theorem dX5_product_103 : decode cX5_product 103 = .ok (.iload 8, 2) := by decide +kernel
theorem dX5_product_105 : decode cX5_product 105 = .ok (.invokestatic 135, 3) := by decide +kernel
theorem dX5_product_108 : decode cX5_product 108 = .ok (.aload_n 0, 1) := by decide +kernel
theorem dX5_product_109 : decode cX5_product 109 = .ok (.getfield 46, 3) := by decide +kernel
theorem dX5_product_112 : decode cX5_product 112 = .ok (.invokestatic 83, 3) := by decide +kernel
theorem dX5_product_115 : decode cX5_product 115 = .ok (.invokevirtual 76, 3) := by decide +kernel
theorem dX5_product_118 : decode cX5_product 118 = .ok (.iinc 8 1, 3) := by decide +kernel
theorem dX5_product_121 : decode cX5_product 121 = .ok (.goto (-43), 3) := by decide +kernel
theorem dX5_product_124 : decode cX5_product 124 = .ok (.iinc 7 1, 3) := by decide +kernel
theorem dX5_product_127 : decode cX5_product 127 = .ok (.goto (-62), 3) := by decide +kernel
theorem dX5_product_130 : decode cX5_product 130 = .ok (.iinc 6 1, 3) := by decide +kernel
theorem dX5_product_133 : decode cX5_product 133 = .ok (.goto (-81), 3) := by decide +kernel
theorem dX5_product_136 : decode cX5_product 136 = .ok (.aload_n 0, 1) := by decide +kernel
theorem dX5_product_137 : decode cX5_product 137 = .ok (.getfield 50, 3) := by decide +kernel
theorem dX5_product_140 : decode cX5_product 140 = .ok (.iconst 1, 1) := by decide +kernel
theorem dX5_product_141 : decode cX5_product 141 = .ok (.isub, 1) := by decide +kernel
theorem dX5_product_142 : decode cX5_product 142 = .ok (.ireturn, 1) := by decide +kernel
abbrev rmX5_product : Room := { frames := 8, cells := 7, slots := 99, locals := 134 }
theorem zyX5_product : zyOK yX5_product 2 := ⟨by decide +kernel, by decide +kernel, by decide +kernel⟩
set_option maxHeartbeats 4000000 in
set_option maxRecDepth 100000 in
theorem wX5_product {G : ZG} (a0 : Nat) (a1 : Int32) (a2 : Int32) (S : ZS) (h0 : zFix G cX5_product RX5 9 (some .int) rmX5_product) (C : Option ((Int32 × ZS) ⊕ ZX) → Prop) (hC : ¬ C none) (hnt : zNoTab G) (hE : ∀ (v : Int32) (S1 : ZS), C (some (.inl (v, S1))) → zEndT G (some (.int v)) S1 rmX5_product) (hEx : ∀ (E : String) (h : ZH), C (some (.inr (E, h))) → zEndX G E h rmX5_product) : zV G 9 S 0 0 0 [(0, .ref a0), (1, .int a1), (2, .int a2)] [] (C (fX5_product a0 a1 a2 S)) := by
  unfold fX5_product
  refine zr_aload_n h0 dX5_product_0 rfl (n := 1) rfl ?_
  refine zr_iload_n h0 dX5_product_1 rfl (n := 2) rfl ?_
  refine zr_cTR C hC 1 6 h0 (fun x hx => zk_VT h0 zcX5 (zcl_ex hx) (fun l D z0 hlt => kX5_needCube l D z0 hlt a0 a1 S x (zcl_of hx)) hnt zw_286 zw_288 zs_2 zw_1 zw_289 rfl zyX5_needCube (As := [.int a1]) (st := []) rfl (by decide) rfl (Nat.le_of_ble_eq_true rfl) (by decide) dX5_product_2) hnt rfl rfl (by decide) (by decide) (n := 5) rfl (fun z h => hEx _ _ h) (fun x1 => ?_)
  refine zr_astore_n [(0, .ref a0), (1, .int a1), (2, .int a2), (3, .ref x1.1)] h0 dX5_product_5 (by decide) rfl (n := 6) rfl ?_
  refine zr_aload_n h0 dX5_product_6 rfl (n := 7) rfl ?_
  refine zr_iload_n h0 dX5_product_7 rfl (n := 8) rfl ?_
  refine zr_cTR C hC 2 12 h0 (fun x hx => zk_VT h0 zcX5 (zcl_ex hx) (fun l D z0 hlt => kX5_needCube l D z0 hlt a0 a2 x1.2 x (zcl_of hx)) hnt zw_286 zw_288 zs_2 zw_1 zw_289 rfl zyX5_needCube (As := [.int a2]) (st := []) rfl (by decide) rfl (Nat.le_of_ble_eq_true rfl) (by decide) dX5_product_8) hnt rfl rfl (by decide) (by decide) (n := 11) rfl (fun z h => hEx _ _ h) (fun x2 => ?_)
  refine zr_astore [(0, .ref a0), (1, .int a1), (2, .int a2), (3, .ref x1.1), (4, .ref x2.1)] h0 dX5_product_11 (by decide) rfl (n := 13) rfl ?_
  refine zr_aload_n h0 dX5_product_13 rfl (n := 14) rfl ?_
  refine zr_aload_n h0 dX5_product_14 rfl (n := 15) rfl ?_
  refine zr_getI C hC h0 zcX0 (k := 0) (by decide) zw_220 dX5_product_15 (n := 18) rfl (fun v3 => ?_)
  refine zr_aload h0 dX5_product_18 rfl (n := 20) rfl ?_
  refine zr_getI C hC h0 zcX0 (k := 0) (by decide) zw_220 dX5_product_20 (n := 23) rfl (fun v4 => ?_)
  refine zr_imul h0 dX5_product_23 (n := 24) rfl ?_
  refine zr_aload_n h0 dX5_product_24 rfl (n := 25) rfl ?_
  refine zr_getI C hC h0 zcX0 (k := 1) (by decide) zw_224 dX5_product_25 (n := 28) rfl (fun v5 => ?_)
  refine zr_aload h0 dX5_product_28 rfl (n := 30) rfl ?_
  refine zr_getI C hC h0 zcX0 (k := 1) (by decide) zw_224 dX5_product_30 (n := 33) rfl (fun v6 => ?_)
  refine zr_imul h0 dX5_product_33 (n := 34) rfl ?_
  refine zr_aload_n h0 dX5_product_34 rfl (n := 35) rfl ?_
  refine zr_getI C hC h0 zcX0 (k := 2) (by decide) zw_228 dX5_product_35 (n := 38) rfl (fun v7 => ?_)
  refine zr_aload h0 dX5_product_38 rfl (n := 40) rfl ?_
  refine zr_getI C hC h0 zcX0 (k := 2) (by decide) zw_228 dX5_product_40 (n := 43) rfl (fun v8 => ?_)
  refine zr_imul h0 dX5_product_43 (n := 44) rfl ?_
  refine zr_cTR C hC 7 99 h0 (fun x hx => zk_VT h0 zcX5 (zcl_ex hx) (fun l D z0 hlt => kX5_addCube l D z0 hlt a0 (v3 * v4) (v5 * v6) (v7 * v8) x2.2 x (zcl_of hx)) hnt zw_203 zw_205 zs_1 zw_1 zw_206 rfl zyX5_addCube (As := [.int (v3 * v4), .int (v5 * v6), .int (v7 * v8)]) (st := []) rfl (by decide) rfl (Nat.le_of_ble_eq_true rfl) (by decide) dX5_product_44) hnt rfl rfl (by decide) (by decide) (n := 47) rfl (fun z h => hEx _ _ h) (fun x9 => ?_)
  refine zr_astore [(0, .ref a0), (1, .int a1), (2, .int a2), (3, .ref x1.1), (4, .ref x2.1), (5, .ref x9.1)] h0 dX5_product_47 (by decide) rfl (n := 49) rfl ?_
  refine zr_iconst (0 : Int32) h0 (by decide) dX5_product_49 (n := 50) rfl ?_
  refine zr_istore [(0, .ref a0), (1, .int a1), (2, .int a2), (3, .ref x1.1), (4, .ref x2.1), (5, .ref x9.1), (6, .int (0 : Int32))] h0 dX5_product_50 (by decide) rfl (n := 52) rfl ?_
  refine zv_sub (lv' := [(0, .ref a0), (3, .ref x1.1), (4, .ref x2.1), (5, .ref x9.1), (6, .int (0 : Int32))]) ?_ (zsub_of [0, 3, 4, 5, 6] rfl)
  refine zr_loop hC (fX5_product_B52 a0 x1.1 x2.1 x9.1) (fun y => [(0, .ref a0), (3, .ref x1.1), (4, .ref x2.1), (5, .ref x9.1), (6, .int y.1)]) (fun y => y.2) zF ((0 : Int32), x9.2) (fun C52 hC52 hX52 hL52 t52 => ?_)
  unfold fX5_product_B52
  refine zr_iload h0 dX5_product_52 rfl (n := 54) rfl ?_
  refine zr_aload h0 dX5_product_54 rfl (n := 56) rfl ?_
  refine zr_getI C52 hC52 h0 zcX0 (k := 0) (by decide) zw_220 dX5_product_56 (n := 59) rfl (fun v29 => ?_)
  refine zr_icmp_ge C52 (tgt := 136) h0 dX5_product_59 (by decide) (n := 62) rfl ?_ ?_
  · refine zr_ex hX52 ?_
    refine zv_sub (lv' := [(0, .ref a0)]) ?_ (zsub_of [0] rfl)
    refine zr_aload_n h0 dX5_product_136 rfl (n := 137) rfl ?_
    refine zr_getI C hC h0 zcX5 (k := 7) (by decide) zw_82 dX5_product_137 (n := 140) rfl (fun v30 => ?_)
    refine zr_iconst (1 : Int32) h0 (by decide) dX5_product_140 (n := 141) rfl ?_
    refine zr_isub h0 dX5_product_141 (n := 142) rfl ?_
    exact zr_iretT h0 rfl dX5_product_142 (hE _ _) (by decide) (by decide)
  · refine zr_iconst (0 : Int32) h0 (by decide) dX5_product_62 (n := 63) rfl ?_
    refine zr_istore [(0, .ref a0), (3, .ref x1.1), (4, .ref x2.1), (5, .ref x9.1), (6, .int t52.1), (7, .int (0 : Int32))] h0 dX5_product_63 (by decide) rfl (n := 65) rfl ?_
    refine zr_loop hC52 (fX5_product_B65 a0 x1.1 x2.1 x9.1 t52.1) (fun y => [(0, .ref a0), (3, .ref x1.1), (4, .ref x2.1), (5, .ref x9.1), (6, .int t52.1), (7, .int y.1)]) (fun y => y.2) zF ((0 : Int32), t52.2) (fun C65 hC65 hX65 hL65 t65 => ?_)
    unfold fX5_product_B65
    refine zr_iload h0 dX5_product_65 rfl (n := 67) rfl ?_
    refine zr_aload h0 dX5_product_67 rfl (n := 69) rfl ?_
    refine zr_getI C65 hC65 h0 zcX0 (k := 1) (by decide) zw_224 dX5_product_69 (n := 72) rfl (fun v31 => ?_)
    refine zr_icmp_ge C65 (tgt := 130) h0 dX5_product_72 (by decide) (n := 75) rfl ?_ ?_
    · refine zr_ex hX65 ?_
      refine zv_sub (lv' := [(0, .ref a0), (3, .ref x1.1), (4, .ref x2.1), (5, .ref x9.1), (6, .int t52.1)]) ?_ (zsub_of [0, 1, 2, 3, 4] rfl)
      refine zr_iinc (1 : Int32) [(0, .ref a0), (3, .ref x1.1), (4, .ref x2.1), (5, .ref x9.1), (6, .int (t52.1 + (1 : Int32)))] h0 dX5_product_130 rfl (by decide) rfl rfl (n := 133) rfl ?_
      refine zr_goto (tgt := 52) h0 dX5_product_133 (by decide) ?_
      exact hL52 (t52.1 + (1 : Int32), t65.2)
    · refine zr_iconst (0 : Int32) h0 (by decide) dX5_product_75 (n := 76) rfl ?_
      refine zr_istore [(0, .ref a0), (3, .ref x1.1), (4, .ref x2.1), (5, .ref x9.1), (6, .int t52.1), (7, .int t65.1), (8, .int (0 : Int32))] h0 dX5_product_76 (by decide) rfl (n := 78) rfl ?_
      refine zr_loop hC65 (fX5_product_B78 a0 x1.1 x2.1 x9.1 t52.1 t65.1) (fun y => [(0, .ref a0), (3, .ref x1.1), (4, .ref x2.1), (5, .ref x9.1), (6, .int t52.1), (7, .int t65.1), (8, .int y.1)]) (fun y => y.2) zF ((0 : Int32), t65.2) (fun C78 hC78 hX78 hL78 t78 => ?_)
      unfold fX5_product_B78
      refine zr_iload h0 dX5_product_78 rfl (n := 80) rfl ?_
      refine zr_aload h0 dX5_product_80 rfl (n := 82) rfl ?_
      refine zr_getI C78 hC78 h0 zcX0 (k := 2) (by decide) zw_228 dX5_product_82 (n := 85) rfl (fun v32 => ?_)
      refine zr_icmp_ge C78 (tgt := 124) h0 dX5_product_85 (by decide) (n := 88) rfl ?_ ?_
      · refine zr_ex hX78 ?_
        refine zv_sub (lv' := [(0, .ref a0), (3, .ref x1.1), (4, .ref x2.1), (5, .ref x9.1), (6, .int t52.1), (7, .int t65.1)]) ?_ (zsub_of [0, 1, 2, 3, 4, 5] rfl)
        refine zr_iinc (1 : Int32) [(0, .ref a0), (3, .ref x1.1), (4, .ref x2.1), (5, .ref x9.1), (6, .int t52.1), (7, .int (t65.1 + (1 : Int32)))] h0 dX5_product_124 rfl (by decide) rfl rfl (n := 127) rfl ?_
        refine zr_goto (tgt := 65) h0 dX5_product_127 (by decide) ?_
        exact hL65 (t65.1 + (1 : Int32), t78.2)
      · refine zr_aload h0 dX5_product_88 rfl (n := 90) rfl ?_
        refine zr_iload h0 dX5_product_90 rfl (n := 92) rfl ?_
        refine zr_iload h0 dX5_product_92 rfl (n := 94) rfl ?_
        refine zr_iload h0 dX5_product_94 rfl (n := 96) rfl ?_
        refine zr_aload_n h0 dX5_product_96 rfl (n := 97) rfl ?_
        refine zr_aload h0 dX5_product_97 rfl (n := 99) rfl ?_
        refine zr_iload h0 dX5_product_99 rfl (n := 101) rfl ?_
        refine zr_iload h0 dX5_product_101 rfl (n := 103) rfl ?_
        refine zr_iload h0 dX5_product_103 rfl (n := 105) rfl ?_
        refine zr_cRI C78 hC78 7 99 (fun x hx => zk_S h0 (fun l D z0 => kX5_numberOfProduct l D z0 x1.1 x2.1 t52.1 t65.1 t78.1 t78.2 x hx) zw_373 zw_374 zw_1 zw_375 zyX5_numberOfProduct (As := [.ref x1.1, .ref x2.1, .int t52.1, .int t65.1, .int t78.1]) (st := [.int t78.1, .int t65.1, .int t52.1, .ref x9.1]) rfl (by decide) rfl (Nat.le_of_ble_eq_true rfl) (by decide) dX5_product_105) rfl rfl (n := 108) rfl (fun x33 => ?_)
        refine zr_aload_n h0 dX5_product_108 rfl (n := 109) rfl ?_
        refine zr_getI C78 hC78 h0 zcX5 (k := 6) (by decide) zw_81 dX5_product_109 (n := 112) rfl (fun v34 => ?_)
        refine zr_cRI C78 hC78 7 99 (fun x hx => zk_S h0 (fun l D z0 => kX5_remainder l D z0 x33 v34 t78.2 x hx) zw_275 zw_276 zw_1 zw_277 zyX5_remainder (As := [.int x33, .int v34]) (st := [.int t78.1, .int t65.1, .int t52.1, .ref x9.1]) rfl (by decide) rfl (Nat.le_of_ble_eq_true rfl) (by decide) dX5_product_112) rfl rfl (n := 115) rfl (fun x35 => ?_)
        refine zr_cMV C78 hC78 7 99 (fun x hx => zk_V h0 zcX0 (zcl_ex hx) (fun l D z0 => kX0_enter l D z0 x9.1 t52.1 t65.1 t78.1 x35 t78.2 x (zcl_of hx)) zw_251 zw_252 zw_253 zw_11 zw_254 rfl zyX0_enter (As := [.int t52.1, .int t65.1, .int t78.1, .int x35]) (st := []) rfl (by decide) rfl (Nat.le_of_ble_eq_true rfl) (by decide) dX5_product_115) rfl rfl (n := 118) rfl (fun x36 => ?_)
        refine zr_iinc (1 : Int32) [(0, .ref a0), (3, .ref x1.1), (4, .ref x2.1), (5, .ref x9.1), (6, .int t52.1), (7, .int t65.1), (8, .int (t78.1 + (1 : Int32)))] h0 dX5_product_118 rfl (by decide) rfl rfl (n := 121) rfl ?_
        refine zr_goto (tgt := 78) h0 dX5_product_121 (by decide) ?_
        exact hL78 (t78.1 + (1 : Int32), x36)
theorem kX5_product (l : Launch) (D : ZD) (z0 : Nat) (hlt : l.stackTraces = false) (a0 : Nat) (a1 : Int32) (a2 : Int32) (S : ZS) (x : ((Int32 × ZS) ⊕ ZX)) (hf : fX5_product a0 a1 a2 S = some x) : zMetT l D z0 yX5_product cX5_product 9 (some .int) rmX5_product [.ref a0, .int a1, .int a2] S (x.map (fun y => ((some (.int y.1)), y.2)) id) :=
  zMetT_of hlt (by decide) (Nat.le_of_ble_eq_true rfl) (fun G h0 hnt hE hEx => wX5_product a0 a1 a2 S h0 (fun o => o = some x) (fun h => nomatch h) hnt (fun v S1 h => by cases h; exact hE _ _ rfl) (fun E h hh => by cases hh; exact hEx _ _ rfl)) hf
theorem dX0_copied_0 : decode cX0_copied 0 = .ok (.new 10, 3) := by decide +kernel
theorem dX0_copied_3 : decode cX0_copied 3 = .ok (.dup, 1) := by decide +kernel
theorem dX0_copied_4 : decode cX0_copied 4 = .ok (.aload_n 0, 1) := by decide +kernel
theorem dX0_copied_5 : decode cX0_copied 5 = .ok (.getfield 9, 3) := by decide +kernel
theorem dX0_copied_8 : decode cX0_copied 8 = .ok (.aload_n 0, 1) := by decide +kernel
theorem dX0_copied_9 : decode cX0_copied 9 = .ok (.getfield 15, 3) := by decide +kernel
theorem dX0_copied_12 : decode cX0_copied 12 = .ok (.aload_n 0, 1) := by decide +kernel
theorem dX0_copied_13 : decode cX0_copied 13 = .ok (.getfield 18, 3) := by decide +kernel
theorem dX0_copied_16 : decode cX0_copied 16 = .ok (.invokespecial 28, 3) := by decide +kernel
theorem dX0_copied_19 : decode cX0_copied 19 = .ok (.astore_n 1, 1) := by decide +kernel
theorem dX0_copied_20 : decode cX0_copied 20 = .ok (.iconst 0, 1) := by decide +kernel
theorem dX0_copied_21 : decode cX0_copied 21 = .ok (.istore_n 2, 1) := by decide +kernel
theorem dX0_copied_22 : decode cX0_copied 22 = .ok (.iload_n 2, 1) := by decide +kernel
theorem dX0_copied_23 : decode cX0_copied 23 = .ok (.bipush 64, 2) := by decide +kernel
theorem dX0_copied_25 : decode cX0_copied 25 = .ok (.if_icmp .ge 25, 3) := by decide +kernel
theorem dX0_copied_28 : decode cX0_copied 28 = .ok (.aload_n 1, 1) := by decide +kernel
theorem dX0_copied_29 : decode cX0_copied 29 = .ok (.getfield 21, 3) := by decide +kernel
theorem dX0_copied_32 : decode cX0_copied 32 = .ok (.iload_n 2, 1) := by decide +kernel
theorem dX0_copied_33 : decode cX0_copied 33 = .ok (.aload_n 0, 1) := by decide +kernel
theorem dX0_copied_34 : decode cX0_copied 34 = .ok (.getfield 21, 3) := by decide +kernel
theorem dX0_copied_37 : decode cX0_copied 37 = .ok (.iload_n 2, 1) := by decide +kernel
theorem dX0_copied_38 : decode cX0_copied 38 = .ok (.invokestatic 31, 3) := by decide +kernel
theorem dX0_copied_41 : decode cX0_copied 41 = .ok (.invokestatic 35, 3) := by decide +kernel
theorem dX0_copied_44 : decode cX0_copied 44 = .ok (.iinc 2 1, 3) := by decide +kernel
theorem dX0_copied_47 : decode cX0_copied 47 = .ok (.goto (-25), 3) := by decide +kernel
theorem dX0_copied_50 : decode cX0_copied 50 = .ok (.aload_n 1, 1) := by decide +kernel
theorem dX0_copied_51 : decode cX0_copied 51 = .ok (.aload_n 0, 1) := by decide +kernel
theorem dX0_copied_52 : decode cX0_copied 52 = .ok (.getfield 25, 3) := by decide +kernel
theorem dX0_copied_55 : decode cX0_copied 55 = .ok (.putfield 25, 3) := by decide +kernel
theorem dX0_copied_58 : decode cX0_copied 58 = .ok (.aload_n 1, 1) := by decide +kernel
theorem dX0_copied_59 : decode cX0_copied 59 = .ok (.areturn, 1) := by decide +kernel
abbrev rmX0_copied : Room := { frames := 2, cells := 2, slots := 69, locals := 43 }
theorem zyX0_copied : zyOK yX0_copied 0 := ⟨by decide +kernel, by decide +kernel, by decide +kernel⟩
set_option maxHeartbeats 4000000 in
set_option maxRecDepth 100000 in
theorem wX0_copied {G : ZG} (a0 : Nat) (S : ZS) (h0 : zFix G cX0_copied RX0 3 (some (.object "Bilinearium$Cube")) rmX0_copied) (C : Option (Nat × ZS) → Prop) (hC : ¬ C none) (hE : ∀ (v : Nat) (S1 : ZS), C (some (v, S1)) → zEnd G (some (.ref v)) S1 rmX0_copied) : zV G 3 S 0 0 0 [(0, .ref a0)] [] (C (fX0_copied a0 S)) := by
  unfold fX0_copied
  refine zr_new (fs := [.int 0, .int 0, .int 0, .null, .int 0]) (ce' := 1) (sl' := 5) h0 zcX0 znwX0 zw_392 zw_212 zw_11 rfl rfl (by decide) (by decide) dX0_copied_0 (n := 3) rfl ?_
  refine zr_dup h0 rfl dX0_copied_3 (n := 4) rfl ?_
  refine zr_aload_n h0 dX0_copied_4 rfl (n := 5) rfl ?_
  refine zr_getI C hC h0 zcX0 (k := 0) (by decide) zw_217 dX0_copied_5 (n := 8) rfl (fun v1 => ?_)
  refine zr_aload_n h0 dX0_copied_8 rfl (n := 9) rfl ?_
  refine zr_getI C hC h0 zcX0 (k := 1) (by decide) zw_221 dX0_copied_9 (n := 12) rfl (fun v2 => ?_)
  refine zr_aload_n h0 dX0_copied_12 rfl (n := 13) rfl ?_
  refine zr_getI C hC h0 zcX0 (k := 2) (by decide) zw_225 dX0_copied_13 (n := 16) rfl (fun v3 => ?_)
  refine zr_cMV C hC 2 69 (fun x hx => zk_I h0 (fun l D z0 => kX0_init l D z0 S.2 v1 v2 v3 (zno S 0 [.int 0, .int 0, .int 0, .null, .int 0]) x hx) zw_393 zw_214 zw_11 zw_215 rfl zyX0_init (As := [.int v1, .int v2, .int v3]) (st := [.ref S.2]) rfl (by decide) rfl (Nat.le_of_ble_eq_true rfl) (by decide) dX0_copied_16) rfl rfl (n := 19) rfl (fun x4 => ?_)
  refine zr_astore_n [(0, .ref a0), (1, .ref S.2)] h0 dX0_copied_19 (by decide) rfl (n := 20) rfl ?_
  refine zr_iconst (0 : Int32) h0 (by decide) dX0_copied_20 (n := 21) rfl ?_
  refine zr_istore_n [(0, .ref a0), (1, .ref S.2), (2, .int (0 : Int32))] h0 dX0_copied_21 (by decide) rfl (n := 22) rfl ?_
  refine zr_loop hC (fX0_copied_B22 a0 S.2) (fun y => [(0, .ref a0), (1, .ref S.2), (2, .int y.1)]) (fun y => y.2) zF ((0 : Int32), x4) (fun C22 hC22 hX22 hL22 t22 => ?_)
  unfold fX0_copied_B22
  refine zr_iload_n h0 dX0_copied_22 rfl (n := 23) rfl ?_
  refine zr_bipush (64 : Int32) h0 (by decide) dX0_copied_23 (n := 25) rfl ?_
  refine zr_icmp_ge C22 (tgt := 50) h0 dX0_copied_25 (by decide) (n := 28) rfl ?_ ?_
  · refine zr_ex hX22 ?_
    refine zv_sub (lv' := [(0, .ref a0), (1, .ref S.2)]) ?_ (zsub_of [0, 1] rfl)
    refine zr_aload_n h0 dX0_copied_50 rfl (n := 51) rfl ?_
    refine zr_aload_n h0 dX0_copied_51 rfl (n := 52) rfl ?_
    refine zr_getI C hC h0 zcX0 (k := 4) (by decide) zw_231 dX0_copied_52 (n := 55) rfl (fun v11 => ?_)
    refine zr_putF C hC h0 zcX0 (k := 4) (by decide) zw_231 rfl rfl rfl dX0_copied_55 (n := 58) rfl (fun S12 => ?_)
    refine zr_aload_n h0 dX0_copied_58 rfl (n := 59) rfl ?_
    exact zr_aret h0 rfl (Or.inl ⟨_, rfl⟩) dX0_copied_59 (hE _ _) (by decide) (by decide)
  · refine zr_aload_n h0 dX0_copied_28 rfl (n := 29) rfl ?_
    refine zr_getR C22 hC22 h0 zcX0 (k := 3) (by decide) zw_229 dX0_copied_29 (n := 32) rfl (fun v13 => ?_)
    refine zr_iload_n h0 dX0_copied_32 rfl (n := 33) rfl ?_
    refine zr_aload_n h0 dX0_copied_33 rfl (n := 34) rfl ?_
    refine zr_getR C22 hC22 h0 zcX0 (k := 3) (by decide) zw_229 dX0_copied_34 (n := 37) rfl (fun v14 => ?_)
    refine zr_iload_n h0 dX0_copied_37 rfl (n := 38) rfl ?_
    refine zr_cRI C22 hC22 2 69 (fun x hx => zk_SN (host := "Bilinearium") h0 (fun l D z0 => kX5_get l D z0 v14 t22.1 t22.2 x hx) (by decide +kernel) zw_319 zw_1 zw_320 zyX5_get (As := [.ref v14, .int t22.1]) (st := [.int t22.1, .ref v13]) rfl (by decide) rfl (Nat.le_of_ble_eq_true rfl) (by decide) dX0_copied_38) rfl rfl (n := 41) rfl (fun x15 => ?_)
    refine zr_cMV C22 hC22 2 69 (fun x hx => zk_SN (host := "Bilinearium") h0 (fun l D z0 => kX5_put l D z0 v13 t22.1 x15 t22.2 x hx) (by decide +kernel) zw_259 zw_1 zw_260 zyX5_put (As := [.ref v13, .int t22.1, .int x15]) (st := []) rfl (by decide) rfl (Nat.le_of_ble_eq_true rfl) (by decide) dX0_copied_41) rfl rfl (n := 44) rfl (fun x16 => ?_)
    refine zr_iinc (1 : Int32) [(0, .ref a0), (1, .ref S.2), (2, .int (t22.1 + (1 : Int32)))] h0 dX0_copied_44 rfl (by decide) rfl rfl (n := 47) rfl ?_
    refine zr_goto (tgt := 22) h0 dX0_copied_47 (by decide) ?_
    exact hL22 (t22.1 + (1 : Int32), x16)
theorem kX0_copied (l : Launch) (D : ZD) (z0 : Nat) (a0 : Nat) (S : ZS) (x : Nat × ZS) (hf : fX0_copied a0 S = some x) : zMet l D z0 yX0_copied cX0_copied 3 (some (.object "Bilinearium$Cube")) rmX0_copied [.ref a0] S (some (.ref x.1)) x.2 :=
  zMet_of (by decide) (Nat.le_of_ble_eq_true rfl) (fun G h0 hini hE => wX0_copied a0 S h0 (fun o => o = some x) (fun h => nomatch h) (fun v S1 h => by cases h; exact hE)) hf
theorem dX4_init_0 : decode cX4_init 0 = .ok (.aload_n 0, 1) := by decide +kernel
theorem dX4_init_1 : decode cX4_init 1 = .ok (.invokespecial 5, 3) := by decide +kernel
theorem dX4_init_4 : decode cX4_init 4 = .ok (.aload_n 0, 1) := by decide +kernel
theorem dX4_init_5 : decode cX4_init 5 = .ok (.aload_n 1, 1) := by decide +kernel
theorem dX4_init_6 : decode cX4_init 6 = .ok (.putfield 11, 3) := by decide +kernel
theorem dX4_init_9 : decode cX4_init 9 = .ok (.aload_n 0, 1) := by decide +kernel
theorem dX4_init_10 : decode cX4_init 10 = .ok (.iload_n 2, 1) := by decide +kernel
theorem dX4_init_11 : decode cX4_init 11 = .ok (.putfield 15, 3) := by decide +kernel
theorem dX4_init_14 : decode cX4_init 14 = .ok (.aload_n 0, 1) := by decide +kernel
theorem dX4_init_15 : decode cX4_init 15 = .ok (.bipush 40, 2) := by decide +kernel
theorem dX4_init_17 : decode cX4_init 17 = .ok (.newarray .int, 2) := by decide +kernel
theorem dX4_init_19 : decode cX4_init 19 = .ok (.putfield 19, 3) := by decide +kernel
theorem dX4_init_22 : decode cX4_init 22 = .ok (.aload_n 0, 1) := by decide +kernel
theorem dX4_init_23 : decode cX4_init 23 = .ok (.iconst 0, 1) := by decide +kernel
theorem dX4_init_24 : decode cX4_init 24 = .ok (.putfield 23, 3) := by decide +kernel
theorem dX4_init_27 : decode cX4_init 27 = .ok (.return_, 1) := by decide +kernel
abbrev rmX4_init : Room := { frames := 1, cells := 1, slots := 40, locals := 20 }
theorem zyX4_init : zyOK yX4_init 2 := ⟨by decide +kernel, by decide +kernel, by decide +kernel⟩
set_option maxHeartbeats 4000000 in
set_option maxRecDepth 100000 in
theorem wX4_init {G : ZG} (a0 : Nat) (a1 : Nat) (a2 : Int32) (S : ZS) (h0 : zFix G cX4_init RX4 3 none rmX4_init) (hini : zIni G) (C : Option ZS → Prop) (hC : ¬ C none) (hE : ∀ S1 : ZS, C (some S1) → zEnd G none S1 rmX4_init) : zV G 3 S 0 0 0 [(0, .ref a0), (1, .ref a1), (2, .int a2)] [] (C (fX4_init a0 a1 a2 S)) := by
  unfold fX4_init
  refine zr_aload_n h0 dX4_init_0 rfl (n := 1) rfl ?_
  refine zr_objInit h0 zw_397 zw_22 zw_23 (by decide) (Nat.le_of_ble_eq_true rfl) dX4_init_1 (n := 4) rfl ?_
  refine zr_aload_n h0 dX4_init_4 rfl (n := 5) rfl ?_
  refine zr_aload_n h0 dX4_init_5 rfl (n := 6) rfl ?_
  refine zr_putK C hC h0 zcX4 (k := 0) (by decide) zw_398 rfl hini rfl rfl rfl dX4_init_6 (n := 9) rfl (fun S1 => ?_)
  refine zr_aload_n h0 dX4_init_9 rfl (n := 10) rfl ?_
  refine zr_iload_n h0 dX4_init_10 rfl (n := 11) rfl ?_
  refine zr_putK C hC h0 zcX4 (k := 1) (by decide) zw_400 rfl hini rfl rfl rfl dX4_init_11 (n := 14) rfl (fun S2 => ?_)
  refine zr_aload_n h0 dX4_init_14 rfl (n := 15) rfl ?_
  refine zr_bipush (40 : Int32) h0 (by decide) dX4_init_15 (n := 17) rfl ?_
  refine zr_newarray (t := 0) (N := 40) (ce' := 1) (sl' := 40) h0 rfl rfl (fun _ => rfl) rfl (fun _ h => nomatch h) zw_44 (by decide) rfl (by decide) rfl rfl (by decide) (by decide) dX4_init_17 (n := 19) rfl ?_
  refine zr_putK C hC h0 zcX4 (k := 2) (by decide) zw_401 rfl hini rfl rfl rfl dX4_init_19 (n := 22) rfl (fun S3 => ?_)
  refine zr_aload_n h0 dX4_init_22 rfl (n := 23) rfl ?_
  refine zr_iconst (0 : Int32) h0 (by decide) dX4_init_23 (n := 24) rfl ?_
  refine zr_putF C hC h0 zcX4 (k := 3) (by decide) zw_402 rfl rfl rfl dX4_init_24 (n := 27) rfl (fun S4 => ?_)
  exact zr_vret h0 rfl dX4_init_27 (fun h => hE _ h) (by decide) (by decide)
theorem kX4_init (l : Launch) (D : ZD) (z0 : Nat) (a0 : Nat) (a1 : Nat) (a2 : Int32) (S : ZS) (x : ZS) (hf : fX4_init a0 a1 a2 S = some x) : zMet l D z0 yX4_init cX4_init 3 none rmX4_init [.ref a0, .ref a1, .int a2] S none x :=
  zMet_of (by decide) (Nat.le_of_ble_eq_true rfl) (fun G h0 hini hE => wX4_init a0 a1 a2 S h0 (hini rfl) (fun o => o = some x) (fun h => nomatch h) (fun S1 h => by cases h; exact hE)) hf
theorem dX5_way_0 : decode cX5_way 0 = .ok (.aload_n 0, 1) := by decide +kernel
theorem dX5_way_1 : decode cX5_way 1 = .ok (.iload_n 1, 1) := by decide +kernel
theorem dX5_way_2 : decode cX5_way 2 = .ok (.invokevirtual 87, 3) := by decide +kernel
theorem dX5_way_5 : decode cX5_way 5 = .ok (.astore_n 2, 1) := by decide +kernel
theorem dX5_way_6 : decode cX5_way 6 = .ok (.aload_n 0, 1) := by decide +kernel
theorem dX5_way_7 : decode cX5_way 7 = .ok (.getfield 53, 3) := by decide +kernel
theorem dX5_way_10 : decode cX5_way 10 = .ok (.ifCond .lt 15, 3) := by decide +kernel
theorem dX5_way_13 : decode cX5_way 13 = .ok (.aload_n 0, 1) := by decide +kernel
theorem dX5_way_14 : decode cX5_way 14 = .ok (.getfield 53, 3) := by decide +kernel
theorem dX5_way_17 : decode cX5_way 17 = .ok (.aload_n 0, 1) := by decide +kernel
theorem dX5_way_18 : decode cX5_way 18 = .ok (.getfield 17, 3) := by decide +kernel
theorem dX5_way_21 : decode cX5_way 21 = .ok (.arraylength, 1) := by decide +kernel
theorem dX5_way_22 : decode cX5_way 22 = .ok (.if_icmp .lt 13, 3) := by decide +kernel
theorem dX5_way_25 : decode cX5_way 25 = .ok (.new 63, 3) := by decide +kernel
theorem dX5_way_28 : decode cX5_way 28 = .ok (.dup, 1) := by decide +kernel
theorem dX5_way_29 : decode cX5_way 29 = .ok (.ldc 139, 2) := by decide +kernel
theorem dX5_way_31 : decode cX5_way 31 = .ok (.invokespecial 67, 3) := by decide +kernel
theorem dX5_way_34 : decode cX5_way 34 = .ok (.athrow, 1) := by decide +kernel
theorem dX5_way_35 : decode cX5_way 35 = .ok (.aload_n 0, 1) := by decide +kernel
theorem dX5_way_36 : decode cX5_way 36 = .ok (.getfield 17, 3) := by decide +kernel
theorem dX5_way_39 : decode cX5_way 39 = .ok (.aload_n 0, 1) := by decide +kernel
theorem dX5_way_40 : decode cX5_way 40 = .ok (.getfield 53, 3) := by decide +kernel
theorem dX5_way_43 : decode cX5_way 43 = .ok (.new 15, 3) := by decide +kernel
theorem dX5_way_46 : decode cX5_way 46 = .ok (.dup, 1) := by decide +kernel
theorem dX5_way_47 : decode cX5_way 47 = .ok (.aload_n 2, 1) := by decide +kernel
theorem dX5_way_48 : decode cX5_way 48 = .ok (.invokevirtual 141, 3) := by decide +kernel
theorem dX5_way_51 : decode cX5_way 51 = .ok (.aload_n 0, 1) := by decide +kernel
theorem dX5_way_52 : decode cX5_way 52 = .ok (.getfield 46, 3) := by decide +kernel
theorem dX5_way_55 : decode cX5_way 55 = .ok (.invokespecial 145, 3) := by decide +kernel
theorem dX5_way_58 : decode cX5_way 58 = .ok (.aastore, 1) := by decide +kernel
theorem dX5_way_59 : decode cX5_way 59 = .ok (.aload_n 0, 1) := by decide +kernel
theorem dX5_way_60 : decode cX5_way 60 = .ok (.dup, 1) := by decide +kernel
theorem dX5_way_61 : decode cX5_way 61 = .ok (.getfield 53, 3) := by decide +kernel
theorem dX5_way_64 : decode cX5_way 64 = .ok (.iconst 1, 1) := by decide +kernel
theorem dX5_way_65 : decode cX5_way 65 = .ok (.iadd, 1) := by decide +kernel
theorem dX5_way_66 : decode cX5_way 66 = .ok (.putfield 53, 3) := by decide +kernel
theorem dX5_way_69 : decode cX5_way 69 = .ok (.aload_n 0, 1) := by decide +kernel
theorem dX5_way_70 : decode cX5_way 70 = .ok (.getfield 53, 3) := by decide +kernel
theorem dX5_way_73 : decode cX5_way 73 = .ok (.iconst 1, 1) := by decide +kernel
theorem dX5_way_74 : decode cX5_way 74 = .ok (.isub, 1) := by decide +kernel
theorem dX5_way_75 : decode cX5_way 75 = .ok (.ireturn, 1) := by decide +kernel
abbrev rmX5_way : Room := { frames := 7, cells := 5, slots := 119, locals := 112 }
theorem zyX5_way : zyOK yX5_way 1 := ⟨by decide +kernel, by decide +kernel, by decide +kernel⟩
set_option maxHeartbeats 4000000 in
set_option maxRecDepth 100000 in
theorem wX5_way {G : ZG} (a0 : Nat) (a1 : Int32) (S : ZS) (h0 : zFix G cX5_way RX5 3 (some .int) rmX5_way) (C : Option ((Int32 × ZS) ⊕ ZX) → Prop) (hC : ¬ C none) (hnt : zNoTab G) (hE : ∀ (v : Int32) (S1 : ZS), C (some (.inl (v, S1))) → zEndT G (some (.int v)) S1 rmX5_way) (hEx : ∀ (E : String) (h : ZH), C (some (.inr (E, h))) → zEndX G E h rmX5_way) : zV G 3 S 0 0 0 [(0, .ref a0), (1, .int a1)] [] (C (fX5_way a0 a1 S)) := by
  have J25 : ∀  (S9 : ZS), zV G 3 S9 1 6 25 [] [] (C (fX5_way_J25 S9)) := by
    intro  S9
    unfold fX5_way_J25
    exact zr_throw h0 hnt (cls := "java/lang/IllegalStateException") (text := "there are 16 ways") (names := ["java/lang/RuntimeException", "java/lang/Exception"]) (by decide +kernel) zfitN zw_180 zw_10 (by decide +kernel) (by decide +kernel) zat_X5_67 zbad_X5_67 zgd_X5_67 dX5_way_25 dX5_way_28 dX5_way_29 dX5_way_31 dX5_way_34 (by decide) (Nat.le_of_ble_eq_true rfl) (by decide) (by decide) (fun h => hEx _ _ h)
  unfold fX5_way
  refine zr_aload_n h0 dX5_way_0 rfl (n := 1) rfl ?_
  refine zr_iload_n h0 dX5_way_1 rfl (n := 2) rfl ?_
  refine zr_cTR C hC 1 6 h0 (fun x hx => zk_VT h0 zcX5 (zcl_ex hx) (fun l D z0 hlt => kX5_needCube l D z0 hlt a0 a1 S x (zcl_of hx)) hnt zw_286 zw_288 zs_2 zw_1 zw_289 rfl zyX5_needCube (As := [.int a1]) (st := []) rfl (by decide) rfl (Nat.le_of_ble_eq_true rfl) (by decide) dX5_way_2) hnt rfl rfl (by decide) (by decide) (n := 5) rfl (fun z h => hEx _ _ h) (fun x1 => ?_)
  refine zr_astore_n [(0, .ref a0), (1, .int a1), (2, .ref x1.1)] h0 dX5_way_5 (by decide) rfl (n := 6) rfl ?_
  refine zr_aload_n h0 dX5_way_6 rfl (n := 7) rfl ?_
  refine zr_getI C hC h0 zcX5 (k := 8) (by decide) zw_83 dX5_way_7 (n := 10) rfl (fun v2 => ?_)
  refine zr_if_lt C (tgt := 25) h0 dX5_way_10 (by decide) (n := 13) rfl ?_ ?_
  · refine zv_sub (lv' := []) ?_ (zsub_of [] rfl)
    exact J25 x1.2
  · refine zv_sub (lv' := [(0, .ref a0), (2, .ref x1.1)]) ?_ (zsub_of [0, 2] rfl)
    refine zr_aload_n h0 dX5_way_13 rfl (n := 14) rfl ?_
    refine zr_getI C hC h0 zcX5 (k := 8) (by decide) zw_83 dX5_way_14 (n := 17) rfl (fun v3 => ?_)
    refine zr_aload_n h0 dX5_way_17 rfl (n := 18) rfl ?_
    refine zr_getR C hC h0 zcX5 (k := 1) (by decide) zw_76 dX5_way_18 (n := 21) rfl (fun v4 => ?_)
    refine zr_alen C hC h0 dX5_way_21 (n := 22) rfl (fun v5 => ?_)
    refine zr_icmp_lt C (tgt := 35) h0 dX5_way_22 (by decide) (n := 25) rfl ?_ ?_
    · refine zr_aload_n h0 dX5_way_35 rfl (n := 36) rfl ?_
      refine zr_getR C hC h0 zcX5 (k := 1) (by decide) zw_76 dX5_way_36 (n := 39) rfl (fun v6 => ?_)
      refine zr_aload_n h0 dX5_way_39 rfl (n := 40) rfl ?_
      refine zr_getI C hC h0 zcX5 (k := 8) (by decide) zw_83 dX5_way_40 (n := 43) rfl (fun v7 => ?_)
      refine zr_new (fs := [.null, .int 0, .null, .int 0]) (ce' := 2) (sl' := 10) h0 zcX4 znwX4 zw_26 zw_387 zw_13 rfl rfl (by decide) (by decide) dX5_way_43 (n := 46) rfl ?_
      refine zr_dup h0 rfl dX5_way_46 (n := 47) rfl ?_
      refine zr_aload_n h0 dX5_way_47 rfl (n := 48) rfl ?_
      refine zr_cMR C hC 4 79 (fun x hx => zk_V h0 zcX0 (zcl_ex hx) (fun l D z0 => kX0_copied l D z0 x1.1 (zno x1.2 4 [.null, .int 0, .null, .int 0]) x (zcl_of hx)) zw_388 zw_389 zw_390 zw_11 zw_391 rfl zyX0_copied (As := []) (st := [.ref (Prod.snd x1.2), .ref (Prod.snd x1.2), .int v7, .ref v6]) rfl (by decide) rfl (Nat.le_of_ble_eq_true rfl) (by decide) dX5_way_48) rfl rfl (n := 51) rfl (fun x8 => ?_)
      refine zr_aload_n h0 dX5_way_51 rfl (n := 52) rfl ?_
      refine zr_getI C hC h0 zcX5 (k := 6) (by decide) zw_81 dX5_way_52 (n := 55) rfl (fun v9 => ?_)
      refine zr_cMV C hC 5 119 (fun x hx => zk_I h0 (fun l D z0 => kX4_init l D z0 (Prod.snd x1.2) x8.1 v9 x8.2 x hx) zw_394 zw_395 zw_13 zw_396 rfl zyX4_init (As := [.ref x8.1, .int v9]) (st := [.ref (Prod.snd x1.2), .int v7, .ref v6]) rfl (by decide) rfl (Nat.le_of_ble_eq_true rfl) (by decide) dX5_way_55) rfl rfl (n := 58) rfl (fun x10 => ?_)
      refine zr_aastore C hC (t := 4) h0 zcX4 rfl dX5_way_58 (n := 59) rfl (fun S11 => ?_)
      refine zr_aload_n h0 dX5_way_59 rfl (n := 60) rfl ?_
      refine zr_dup h0 rfl dX5_way_60 (n := 61) rfl ?_
      refine zr_getI C hC h0 zcX5 (k := 8) (by decide) zw_83 dX5_way_61 (n := 64) rfl (fun v12 => ?_)
      refine zr_iconst (1 : Int32) h0 (by decide) dX5_way_64 (n := 65) rfl ?_
      refine zr_iadd h0 dX5_way_65 (n := 66) rfl ?_
      refine zr_putF C hC h0 zcX5 (k := 8) (by decide) zw_83 rfl rfl rfl dX5_way_66 (n := 69) rfl (fun S13 => ?_)
      refine zr_aload_n h0 dX5_way_69 rfl (n := 70) rfl ?_
      refine zr_getI C hC h0 zcX5 (k := 8) (by decide) zw_83 dX5_way_70 (n := 73) rfl (fun v14 => ?_)
      refine zr_iconst (1 : Int32) h0 (by decide) dX5_way_73 (n := 74) rfl ?_
      refine zr_isub h0 dX5_way_74 (n := 75) rfl ?_
      exact zr_iretT h0 rfl dX5_way_75 (hE _ _) (by decide) (by decide)
    · refine zv_sub (lv' := []) ?_ (zsub_of [] rfl)
      exact J25 x1.2
theorem kX5_way (l : Launch) (D : ZD) (z0 : Nat) (hlt : l.stackTraces = false) (a0 : Nat) (a1 : Int32) (S : ZS) (x : ((Int32 × ZS) ⊕ ZX)) (hf : fX5_way a0 a1 S = some x) : zMetT l D z0 yX5_way cX5_way 3 (some .int) rmX5_way [.ref a0, .int a1] S (x.map (fun y => ((some (.int y.1)), y.2)) id) :=
  zMetT_of hlt (by decide) (Nat.le_of_ble_eq_true rfl) (fun G h0 hnt hE hEx => wX5_way a0 a1 S h0 (fun o => o = some x) (fun h => nomatch h) hnt (fun v S1 h => by cases h; exact hE _ _ rfl) (fun E h hh => by cases hh; exact hEx _ _ rfl)) hf
end

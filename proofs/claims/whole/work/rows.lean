section
-- ===== PART A: goes FIRST, ahead of the names: the tables' words, and 'selects' of the private methods out of them =====
/-- a private method of a class that the tables say can be made, by its rows of tables_1 -/
def lw_okq (q : MethodName × Nat) : Prop := (q.1.cls ≠ "java/lang/invoke/MethodHandle" ∧ q.1.cls ≠ "java/lang/invoke/VarHandle") ∧ Cond.instantiable q.1.cls q.2 ∈ tables_1 ∧ Cond.privateMethod q.1 ∈ tables_1 ∧ Cond.instanceMethod q.1 ∈ tables_1
theorem lw_p0 : lw_okq (⟨"NotBothInAugust$Shop", "rowOf", "(I)[I"⟩, 12) := ⟨⟨by decide +kernel, by decide +kernel⟩, List.mem_of_getElem? (i := 30) (by decide +kernel), List.mem_of_getElem? (i := 326) (by decide +kernel), List.mem_of_getElem? (i := 327) (by decide +kernel)⟩
theorem lw_p1 : lw_okq (⟨"NotBothInAugust$Rules", "nameWeek", "(LNotBothInAugust$Shop;II)V"⟩, 5) := ⟨⟨by decide +kernel, by decide +kernel⟩, List.mem_of_getElem? (i := 92) (by decide +kernel), List.mem_of_getElem? (i := 372) (by decide +kernel), List.mem_of_getElem? (i := 373) (by decide +kernel)⟩
theorem lw_p2 : lw_okq (⟨"NotBothInAugust$Rules", "nameOne", "(LNotBothInAugust$Shop;I)V"⟩, 5) := ⟨⟨by decide +kernel, by decide +kernel⟩, List.mem_of_getElem? (i := 92) (by decide +kernel), List.mem_of_getElem? (i := 376) (by decide +kernel), List.mem_of_getElem? (i := 377) (by decide +kernel)⟩
theorem lw_p3 : lw_okq (⟨"NotBothInAugust$Rules", "kindAt", "(I)LNotBothInAugust$Clerk;"⟩, 5) := ⟨⟨by decide +kernel, by decide +kernel⟩, List.mem_of_getElem? (i := 92) (by decide +kernel), List.mem_of_getElem? (i := 408) (by decide +kernel), List.mem_of_getElem? (i := 409) (by decide +kernel)⟩
theorem lw_p4 : lw_okq (⟨"NotBothInAugust", "toldOfWeek", "(II)I"⟩, 9) := ⟨⟨by decide +kernel, by decide +kernel⟩, List.mem_of_getElem? (i := 22) (by decide +kernel), List.mem_of_getElem? (i := 503) (by decide +kernel), List.mem_of_getElem? (i := 504) (by decide +kernel)⟩
theorem lw_p5 : lw_okq (⟨"NotBothInAugust$Text", "advance", "()V"⟩, 12) := ⟨⟨by decide +kernel, by decide +kernel⟩, List.mem_of_getElem? (i := 142) (by decide +kernel), List.mem_of_getElem? (i := 523) (by decide +kernel), List.mem_of_getElem? (i := 524) (by decide +kernel)⟩
theorem lw_p6 : lw_okq (⟨"NotBothInAugust$Text", "isBlank", "(I)Z"⟩, 12) := ⟨⟨by decide +kernel, by decide +kernel⟩, List.mem_of_getElem? (i := 142) (by decide +kernel), List.mem_of_getElem? (i := 527) (by decide +kernel), List.mem_of_getElem? (i := 528) (by decide +kernel)⟩
theorem lw_p7 : lw_okq (⟨"NotBothInAugust$Text", "isLetter", "(I)Z"⟩, 12) := ⟨⟨by decide +kernel, by decide +kernel⟩, List.mem_of_getElem? (i := 142) (by decide +kernel), List.mem_of_getElem? (i := 531) (by decide +kernel), List.mem_of_getElem? (i := 532) (by decide +kernel)⟩
theorem lw_p8 : lw_okq (⟨"NotBothInAugust$Text", "advanceOverWord", "()V"⟩, 12) := ⟨⟨by decide +kernel, by decide +kernel⟩, List.mem_of_getElem? (i := 142) (by decide +kernel), List.mem_of_getElem? (i := 535) (by decide +kernel), List.mem_of_getElem? (i := 536) (by decide +kernel)⟩
theorem lw_p9 : lw_okq (⟨"NotBothInAugust$Text", "key", "()I"⟩, 12) := ⟨⟨by decide +kernel, by decide +kernel⟩, List.mem_of_getElem? (i := 142) (by decide +kernel), List.mem_of_getElem? (i := 539) (by decide +kernel), List.mem_of_getElem? (i := 540) (by decide +kernel)⟩
theorem lw_p10 : lw_okq (⟨"NotBothInAugust$Text", "isWord", "(Ljava/lang/String;)Z"⟩, 12) := ⟨⟨by decide +kernel, by decide +kernel⟩, List.mem_of_getElem? (i := 142) (by decide +kernel), List.mem_of_getElem? (i := 544) (by decide +kernel), List.mem_of_getElem? (i := 545) (by decide +kernel)⟩
theorem lw_p11 : lw_okq (⟨"NotBothInAugust$Text", "name", "()I"⟩, 12) := ⟨⟨by decide +kernel, by decide +kernel⟩, List.mem_of_getElem? (i := 142) (by decide +kernel), List.mem_of_getElem? (i := 601) (by decide +kernel), List.mem_of_getElem? (i := 602) (by decide +kernel)⟩
theorem lw_p12 : lw_okq (⟨"NotBothInAugust$Text", "fail", "()V"⟩, 12) := ⟨⟨by decide +kernel, by decide +kernel⟩, List.mem_of_getElem? (i := 142) (by decide +kernel), List.mem_of_getElem? (i := 611) (by decide +kernel), List.mem_of_getElem? (i := 612) (by decide +kernel)⟩
theorem lw_p13 : lw_okq (⟨"NotBothInAugust$Text", "isNumeral", "(I)Z"⟩, 12) := ⟨⟨by decide +kernel, by decide +kernel⟩, List.mem_of_getElem? (i := 142) (by decide +kernel), List.mem_of_getElem? (i := 615) (by decide +kernel), List.mem_of_getElem? (i := 616) (by decide +kernel)⟩
theorem lw_p14 : lw_okq (⟨"NotBothInAugust$Text", "advanceOverNumber", "()V"⟩, 12) := ⟨⟨by decide +kernel, by decide +kernel⟩, List.mem_of_getElem? (i := 142) (by decide +kernel), List.mem_of_getElem? (i := 619) (by decide +kernel), List.mem_of_getElem? (i := 620) (by decide +kernel)⟩
theorem lw_p15 : lw_okq (⟨"NotBothInAugust$Text", "isSign", "(I)Z"⟩, 12) := ⟨⟨by decide +kernel, by decide +kernel⟩, List.mem_of_getElem? (i := 142) (by decide +kernel), List.mem_of_getElem? (i := 623) (by decide +kernel), List.mem_of_getElem? (i := 624) (by decide +kernel)⟩
def lw_privs_1 : List (MethodName × Nat) := [(⟨"NotBothInAugust$Shop", "rowOf", "(I)[I"⟩, 12), (⟨"NotBothInAugust$Rules", "nameWeek", "(LNotBothInAugust$Shop;II)V"⟩, 5), (⟨"NotBothInAugust$Rules", "nameOne", "(LNotBothInAugust$Shop;I)V"⟩, 5), (⟨"NotBothInAugust$Rules", "kindAt", "(I)LNotBothInAugust$Clerk;"⟩, 5), (⟨"NotBothInAugust", "toldOfWeek", "(II)I"⟩, 9), (⟨"NotBothInAugust$Text", "advance", "()V"⟩, 12), (⟨"NotBothInAugust$Text", "isBlank", "(I)Z"⟩, 12), (⟨"NotBothInAugust$Text", "isLetter", "(I)Z"⟩, 12), (⟨"NotBothInAugust$Text", "advanceOverWord", "()V"⟩, 12), (⟨"NotBothInAugust$Text", "key", "()I"⟩, 12), (⟨"NotBothInAugust$Text", "isWord", "(Ljava/lang/String;)Z"⟩, 12), (⟨"NotBothInAugust$Text", "name", "()I"⟩, 12), (⟨"NotBothInAugust$Text", "fail", "()V"⟩, 12), (⟨"NotBothInAugust$Text", "isNumeral", "(I)Z"⟩, 12), (⟨"NotBothInAugust$Text", "advanceOverNumber", "()V"⟩, 12), (⟨"NotBothInAugust$Text", "isSign", "(I)Z"⟩, 12)]
theorem lw_r1 : ∀ q ∈ lw_privs_1, lw_okq q := List.forall_mem_cons.mpr ⟨lw_p0, List.forall_mem_cons.mpr ⟨lw_p1, List.forall_mem_cons.mpr ⟨lw_p2, List.forall_mem_cons.mpr ⟨lw_p3, List.forall_mem_cons.mpr ⟨lw_p4, List.forall_mem_cons.mpr ⟨lw_p5, List.forall_mem_cons.mpr ⟨lw_p6, List.forall_mem_cons.mpr ⟨lw_p7, List.forall_mem_cons.mpr ⟨lw_p8, List.forall_mem_cons.mpr ⟨lw_p9, List.forall_mem_cons.mpr ⟨lw_p10, List.forall_mem_cons.mpr ⟨lw_p11, List.forall_mem_cons.mpr ⟨lw_p12, List.forall_mem_cons.mpr ⟨lw_p13, List.forall_mem_cons.mpr ⟨lw_p14, List.forall_mem_cons.mpr ⟨lw_p15, fun _ h => absurd h List.not_mem_nil⟩⟩⟩⟩⟩⟩⟩⟩⟩⟩⟩⟩⟩⟩⟩⟩
theorem lw_p16 : lw_okq (⟨"NotBothInAugust$Text", "take", "(I)V"⟩, 12) := ⟨⟨by decide +kernel, by decide +kernel⟩, List.mem_of_getElem? (i := 142) (by decide +kernel), List.mem_of_getElem? (i := 627) (by decide +kernel), List.mem_of_getElem? (i := 628) (by decide +kernel)⟩
theorem lw_p17 : lw_okq (⟨"NotBothInAugust$Text", "readEither", "()V"⟩, 12) := ⟨⟨by decide +kernel, by decide +kernel⟩, List.mem_of_getElem? (i := 142) (by decide +kernel), List.mem_of_getElem? (i := 631) (by decide +kernel), List.mem_of_getElem? (i := 632) (by decide +kernel)⟩
theorem lw_p18 : lw_okq (⟨"NotBothInAugust$Text", "readBoth", "()V"⟩, 12) := ⟨⟨by decide +kernel, by decide +kernel⟩, List.mem_of_getElem? (i := 142) (by decide +kernel), List.mem_of_getElem? (i := 635) (by decide +kernel), List.mem_of_getElem? (i := 636) (by decide +kernel)⟩
theorem lw_p19 : lw_okq (⟨"NotBothInAugust$Text", "readNot", "()V"⟩, 12) := ⟨⟨by decide +kernel, by decide +kernel⟩, List.mem_of_getElem? (i := 142) (by decide +kernel), List.mem_of_getElem? (i := 639) (by decide +kernel), List.mem_of_getElem? (i := 640) (by decide +kernel)⟩
theorem lw_p20 : lw_okq (⟨"NotBothInAugust$Text", "readComparison", "()V"⟩, 12) := ⟨⟨by decide +kernel, by decide +kernel⟩, List.mem_of_getElem? (i := 142) (by decide +kernel), List.mem_of_getElem? (i := 643) (by decide +kernel), List.mem_of_getElem? (i := 644) (by decide +kernel)⟩
theorem lw_p21 : lw_okq (⟨"NotBothInAugust$Text", "readSum", "()V"⟩, 12) := ⟨⟨by decide +kernel, by decide +kernel⟩, List.mem_of_getElem? (i := 142) (by decide +kernel), List.mem_of_getElem? (i := 647) (by decide +kernel), List.mem_of_getElem? (i := 648) (by decide +kernel)⟩
theorem lw_p22 : lw_okq (⟨"NotBothInAugust$Text", "readTerm", "()V"⟩, 12) := ⟨⟨by decide +kernel, by decide +kernel⟩, List.mem_of_getElem? (i := 142) (by decide +kernel), List.mem_of_getElem? (i := 651) (by decide +kernel), List.mem_of_getElem? (i := 652) (by decide +kernel)⟩
theorem lw_p23 : lw_okq (⟨"NotBothInAugust$Text", "readOne", "()V"⟩, 12) := ⟨⟨by decide +kernel, by decide +kernel⟩, List.mem_of_getElem? (i := 142) (by decide +kernel), List.mem_of_getElem? (i := 655) (by decide +kernel), List.mem_of_getElem? (i := 656) (by decide +kernel)⟩
theorem lw_p24 : lw_okq (⟨"NotBothInAugust$Text", "openOne", "()Z"⟩, 12) := ⟨⟨by decide +kernel, by decide +kernel⟩, List.mem_of_getElem? (i := 142) (by decide +kernel), List.mem_of_getElem? (i := 664) (by decide +kernel), List.mem_of_getElem? (i := 665) (by decide +kernel)⟩
theorem lw_p25 : lw_okq (⟨"NotBothInAugust$Planner", "lookAtOne", "(I)V"⟩, 12) := ⟨⟨by decide +kernel, by decide +kernel⟩, List.mem_of_getElem? (i := 210) (by decide +kernel), List.mem_of_getElem? (i := 694) (by decide +kernel), List.mem_of_getElem? (i := 695) (by decide +kernel)⟩
theorem lw_p26 : lw_okq (⟨"NotBothInAugust$Planner", "gladnessOf", "(I)I"⟩, 12) := ⟨⟨by decide +kernel, by decide +kernel⟩, List.mem_of_getElem? (i := 210) (by decide +kernel), List.mem_of_getElem? (i := 701) (by decide +kernel), List.mem_of_getElem? (i := 702) (by decide +kernel)⟩
theorem lw_p27 : lw_okq (⟨"NotBothInAugust$Planner", "takeBooked", "()V"⟩, 12) := ⟨⟨by decide +kernel, by decide +kernel⟩, List.mem_of_getElem? (i := 210) (by decide +kernel), List.mem_of_getElem? (i := 705) (by decide +kernel), List.mem_of_getElem? (i := 706) (by decide +kernel)⟩
theorem lw_p28 : lw_okq (⟨"NotBothInAugust$Planner", "place", "(I)I"⟩, 12) := ⟨⟨by decide +kernel, by decide +kernel⟩, List.mem_of_getElem? (i := 210) (by decide +kernel), List.mem_of_getElem? (i := 714) (by decide +kernel), List.mem_of_getElem? (i := 715) (by decide +kernel)⟩
theorem lw_p29 : lw_okq (⟨"NotBothInAugust$Planner", "takeNone", "()V"⟩, 12) := ⟨⟨by decide +kernel, by decide +kernel⟩, List.mem_of_getElem? (i := 210) (by decide +kernel), List.mem_of_getElem? (i := 749) (by decide +kernel), List.mem_of_getElem? (i := 750) (by decide +kernel)⟩
theorem lw_p30 : lw_okq (⟨"NotBothInAugust$Planner", "takeHopes", "()V"⟩, 12) := ⟨⟨by decide +kernel, by decide +kernel⟩, List.mem_of_getElem? (i := 210) (by decide +kernel), List.mem_of_getElem? (i := 753) (by decide +kernel), List.mem_of_getElem? (i := 754) (by decide +kernel)⟩
theorem lw_p31 : lw_okq (⟨"NotBothInAugust$Planner", "extend", "(III)V"⟩, 12) := ⟨⟨by decide +kernel, by decide +kernel⟩, List.mem_of_getElem? (i := 210) (by decide +kernel), List.mem_of_getElem? (i := 759) (by decide +kernel), List.mem_of_getElem? (i := 760) (by decide +kernel)⟩
def lw_privs_2 : List (MethodName × Nat) := [(⟨"NotBothInAugust$Text", "take", "(I)V"⟩, 12), (⟨"NotBothInAugust$Text", "readEither", "()V"⟩, 12), (⟨"NotBothInAugust$Text", "readBoth", "()V"⟩, 12), (⟨"NotBothInAugust$Text", "readNot", "()V"⟩, 12), (⟨"NotBothInAugust$Text", "readComparison", "()V"⟩, 12), (⟨"NotBothInAugust$Text", "readSum", "()V"⟩, 12), (⟨"NotBothInAugust$Text", "readTerm", "()V"⟩, 12), (⟨"NotBothInAugust$Text", "readOne", "()V"⟩, 12), (⟨"NotBothInAugust$Text", "openOne", "()Z"⟩, 12), (⟨"NotBothInAugust$Planner", "lookAtOne", "(I)V"⟩, 12), (⟨"NotBothInAugust$Planner", "gladnessOf", "(I)I"⟩, 12), (⟨"NotBothInAugust$Planner", "takeBooked", "()V"⟩, 12), (⟨"NotBothInAugust$Planner", "place", "(I)I"⟩, 12), (⟨"NotBothInAugust$Planner", "takeNone", "()V"⟩, 12), (⟨"NotBothInAugust$Planner", "takeHopes", "()V"⟩, 12), (⟨"NotBothInAugust$Planner", "extend", "(III)V"⟩, 12)]
theorem lw_r2 : ∀ q ∈ lw_privs_2, lw_okq q := List.forall_mem_cons.mpr ⟨lw_p16, List.forall_mem_cons.mpr ⟨lw_p17, List.forall_mem_cons.mpr ⟨lw_p18, List.forall_mem_cons.mpr ⟨lw_p19, List.forall_mem_cons.mpr ⟨lw_p20, List.forall_mem_cons.mpr ⟨lw_p21, List.forall_mem_cons.mpr ⟨lw_p22, List.forall_mem_cons.mpr ⟨lw_p23, List.forall_mem_cons.mpr ⟨lw_p24, List.forall_mem_cons.mpr ⟨lw_p25, List.forall_mem_cons.mpr ⟨lw_p26, List.forall_mem_cons.mpr ⟨lw_p27, List.forall_mem_cons.mpr ⟨lw_p28, List.forall_mem_cons.mpr ⟨lw_p29, List.forall_mem_cons.mpr ⟨lw_p30, List.forall_mem_cons.mpr ⟨lw_p31, fun _ h => absurd h List.not_mem_nil⟩⟩⟩⟩⟩⟩⟩⟩⟩⟩⟩⟩⟩⟩⟩⟩
theorem lw_p32 : lw_okq (⟨"NotBothInAugust$Planner", "keep", "(I)V"⟩, 12) := ⟨⟨by decide +kernel, by decide +kernel⟩, List.mem_of_getElem? (i := 210) (by decide +kernel), List.mem_of_getElem? (i := 763) (by decide +kernel), List.mem_of_getElem? (i := 764) (by decide +kernel)⟩
theorem lw_p33 : lw_okq (⟨"NotBothInAugust$Planner", "weeksClosedTo", "(I)I"⟩, 12) := ⟨⟨by decide +kernel, by decide +kernel⟩, List.mem_of_getElem? (i := 210) (by decide +kernel), List.mem_of_getElem? (i := 767) (by decide +kernel), List.mem_of_getElem? (i := 768) (by decide +kernel)⟩
theorem lw_p34 : lw_okq (⟨"NotBothInAugust$Planner", "canAdd", "(II)Z"⟩, 12) := ⟨⟨by decide +kernel, by decide +kernel⟩, List.mem_of_getElem? (i := 210) (by decide +kernel), List.mem_of_getElem? (i := 771) (by decide +kernel), List.mem_of_getElem? (i := 772) (by decide +kernel)⟩
theorem lw_p35 : lw_okq (⟨"NotBothInAugust$Planner", "nextInTurn", "(I)I"⟩, 12) := ⟨⟨by decide +kernel, by decide +kernel⟩, List.mem_of_getElem? (i := 210) (by decide +kernel), List.mem_of_getElem? (i := 792) (by decide +kernel), List.mem_of_getElem? (i := 793) (by decide +kernel)⟩
theorem lw_p36 : lw_okq (⟨"NotBothInAugust$Planner", "gladdest", "(I)I"⟩, 12) := ⟨⟨by decide +kernel, by decide +kernel⟩, List.mem_of_getElem? (i := 210) (by decide +kernel), List.mem_of_getElem? (i := 797) (by decide +kernel), List.mem_of_getElem? (i := 798) (by decide +kernel)⟩
theorem lw_p37 : lw_okq (⟨"NotBothInAugust$Planner", "swap", "(II)V"⟩, 12) := ⟨⟨by decide +kernel, by decide +kernel⟩, List.mem_of_getElem? (i := 210) (by decide +kernel), List.mem_of_getElem? (i := 814) (by decide +kernel), List.mem_of_getElem? (i := 815) (by decide +kernel)⟩
theorem lw_p38 : lw_okq (⟨"NotBothInAugust$Planner", "holdsWithout", "(I)Z"⟩, 12) := ⟨⟨by decide +kernel, by decide +kernel⟩, List.mem_of_getElem? (i := 210) (by decide +kernel), List.mem_of_getElem? (i := 827) (by decide +kernel), List.mem_of_getElem? (i := 828) (by decide +kernel)⟩
theorem lw_p39 : lw_okq (⟨"NotBothInAugust", "firstOtherwise", "(LNotBothInAugust$Sheet;I)I"⟩, 9) := ⟨⟨by decide +kernel, by decide +kernel⟩, List.mem_of_getElem? (i := 22) (by decide +kernel), List.mem_of_getElem? (i := 854) (by decide +kernel), List.mem_of_getElem? (i := 855) (by decide +kernel)⟩
theorem lw_p40 : lw_okq (⟨"NotBothInAugust", "kindsTold", "(LNotBothInAugust$Sheet;I)I"⟩, 9) := ⟨⟨by decide +kernel, by decide +kernel⟩, List.mem_of_getElem? (i := 22) (by decide +kernel), List.mem_of_getElem? (i := 858) (by decide +kernel), List.mem_of_getElem? (i := 859) (by decide +kernel)⟩
theorem lw_p41 : lw_okq (⟨"NotBothInAugust", "numbersTold", "(LNotBothInAugust$Sheet;I)I"⟩, 9) := ⟨⟨by decide +kernel, by decide +kernel⟩, List.mem_of_getElem? (i := 22) (by decide +kernel), List.mem_of_getElem? (i := 862) (by decide +kernel), List.mem_of_getElem? (i := 863) (by decide +kernel)⟩
theorem lw_p42 : lw_okq (⟨"NotBothInAugust", "wishesTold", "(LNotBothInAugust$Sheet;I)I"⟩, 9) := ⟨⟨by decide +kernel, by decide +kernel⟩, List.mem_of_getElem? (i := 22) (by decide +kernel), List.mem_of_getElem? (i := 866) (by decide +kernel), List.mem_of_getElem? (i := 867) (by decide +kernel)⟩
theorem lw_p43 : lw_okq (⟨"NotBothInAugust", "isSoIfWished", "(LNotBothInAugust$Sheet;IIZ)Z"⟩, 9) := ⟨⟨by decide +kernel, by decide +kernel⟩, List.mem_of_getElem? (i := 22) (by decide +kernel), List.mem_of_getElem? (i := 870) (by decide +kernel), List.mem_of_getElem? (i := 871) (by decide +kernel)⟩
theorem lw_p44 : lw_okq (⟨"NotBothInAugust", "leastWishesTold", "(LNotBothInAugust$Sheet;I)I"⟩, 9) := ⟨⟨by decide +kernel, by decide +kernel⟩, List.mem_of_getElem? (i := 22) (by decide +kernel), List.mem_of_getElem? (i := 874) (by decide +kernel), List.mem_of_getElem? (i := 875) (by decide +kernel)⟩
theorem lw_p45 : lw_okq (⟨"NotBothInAugust", "textsTold", "(LNotBothInAugust$Sheet;I)I"⟩, 9) := ⟨⟨by decide +kernel, by decide +kernel⟩, List.mem_of_getElem? (i := 22) (by decide +kernel), List.mem_of_getElem? (i := 878) (by decide +kernel), List.mem_of_getElem? (i := 879) (by decide +kernel)⟩
theorem lw_p46 : lw_okq (⟨"NotBothInAugust", "drawWishes", "(I)V"⟩, 9) := ⟨⟨by decide +kernel, by decide +kernel⟩, List.mem_of_getElem? (i := 22) (by decide +kernel), List.mem_of_getElem? (i := 904) (by decide +kernel), List.mem_of_getElem? (i := 905) (by decide +kernel)⟩
theorem lw_p47 : lw_okq (⟨"NotBothInAugustModel", "spell", "(IIIIIIIII)V"⟩, 44) := ⟨⟨by decide +kernel, by decide +kernel⟩, List.mem_of_getElem? (i := 969) (by decide +kernel), List.mem_of_getElem? (i := 975) (by decide +kernel), List.mem_of_getElem? (i := 976) (by decide +kernel)⟩
def lw_privs_3 : List (MethodName × Nat) := [(⟨"NotBothInAugust$Planner", "keep", "(I)V"⟩, 12), (⟨"NotBothInAugust$Planner", "weeksClosedTo", "(I)I"⟩, 12), (⟨"NotBothInAugust$Planner", "canAdd", "(II)Z"⟩, 12), (⟨"NotBothInAugust$Planner", "nextInTurn", "(I)I"⟩, 12), (⟨"NotBothInAugust$Planner", "gladdest", "(I)I"⟩, 12), (⟨"NotBothInAugust$Planner", "swap", "(II)V"⟩, 12), (⟨"NotBothInAugust$Planner", "holdsWithout", "(I)Z"⟩, 12), (⟨"NotBothInAugust", "firstOtherwise", "(LNotBothInAugust$Sheet;I)I"⟩, 9), (⟨"NotBothInAugust", "kindsTold", "(LNotBothInAugust$Sheet;I)I"⟩, 9), (⟨"NotBothInAugust", "numbersTold", "(LNotBothInAugust$Sheet;I)I"⟩, 9), (⟨"NotBothInAugust", "wishesTold", "(LNotBothInAugust$Sheet;I)I"⟩, 9), (⟨"NotBothInAugust", "isSoIfWished", "(LNotBothInAugust$Sheet;IIZ)Z"⟩, 9), (⟨"NotBothInAugust", "leastWishesTold", "(LNotBothInAugust$Sheet;I)I"⟩, 9), (⟨"NotBothInAugust", "textsTold", "(LNotBothInAugust$Sheet;I)I"⟩, 9), (⟨"NotBothInAugust", "drawWishes", "(I)V"⟩, 9), (⟨"NotBothInAugustModel", "spell", "(IIIIIIIII)V"⟩, 44)]
theorem lw_r3 : ∀ q ∈ lw_privs_3, lw_okq q := List.forall_mem_cons.mpr ⟨lw_p32, List.forall_mem_cons.mpr ⟨lw_p33, List.forall_mem_cons.mpr ⟨lw_p34, List.forall_mem_cons.mpr ⟨lw_p35, List.forall_mem_cons.mpr ⟨lw_p36, List.forall_mem_cons.mpr ⟨lw_p37, List.forall_mem_cons.mpr ⟨lw_p38, List.forall_mem_cons.mpr ⟨lw_p39, List.forall_mem_cons.mpr ⟨lw_p40, List.forall_mem_cons.mpr ⟨lw_p41, List.forall_mem_cons.mpr ⟨lw_p42, List.forall_mem_cons.mpr ⟨lw_p43, List.forall_mem_cons.mpr ⟨lw_p44, List.forall_mem_cons.mpr ⟨lw_p45, List.forall_mem_cons.mpr ⟨lw_p46, List.forall_mem_cons.mpr ⟨lw_p47, fun _ h => absurd h List.not_mem_nil⟩⟩⟩⟩⟩⟩⟩⟩⟩⟩⟩⟩⟩⟩⟩⟩
theorem lw_p48 : lw_okq (⟨"NotBothInAugustModel", "isOne", "(I)Z"⟩, 44) := ⟨⟨by decide +kernel, by decide +kernel⟩, List.mem_of_getElem? (i := 969) (by decide +kernel), List.mem_of_getElem? (i := 1119) (by decide +kernel), List.mem_of_getElem? (i := 1120) (by decide +kernel)⟩
theorem lw_p49 : lw_okq (⟨"NotBothInAugustModel", "gladOf", "(II)I"⟩, 44) := ⟨⟨by decide +kernel, by decide +kernel⟩, List.mem_of_getElem? (i := 969) (by decide +kernel), List.mem_of_getElem? (i := 1135) (by decide +kernel), List.mem_of_getElem? (i := 1136) (by decide +kernel)⟩
theorem lw_p50 : lw_okq (⟨"NotBothInAugustModel", "isWished", "(II)Z"⟩, 44) := ⟨⟨by decide +kernel, by decide +kernel⟩, List.mem_of_getElem? (i := 969) (by decide +kernel), List.mem_of_getElem? (i := 1139) (by decide +kernel), List.mem_of_getElem? (i := 1140) (by decide +kernel)⟩
theorem lw_p51 : lw_okq (⟨"NotBothInAugustModel", "asks", "(III)I"⟩, 44) := ⟨⟨by decide +kernel, by decide +kernel⟩, List.mem_of_getElem? (i := 969) (by decide +kernel), List.mem_of_getElem? (i := 1143) (by decide +kernel), List.mem_of_getElem? (i := 1144) (by decide +kernel)⟩
theorem lw_p52 : lw_okq (⟨"NotBothInAugustModel", "read", "(II)I"⟩, 44) := ⟨⟨by decide +kernel, by decide +kernel⟩, List.mem_of_getElem? (i := 969) (by decide +kernel), List.mem_of_getElem? (i := 1147) (by decide +kernel), List.mem_of_getElem? (i := 1148) (by decide +kernel)⟩
theorem lw_p53 : lw_okq (⟨"NotBothInAugustModel", "next", "()V"⟩, 44) := ⟨⟨by decide +kernel, by decide +kernel⟩, List.mem_of_getElem? (i := 969) (by decide +kernel), List.mem_of_getElem? (i := 1151) (by decide +kernel), List.mem_of_getElem? (i := 1152) (by decide +kernel)⟩
theorem lw_p54 : lw_okq (⟨"NotBothInAugustModel", "byteAt", "(I)I"⟩, 44) := ⟨⟨by decide +kernel, by decide +kernel⟩, List.mem_of_getElem? (i := 969) (by decide +kernel), List.mem_of_getElem? (i := 1155) (by decide +kernel), List.mem_of_getElem? (i := 1156) (by decide +kernel)⟩
theorem lw_p55 : lw_okq (⟨"NotBothInAugustModel", "isWord", "(IIIIIIII)Z"⟩, 44) := ⟨⟨by decide +kernel, by decide +kernel⟩, List.mem_of_getElem? (i := 969) (by decide +kernel), List.mem_of_getElem? (i := 1163) (by decide +kernel), List.mem_of_getElem? (i := 1164) (by decide +kernel)⟩
theorem lw_p56 : lw_okq (⟨"NotBothInAugustModel", "isLetter", "(II)Z"⟩, 44) := ⟨⟨by decide +kernel, by decide +kernel⟩, List.mem_of_getElem? (i := 969) (by decide +kernel), List.mem_of_getElem? (i := 1167) (by decide +kernel), List.mem_of_getElem? (i := 1168) (by decide +kernel)⟩
theorem lw_p57 : lw_okq (⟨"NotBothInAugustModel", "part", "(Z)I"⟩, 44) := ⟨⟨by decide +kernel, by decide +kernel⟩, List.mem_of_getElem? (i := 969) (by decide +kernel), List.mem_of_getElem? (i := 1171) (by decide +kernel), List.mem_of_getElem? (i := 1172) (by decide +kernel)⟩
theorem lw_p58 : lw_okq (⟨"NotBothInAugustModel", "fail", "()V"⟩, 44) := ⟨⟨by decide +kernel, by decide +kernel⟩, List.mem_of_getElem? (i := 969) (by decide +kernel), List.mem_of_getElem? (i := 1175) (by decide +kernel), List.mem_of_getElem? (i := 1176) (by decide +kernel)⟩
theorem lw_p59 : lw_okq (⟨"NotBothInAugustModel", "either", "()I"⟩, 44) := ⟨⟨by decide +kernel, by decide +kernel⟩, List.mem_of_getElem? (i := 969) (by decide +kernel), List.mem_of_getElem? (i := 1179) (by decide +kernel), List.mem_of_getElem? (i := 1180) (by decide +kernel)⟩
theorem lw_p60 : lw_okq (⟨"NotBothInAugustModel", "both", "()I"⟩, 44) := ⟨⟨by decide +kernel, by decide +kernel⟩, List.mem_of_getElem? (i := 969) (by decide +kernel), List.mem_of_getElem? (i := 1183) (by decide +kernel), List.mem_of_getElem? (i := 1184) (by decide +kernel)⟩
theorem lw_p61 : lw_okq (⟨"NotBothInAugustModel", "not", "()I"⟩, 44) := ⟨⟨by decide +kernel, by decide +kernel⟩, List.mem_of_getElem? (i := 969) (by decide +kernel), List.mem_of_getElem? (i := 1187) (by decide +kernel), List.mem_of_getElem? (i := 1188) (by decide +kernel)⟩
theorem lw_p62 : lw_okq (⟨"NotBothInAugustModel", "opens", "()Z"⟩, 44) := ⟨⟨by decide +kernel, by decide +kernel⟩, List.mem_of_getElem? (i := 969) (by decide +kernel), List.mem_of_getElem? (i := 1191) (by decide +kernel), List.mem_of_getElem? (i := 1192) (by decide +kernel)⟩
theorem lw_p63 : lw_okq (⟨"NotBothInAugustModel", "added", "()I"⟩, 44) := ⟨⟨by decide +kernel, by decide +kernel⟩, List.mem_of_getElem? (i := 969) (by decide +kernel), List.mem_of_getElem? (i := 1195) (by decide +kernel), List.mem_of_getElem? (i := 1196) (by decide +kernel)⟩
def lw_privs_4 : List (MethodName × Nat) := [(⟨"NotBothInAugustModel", "isOne", "(I)Z"⟩, 44), (⟨"NotBothInAugustModel", "gladOf", "(II)I"⟩, 44), (⟨"NotBothInAugustModel", "isWished", "(II)Z"⟩, 44), (⟨"NotBothInAugustModel", "asks", "(III)I"⟩, 44), (⟨"NotBothInAugustModel", "read", "(II)I"⟩, 44), (⟨"NotBothInAugustModel", "next", "()V"⟩, 44), (⟨"NotBothInAugustModel", "byteAt", "(I)I"⟩, 44), (⟨"NotBothInAugustModel", "isWord", "(IIIIIIII)Z"⟩, 44), (⟨"NotBothInAugustModel", "isLetter", "(II)Z"⟩, 44), (⟨"NotBothInAugustModel", "part", "(Z)I"⟩, 44), (⟨"NotBothInAugustModel", "fail", "()V"⟩, 44), (⟨"NotBothInAugustModel", "either", "()I"⟩, 44), (⟨"NotBothInAugustModel", "both", "()I"⟩, 44), (⟨"NotBothInAugustModel", "not", "()I"⟩, 44), (⟨"NotBothInAugustModel", "opens", "()Z"⟩, 44), (⟨"NotBothInAugustModel", "added", "()I"⟩, 44)]
theorem lw_r4 : ∀ q ∈ lw_privs_4, lw_okq q := List.forall_mem_cons.mpr ⟨lw_p48, List.forall_mem_cons.mpr ⟨lw_p49, List.forall_mem_cons.mpr ⟨lw_p50, List.forall_mem_cons.mpr ⟨lw_p51, List.forall_mem_cons.mpr ⟨lw_p52, List.forall_mem_cons.mpr ⟨lw_p53, List.forall_mem_cons.mpr ⟨lw_p54, List.forall_mem_cons.mpr ⟨lw_p55, List.forall_mem_cons.mpr ⟨lw_p56, List.forall_mem_cons.mpr ⟨lw_p57, List.forall_mem_cons.mpr ⟨lw_p58, List.forall_mem_cons.mpr ⟨lw_p59, List.forall_mem_cons.mpr ⟨lw_p60, List.forall_mem_cons.mpr ⟨lw_p61, List.forall_mem_cons.mpr ⟨lw_p62, List.forall_mem_cons.mpr ⟨lw_p63, fun _ h => absurd h List.not_mem_nil⟩⟩⟩⟩⟩⟩⟩⟩⟩⟩⟩⟩⟩⟩⟩⟩
theorem lw_p64 : lw_okq (⟨"NotBothInAugustModel", "term", "()I"⟩, 44) := ⟨⟨by decide +kernel, by decide +kernel⟩, List.mem_of_getElem? (i := 969) (by decide +kernel), List.mem_of_getElem? (i := 1199) (by decide +kernel), List.mem_of_getElem? (i := 1200) (by decide +kernel)⟩
theorem lw_p65 : lw_okq (⟨"NotBothInAugustModel", "atom", "()I"⟩, 44) := ⟨⟨by decide +kernel, by decide +kernel⟩, List.mem_of_getElem? (i := 969) (by decide +kernel), List.mem_of_getElem? (i := 1203) (by decide +kernel), List.mem_of_getElem? (i := 1204) (by decide +kernel)⟩
theorem lw_p66 : lw_okq (⟨"NotBothInAugustModel", "isSign", "(I)Z"⟩, 44) := ⟨⟨by decide +kernel, by decide +kernel⟩, List.mem_of_getElem? (i := 969) (by decide +kernel), List.mem_of_getElem? (i := 1207) (by decide +kernel), List.mem_of_getElem? (i := 1208) (by decide +kernel)⟩
theorem lw_p67 : lw_okq (⟨"NotBothInAugustModel", "name", "()I"⟩, 44) := ⟨⟨by decide +kernel, by decide +kernel⟩, List.mem_of_getElem? (i := 969) (by decide +kernel), List.mem_of_getElem? (i := 1211) (by decide +kernel), List.mem_of_getElem? (i := 1212) (by decide +kernel)⟩
theorem lw_p68 : lw_okq (⟨"NotBothInAugustModel", "wants", "(II)Z"⟩, 44) := ⟨⟨by decide +kernel, by decide +kernel⟩, List.mem_of_getElem? (i := 969) (by decide +kernel), List.mem_of_getElem? (i := 1222) (by decide +kernel), List.mem_of_getElem? (i := 1223) (by decide +kernel)⟩
theorem lw_p69 : lw_okq (⟨"NotBothInAugustModel", "hasOf", "(II)I"⟩, 44) := ⟨⟨by decide +kernel, by decide +kernel⟩, List.mem_of_getElem? (i := 969) (by decide +kernel), List.mem_of_getElem? (i := 1226) (by decide +kernel), List.mem_of_getElem? (i := 1227) (by decide +kernel)⟩
theorem lw_p70 : lw_okq (⟨"NotBothInAugustModel", "weeksOf", "(II)I"⟩, 44) := ⟨⟨by decide +kernel, by decide +kernel⟩, List.mem_of_getElem? (i := 969) (by decide +kernel), List.mem_of_getElem? (i := 1230) (by decide +kernel), List.mem_of_getElem? (i := 1231) (by decide +kernel)⟩
theorem lw_p71 : lw_okq (⟨"NotBothInAugustModel", "earnsOf", "(I)I"⟩, 44) := ⟨⟨by decide +kernel, by decide +kernel⟩, List.mem_of_getElem? (i := 969) (by decide +kernel), List.mem_of_getElem? (i := 1234) (by decide +kernel), List.mem_of_getElem? (i := 1235) (by decide +kernel)⟩
theorem lw_p72 : lw_okq (⟨"NotBothInAugustModel", "lays", "(III)V"⟩, 44) := ⟨⟨by decide +kernel, by decide +kernel⟩, List.mem_of_getElem? (i := 969) (by decide +kernel), List.mem_of_getElem? (i := 1238) (by decide +kernel), List.mem_of_getElem? (i := 1239) (by decide +kernel)⟩
theorem lw_p73 : lw_okq (⟨"NotBothInAugustModel", "parts", "(III)V"⟩, 44) := ⟨⟨by decide +kernel, by decide +kernel⟩, List.mem_of_getElem? (i := 969) (by decide +kernel), List.mem_of_getElem? (i := 1248) (by decide +kernel), List.mem_of_getElem? (i := 1249) (by decide +kernel)⟩
theorem lw_p74 : lw_okq (⟨"NotBothInAugustModel", "canBe", "(II)Z"⟩, 44) := ⟨⟨by decide +kernel, by decide +kernel⟩, List.mem_of_getElem? (i := 969) (by decide +kernel), List.mem_of_getElem? (i := 1264) (by decide +kernel), List.mem_of_getElem? (i := 1265) (by decide +kernel)⟩
theorem lw_p75 : lw_okq (⟨"NotBothInAugustModel", "tables", "()V"⟩, 44) := ⟨⟨by decide +kernel, by decide +kernel⟩, List.mem_of_getElem? (i := 969) (by decide +kernel), List.mem_of_getElem? (i := 1289) (by decide +kernel), List.mem_of_getElem? (i := 1290) (by decide +kernel)⟩
theorem lw_p76 : lw_okq (⟨"NotBothInAugustModel", "booked", "()V"⟩, 44) := ⟨⟨by decide +kernel, by decide +kernel⟩, List.mem_of_getElem? (i := 969) (by decide +kernel), List.mem_of_getElem? (i := 1293) (by decide +kernel), List.mem_of_getElem? (i := 1294) (by decide +kernel)⟩
theorem lw_p77 : lw_okq (⟨"NotBothInAugustModel", "holds", "()Z"⟩, 44) := ⟨⟨by decide +kernel, by decide +kernel⟩, List.mem_of_getElem? (i := 969) (by decide +kernel), List.mem_of_getElem? (i := 1297) (by decide +kernel), List.mem_of_getElem? (i := 1298) (by decide +kernel)⟩
theorem lw_p78 : lw_okq (⟨"NotBothInAugustModel", "firstWrong", "()I"⟩, 44) := ⟨⟨by decide +kernel, by decide +kernel⟩, List.mem_of_getElem? (i := 969) (by decide +kernel), List.mem_of_getElem? (i := 1301) (by decide +kernel), List.mem_of_getElem? (i := 1302) (by decide +kernel)⟩
theorem lw_p79 : lw_okq (⟨"NotBothInAugustModel", "isRight", "(I)Z"⟩, 44) := ⟨⟨by decide +kernel, by decide +kernel⟩, List.mem_of_getElem? (i := 969) (by decide +kernel), List.mem_of_getElem? (i := 1305) (by decide +kernel), List.mem_of_getElem? (i := 1306) (by decide +kernel)⟩
def lw_privs_5 : List (MethodName × Nat) := [(⟨"NotBothInAugustModel", "term", "()I"⟩, 44), (⟨"NotBothInAugustModel", "atom", "()I"⟩, 44), (⟨"NotBothInAugustModel", "isSign", "(I)Z"⟩, 44), (⟨"NotBothInAugustModel", "name", "()I"⟩, 44), (⟨"NotBothInAugustModel", "wants", "(II)Z"⟩, 44), (⟨"NotBothInAugustModel", "hasOf", "(II)I"⟩, 44), (⟨"NotBothInAugustModel", "weeksOf", "(II)I"⟩, 44), (⟨"NotBothInAugustModel", "earnsOf", "(I)I"⟩, 44), (⟨"NotBothInAugustModel", "lays", "(III)V"⟩, 44), (⟨"NotBothInAugustModel", "parts", "(III)V"⟩, 44), (⟨"NotBothInAugustModel", "canBe", "(II)Z"⟩, 44), (⟨"NotBothInAugustModel", "tables", "()V"⟩, 44), (⟨"NotBothInAugustModel", "booked", "()V"⟩, 44), (⟨"NotBothInAugustModel", "holds", "()Z"⟩, 44), (⟨"NotBothInAugustModel", "firstWrong", "()I"⟩, 44), (⟨"NotBothInAugustModel", "isRight", "(I)Z"⟩, 44)]
theorem lw_r5 : ∀ q ∈ lw_privs_5, lw_okq q := List.forall_mem_cons.mpr ⟨lw_p64, List.forall_mem_cons.mpr ⟨lw_p65, List.forall_mem_cons.mpr ⟨lw_p66, List.forall_mem_cons.mpr ⟨lw_p67, List.forall_mem_cons.mpr ⟨lw_p68, List.forall_mem_cons.mpr ⟨lw_p69, List.forall_mem_cons.mpr ⟨lw_p70, List.forall_mem_cons.mpr ⟨lw_p71, List.forall_mem_cons.mpr ⟨lw_p72, List.forall_mem_cons.mpr ⟨lw_p73, List.forall_mem_cons.mpr ⟨lw_p74, List.forall_mem_cons.mpr ⟨lw_p75, List.forall_mem_cons.mpr ⟨lw_p76, List.forall_mem_cons.mpr ⟨lw_p77, List.forall_mem_cons.mpr ⟨lw_p78, List.forall_mem_cons.mpr ⟨lw_p79, fun _ h => absurd h List.not_mem_nil⟩⟩⟩⟩⟩⟩⟩⟩⟩⟩⟩⟩⟩⟩⟩⟩
theorem lw_p80 : lw_okq (⟨"NotBothInAugustModel", "awayIn", "(I)I"⟩, 44) := ⟨⟨by decide +kernel, by decide +kernel⟩, List.mem_of_getElem? (i := 969) (by decide +kernel), List.mem_of_getElem? (i := 1309) (by decide +kernel), List.mem_of_getElem? (i := 1310) (by decide +kernel)⟩
theorem lw_p81 : lw_okq (⟨"NotBothInAugustModel", "allOf", "()I"⟩, 44) := ⟨⟨by decide +kernel, by decide +kernel⟩, List.mem_of_getElem? (i := 969) (by decide +kernel), List.mem_of_getElem? (i := 1316) (by decide +kernel), List.mem_of_getElem? (i := 1317) (by decide +kernel)⟩
theorem lw_p82 : lw_okq (⟨"NotBothInAugustModel", "seeks", "(IZ)V"⟩, 44) := ⟨⟨by decide +kernel, by decide +kernel⟩, List.mem_of_getElem? (i := 969) (by decide +kernel), List.mem_of_getElem? (i := 1328) (by decide +kernel), List.mem_of_getElem? (i := 1329) (by decide +kernel)⟩
theorem lw_p83 : lw_okq (⟨"NotBothInAugustModel", "leastOf", "()I"⟩, 44) := ⟨⟨by decide +kernel, by decide +kernel⟩, List.mem_of_getElem? (i := 969) (by decide +kernel), List.mem_of_getElem? (i := 1332) (by decide +kernel), List.mem_of_getElem? (i := 1333) (by decide +kernel)⟩
theorem lw_p84 : lw_okq (⟨"NotBothInAugustModel", "digits", "()I"⟩, 44) := ⟨⟨by decide +kernel, by decide +kernel⟩, List.mem_of_getElem? (i := 969) (by decide +kernel), List.mem_of_getElem? (i := 1336) (by decide +kernel), List.mem_of_getElem? (i := 1337) (by decide +kernel)⟩
theorem lw_p85 : lw_okq (⟨"NotBothInAugustModel", "turnsAll", "()V"⟩, 44) := ⟨⟨by decide +kernel, by decide +kernel⟩, List.mem_of_getElem? (i := 969) (by decide +kernel), List.mem_of_getElem? (i := 1344) (by decide +kernel), List.mem_of_getElem? (i := 1345) (by decide +kernel)⟩
theorem lw_p86 : lw_okq (⟨"NotBothInAugustModel", "nextTurn", "(I)I"⟩, 44) := ⟨⟨by decide +kernel, by decide +kernel⟩, List.mem_of_getElem? (i := 969) (by decide +kernel), List.mem_of_getElem? (i := 1348) (by decide +kernel), List.mem_of_getElem? (i := 1349) (by decide +kernel)⟩
theorem lw_p87 : lw_okq (⟨"NotBothInAugustModel", "takes", "(I)V"⟩, 44) := ⟨⟨by decide +kernel, by decide +kernel⟩, List.mem_of_getElem? (i := 969) (by decide +kernel), List.mem_of_getElem? (i := 1352) (by decide +kernel), List.mem_of_getElem? (i := 1353) (by decide +kernel)⟩
theorem lw_p88 : lw_okq (⟨"NotBothInAugustModel", "noneMany", "()I"⟩, 44) := ⟨⟨by decide +kernel, by decide +kernel⟩, List.mem_of_getElem? (i := 969) (by decide +kernel), List.mem_of_getElem? (i := 1356) (by decide +kernel), List.mem_of_getElem? (i := 1357) (by decide +kernel)⟩
theorem lw_p89 : lw_okq (⟨"NotBothInAugustModel", "firstOther", "(II)I"⟩, 44) := ⟨⟨by decide +kernel, by decide +kernel⟩, List.mem_of_getElem? (i := 969) (by decide +kernel), List.mem_of_getElem? (i := 1379) (by decide +kernel), List.mem_of_getElem? (i := 1380) (by decide +kernel)⟩
theorem lw_p90 : lw_okq (⟨"NotBothInAugustModel", "draws", "(I)V"⟩, 44) := ⟨⟨by decide +kernel, by decide +kernel⟩, List.mem_of_getElem? (i := 969) (by decide +kernel), List.mem_of_getElem? (i := 1396) (by decide +kernel), List.mem_of_getElem? (i := 1397) (by decide +kernel)⟩
def lw_privs_6 : List (MethodName × Nat) := [(⟨"NotBothInAugustModel", "awayIn", "(I)I"⟩, 44), (⟨"NotBothInAugustModel", "allOf", "()I"⟩, 44), (⟨"NotBothInAugustModel", "seeks", "(IZ)V"⟩, 44), (⟨"NotBothInAugustModel", "leastOf", "()I"⟩, 44), (⟨"NotBothInAugustModel", "digits", "()I"⟩, 44), (⟨"NotBothInAugustModel", "turnsAll", "()V"⟩, 44), (⟨"NotBothInAugustModel", "nextTurn", "(I)I"⟩, 44), (⟨"NotBothInAugustModel", "takes", "(I)V"⟩, 44), (⟨"NotBothInAugustModel", "noneMany", "()I"⟩, 44), (⟨"NotBothInAugustModel", "firstOther", "(II)I"⟩, 44), (⟨"NotBothInAugustModel", "draws", "(I)V"⟩, 44)]
theorem lw_r6 : ∀ q ∈ lw_privs_6, lw_okq q := List.forall_mem_cons.mpr ⟨lw_p80, List.forall_mem_cons.mpr ⟨lw_p81, List.forall_mem_cons.mpr ⟨lw_p82, List.forall_mem_cons.mpr ⟨lw_p83, List.forall_mem_cons.mpr ⟨lw_p84, List.forall_mem_cons.mpr ⟨lw_p85, List.forall_mem_cons.mpr ⟨lw_p86, List.forall_mem_cons.mpr ⟨lw_p87, List.forall_mem_cons.mpr ⟨lw_p88, List.forall_mem_cons.mpr ⟨lw_p89, List.forall_mem_cons.mpr ⟨lw_p90, fun _ h => absurd h List.not_mem_nil⟩⟩⟩⟩⟩⟩⟩⟩⟩⟩⟩
def lw_privs : List (MethodName × Nat) := lw_privs_1 ++ (lw_privs_2 ++ (lw_privs_3 ++ (lw_privs_4 ++ (lw_privs_5 ++ (lw_privs_6)))))
def lw_tbl : List Cond := k2_sels lw_privs ++ tables_1
theorem lw_privs_ok : ∀ q ∈ lw_privs, lw_okq q := by
  show ∀ q ∈ lw_privs_1 ++ (lw_privs_2 ++ (lw_privs_3 ++ (lw_privs_4 ++ (lw_privs_5 ++ (lw_privs_6))))), lw_okq q
  exact List.forall_mem_append.mpr ⟨lw_r1, List.forall_mem_append.mpr ⟨lw_r2, List.forall_mem_append.mpr ⟨lw_r3, List.forall_mem_append.mpr ⟨lw_r4, List.forall_mem_append.mpr ⟨lw_r5, lw_r6⟩⟩⟩⟩⟩
def RX0 : String := "NotBothInAugust$Apprentice"
def TX0 : u_T := fun k => match k with
  | _ => ("", "", "", false)
def tyX0 : Nat → FieldType := fun k => match k with
  | _ => .int
theorem nmX0 : ∀ a, a < 0 → ∀ b, b < 0 → a ≠ b → (TX0 a).2.1 ≠ (TX0 b).2.1 := by decide +kernel
theorem tyX0_ok : ∀ k, k < 0 → parseFieldDescriptor (TX0 k).2.2.1 = some (tyX0 k) := by decide +kernel
abbrev cX0_init : ByteArray := prog_2_method_1_code
def yX0_init : MethodName := ⟨RX0, "<init>", "()V"⟩
abbrev cX0_glad : ByteArray := prog_2_method_2_code
def yX0_glad : MethodName := ⟨RX0, "glad", "(IIZI)I"⟩
abbrev cX0_earns : ByteArray := prog_2_method_3_code
def yX0_earns : MethodName := ⟨RX0, "earns", "(II)I"⟩
abbrev cX0_wants : ByteArray := prog_2_method_4_code
def yX0_wants : MethodName := ⟨RX0, "wants", "(IZI)Z"⟩
def RX1 : String := "NotBothInAugust$Boss"
def TX1 : u_T := fun k => match k with
  | _ => ("", "", "", false)
def tyX1 : Nat → FieldType := fun k => match k with
  | _ => .int
theorem nmX1 : ∀ a, a < 0 → ∀ b, b < 0 → a ≠ b → (TX1 a).2.1 ≠ (TX1 b).2.1 := by decide +kernel
theorem tyX1_ok : ∀ k, k < 0 → parseFieldDescriptor (TX1 k).2.2.1 = some (tyX1 k) := by decide +kernel
abbrev cX1_init : ByteArray := prog_3_method_1_code
def yX1_init : MethodName := ⟨RX1, "<init>", "()V"⟩
abbrev cX1_glad : ByteArray := prog_3_method_2_code
def yX1_glad : MethodName := ⟨RX1, "glad", "(IIZI)I"⟩
abbrev cX1_earns : ByteArray := prog_3_method_3_code
def yX1_earns : MethodName := ⟨RX1, "earns", "(II)I"⟩
abbrev cX1_wants : ByteArray := prog_3_method_4_code
def yX1_wants : MethodName := ⟨RX1, "wants", "(IZI)Z"⟩
def RX2 : String := "NotBothInAugust$Bride"
def TX2 : u_T := fun k => match k with
  | _ => ("", "", "", false)
def tyX2 : Nat → FieldType := fun k => match k with
  | _ => .int
theorem nmX2 : ∀ a, a < 0 → ∀ b, b < 0 → a ≠ b → (TX2 a).2.1 ≠ (TX2 b).2.1 := by decide +kernel
theorem tyX2_ok : ∀ k, k < 0 → parseFieldDescriptor (TX2 k).2.2.1 = some (tyX2 k) := by decide +kernel
abbrev cX2_init : ByteArray := prog_4_method_1_code
def yX2_init : MethodName := ⟨RX2, "<init>", "()V"⟩
abbrev cX2_glad : ByteArray := prog_4_method_2_code
def yX2_glad : MethodName := ⟨RX2, "glad", "(IIZI)I"⟩
abbrev cX2_wants : ByteArray := prog_4_method_3_code
def yX2_wants : MethodName := ⟨RX2, "wants", "(IZI)Z"⟩
def RX3 : String := "NotBothInAugust$Clerk"
def TX3 : u_T := fun k => match k with
  | _ => ("", "", "", false)
def tyX3 : Nat → FieldType := fun k => match k with
  | _ => .int
theorem nmX3 : ∀ a, a < 0 → ∀ b, b < 0 → a ≠ b → (TX3 a).2.1 ≠ (TX3 b).2.1 := by decide +kernel
theorem tyX3_ok : ∀ k, k < 0 → parseFieldDescriptor (TX3 k).2.2.1 = some (tyX3 k) := by decide +kernel
abbrev cX3_init : ByteArray := prog_5_method_1_code
def yX3_init : MethodName := ⟨RX3, "<init>", "()V"⟩
abbrev cX3_glad : ByteArray := prog_5_method_2_code
def yX3_glad : MethodName := ⟨RX3, "glad", "(IIZI)I"⟩
abbrev cX3_earns : ByteArray := prog_5_method_3_code
def yX3_earns : MethodName := ⟨RX3, "earns", "(II)I"⟩
abbrev cX3_wants : ByteArray := prog_5_method_4_code
def yX3_wants : MethodName := ⟨RX3, "wants", "(IZI)Z"⟩
abbrev cX3_isSummer : ByteArray := prog_5_method_5_code
def yX3_isSummer : MethodName := ⟨RX3, "isSummer", "(I)Z"⟩
def RX4 : String := "NotBothInAugust$Parent"
def TX4 : u_T := fun k => match k with
  | _ => ("", "", "", false)
def tyX4 : Nat → FieldType := fun k => match k with
  | _ => .int
theorem nmX4 : ∀ a, a < 0 → ∀ b, b < 0 → a ≠ b → (TX4 a).2.1 ≠ (TX4 b).2.1 := by decide +kernel
theorem tyX4_ok : ∀ k, k < 0 → parseFieldDescriptor (TX4 k).2.2.1 = some (tyX4 k) := by decide +kernel
abbrev cX4_init : ByteArray := prog_6_method_1_code
def yX4_init : MethodName := ⟨RX4, "<init>", "()V"⟩
abbrev cX4_glad : ByteArray := prog_6_method_2_code
def yX4_glad : MethodName := ⟨RX4, "glad", "(IIZI)I"⟩
abbrev cX4_earns : ByteArray := prog_6_method_3_code
def yX4_earns : MethodName := ⟨RX4, "earns", "(II)I"⟩
def RX5 : String := "NotBothInAugust$Planner"
def TX5 : u_T := fun k => match k with
  | 0 => ("NotBothInAugust$Planner", "rules", "LNotBothInAugust$Rules;", true)
  | 1 => ("NotBothInAugust$Planner", "shop", "LNotBothInAugust$Shop;", false)
  | 2 => ("NotBothInAugust$Planner", "weeks", "[I", true)
  | 3 => ("NotBothInAugust$Planner", "gladness", "[I", true)
  | 4 => ("NotBothInAugust$Planner", "canBe", "[Z", true)
  | 5 => ("NotBothInAugust$Planner", "allowed", "[Z", true)
  | 6 => ("NotBothInAugust$Planner", "glad", "[I", true)
  | 7 => ("NotBothInAugust$Planner", "digits", "[I", true)
  | 8 => ("NotBothInAugust$Planner", "found", "[I", true)
  | 9 => ("NotBothInAugust$Planner", "hopes", "[I", true)
  | 10 => ("NotBothInAugust$Planner", "isFair", "Z", false)
  | _ => ("NotBothInAugust$Planner", "most", "I", false)
def tyX5 : Nat → FieldType := fun k => match k with
  | 0 => .object "NotBothInAugust$Rules"
  | 1 => .object "NotBothInAugust$Shop"
  | 2 => .array .int
  | 3 => .array .int
  | 4 => .array .boolean
  | 5 => .array .boolean
  | 6 => .array .int
  | 7 => .array .int
  | 8 => .array .int
  | 9 => .array .int
  | 10 => .boolean
  | _ => .int
theorem nmX5 : ∀ a, a < 12 → ∀ b, b < 12 → a ≠ b → (TX5 a).2.1 ≠ (TX5 b).2.1 := by decide +kernel
theorem tyX5_ok : ∀ k, k < 12 → parseFieldDescriptor (TX5 k).2.2.1 = some (tyX5 k) := by decide +kernel
abbrev cX5_init : ByteArray := prog_7_method_1_code
def yX5_init : MethodName := ⟨RX5, "<init>", "(LNotBothInAugust$Rules;LNotBothInAugust$Shop;)V"⟩
abbrev cX5_look : ByteArray := prog_7_method_2_code
def yX5_look : MethodName := ⟨RX5, "look", "(LNotBothInAugust$Shop;)V"⟩
abbrev cX5_lookAtOne : ByteArray := prog_7_method_3_code
def yX5_lookAtOne : MethodName := ⟨RX5, "lookAtOne", "(I)V"⟩
abbrev cX5_gladnessOf : ByteArray := prog_7_method_4_code
def yX5_gladnessOf : MethodName := ⟨RX5, "gladnessOf", "(I)I"⟩
abbrev cX5_takeNone : ByteArray := prog_7_method_5_code
def yX5_takeNone : MethodName := ⟨RX5, "takeNone", "()V"⟩
abbrev cX5_takeBooked : ByteArray := prog_7_method_6_code
def yX5_takeBooked : MethodName := ⟨RX5, "takeBooked", "()V"⟩
abbrev cX5_blockOf : ByteArray := prog_7_method_7_code
def yX5_blockOf : MethodName := ⟨RX5, "blockOf", "(I)I"⟩
abbrev cX5_place : ByteArray := prog_7_method_8_code
def yX5_place : MethodName := ⟨RX5, "place", "(I)I"⟩
abbrev cX5_inDigits : ByteArray := prog_7_method_9_code
def yX5_inDigits : MethodName := ⟨RX5, "inDigits", "()I"⟩
abbrev cX5_all : ByteArray := prog_7_method_10_code
def yX5_all : MethodName := ⟨RX5, "all", "()I"⟩
abbrev cX5_least : ByteArray := prog_7_method_11_code
def yX5_least : MethodName := ⟨RX5, "least", "()I"⟩
abbrev cX5_withNone : ByteArray := prog_7_method_12_code
def yX5_withNone : MethodName := ⟨RX5, "withNone", "()I"⟩
abbrev cX5_awayIn : ByteArray := prog_7_method_13_code
def yX5_awayIn : MethodName := ⟨RX5, "awayIn", "(I)I"⟩
abbrev cX5_holds : ByteArray := prog_7_method_14_code
def yX5_holds : MethodName := ⟨RX5, "holds", "()Z"⟩
abbrev cX5_firstWrongWeek : ByteArray := prog_7_method_15_code
def yX5_firstWrongWeek : MethodName := ⟨RX5, "firstWrongWeek", "()I"⟩
abbrev cX5_weeksClosedTo : ByteArray := prog_7_method_16_code
def yX5_weeksClosedTo : MethodName := ⟨RX5, "weeksClosedTo", "(I)I"⟩
abbrev cX5_canAdd : ByteArray := prog_7_method_17_code
def yX5_canAdd : MethodName := ⟨RX5, "canAdd", "(II)Z"⟩
abbrev cX5_search : ByteArray := prog_7_method_18_code
def yX5_search : MethodName := ⟨RX5, "search", "(Z)V"⟩
abbrev cX5_takeHopes : ByteArray := prog_7_method_19_code
def yX5_takeHopes : MethodName := ⟨RX5, "takeHopes", "()V"⟩
abbrev cX5_extend : ByteArray := prog_7_method_20_code
def yX5_extend : MethodName := ⟨RX5, "extend", "(III)V"⟩
abbrev cX5_keep : ByteArray := prog_7_method_21_code
def yX5_keep : MethodName := ⟨RX5, "keep", "(I)V"⟩
abbrev cX5_takeTurns : ByteArray := prog_7_method_22_code
def yX5_takeTurns : MethodName := ⟨RX5, "takeTurns", "()V"⟩
abbrev cX5_nextInTurn : ByteArray := prog_7_method_23_code
def yX5_nextInTurn : MethodName := ⟨RX5, "nextInTurn", "(I)I"⟩
abbrev cX5_gladdest : ByteArray := prog_7_method_24_code
def yX5_gladdest : MethodName := ⟨RX5, "gladdest", "(I)I"⟩
abbrev cX5_changeTwo : ByteArray := prog_7_method_25_code
def yX5_changeTwo : MethodName := ⟨RX5, "changeTwo", "()I"⟩
abbrev cX5_swap : ByteArray := prog_7_method_26_code
def yX5_swap : MethodName := ⟨RX5, "swap", "(II)V"⟩
abbrev cX5_barring : ByteArray := prog_7_method_27_code
def yX5_barring : MethodName := ⟨RX5, "barring", "(II)I"⟩
abbrev cX5_holdsWithout : ByteArray := prog_7_method_28_code
def yX5_holdsWithout : MethodName := ⟨RX5, "holdsWithout", "(I)Z"⟩
def RX6 : String := "NotBothInAugust$Rules"
def TX6 : u_T := fun k => match k with
  | 0 => ("NotBothInAugust$Rules", "size", "I", false)
  | 1 => ("NotBothInAugust$Rules", "texts", "[LNotBothInAugust$Text;", true)
  | 2 => ("NotBothInAugust$Rules", "kinds", "[LNotBothInAugust$Clerk;", true)
  | 3 => ("NotBothInAugust$Rules", "names", "[I", true)
  | _ => ("NotBothInAugust$Rules", "stack", "[I", true)
def tyX6 : Nat → FieldType := fun k => match k with
  | 0 => .int
  | 1 => .array (.object "NotBothInAugust$Text")
  | 2 => .array (.object "NotBothInAugust$Clerk")
  | 3 => .array .int
  | _ => .array .int
theorem nmX6 : ∀ a, a < 5 → ∀ b, b < 5 → a ≠ b → (TX6 a).2.1 ≠ (TX6 b).2.1 := by decide +kernel
theorem tyX6_ok : ∀ k, k < 5 → parseFieldDescriptor (TX6 k).2.2.1 = some (tyX6 k) := by decide +kernel
abbrev cX6_init : ByteArray := prog_8_method_1_code
def yX6_init : MethodName := ⟨RX6, "<init>", "([I)V"⟩
abbrev cX6_textAt : ByteArray := prog_8_method_2_code
def yX6_textAt : MethodName := ⟨RX6, "textAt", "(I)LNotBothInAugust$Text;"⟩
abbrev cX6_kindAt : ByteArray := prog_8_method_3_code
def yX6_kindAt : MethodName := ⟨RX6, "kindAt", "(I)LNotBothInAugust$Clerk;"⟩
abbrev cX6_isKind : ByteArray := prog_8_method_4_code
def yX6_isKind : MethodName := ⟨RX6, "isKind", "(II)Z"⟩
abbrev cX6_glad : ByteArray := prog_8_method_5_code
def yX6_glad : MethodName := ⟨RX6, "glad", "(LNotBothInAugust$Shop;II)I"⟩
abbrev cX6_wants : ByteArray := prog_8_method_6_code
def yX6_wants : MethodName := ⟨RX6, "wants", "(LNotBothInAugust$Shop;II)Z"⟩
abbrev cX6_earned : ByteArray := prog_8_method_7_code
def yX6_earned : MethodName := ⟨RX6, "earned", "(LNotBothInAugust$Shop;I)I"⟩
abbrev cX6_gladness : ByteArray := prog_8_method_8_code
def yX6_gladness : MethodName := ⟨RX6, "gladness", "(LNotBothInAugust$Shop;I)I"⟩
abbrev cX6_canBe : ByteArray := prog_8_method_9_code
def yX6_canBe : MethodName := ⟨RX6, "canBe", "(LNotBothInAugust$Shop;II)Z"⟩
abbrev cX6_nameWeek : ByteArray := prog_8_method_10_code
def yX6_nameWeek : MethodName := ⟨RX6, "nameWeek", "(LNotBothInAugust$Shop;II)V"⟩
abbrev cX6_nameOne : ByteArray := prog_8_method_11_code
def yX6_nameOne : MethodName := ⟨RX6, "nameOne", "(LNotBothInAugust$Shop;I)V"⟩
def RX7 : String := "NotBothInAugust$Sheet"
def TX7 : u_T := fun k => match k with
  | 0 => ("NotBothInAugust$Sheet", "sort", "I", false)
  | 1 => ("NotBothInAugust$Sheet", "size", "I", false)
  | _ => ("NotBothInAugust$Sheet", "items", "[I", true)
def tyX7 : Nat → FieldType := fun k => match k with
  | 0 => .int
  | 1 => .int
  | _ => .array .int
theorem nmX7 : ∀ a, a < 3 → ∀ b, b < 3 → a ≠ b → (TX7 a).2.1 ≠ (TX7 b).2.1 := by decide +kernel
theorem tyX7_ok : ∀ k, k < 3 → parseFieldDescriptor (TX7 k).2.2.1 = some (tyX7 k) := by decide +kernel
abbrev cX7_init : ByteArray := prog_9_method_1_code
def yX7_init : MethodName := ⟨RX7, "<init>", "()V"⟩
abbrev cX7_isSort : ByteArray := prog_9_method_2_code
def yX7_isSort : MethodName := ⟨RX7, "isSort", "(I)Z"⟩
abbrev cX7_isMissing : ByteArray := prog_9_method_3_code
def yX7_isMissing : MethodName := ⟨RX7, "isMissing", "()Z"⟩
abbrev cX7_lay : ByteArray := prog_9_method_4_code
def yX7_lay : MethodName := ⟨RX7, "lay", "(II)V"⟩
abbrev cX7_reaches : ByteArray := prog_9_method_5_code
def yX7_reaches : MethodName := ⟨RX7, "reaches", "(II)Z"⟩
abbrev cX7_put : ByteArray := prog_9_method_6_code
def yX7_put : MethodName := ⟨RX7, "put", "(II)V"⟩
def RX8 : String := "NotBothInAugust$Shop"
def TX8 : u_T := fun k => match k with
  | 0 => ("NotBothInAugust$Shop", "year", "I", false)
  | 1 => ("NotBothInAugust$Shop", "needed", "I", false)
  | 2 => ("NotBothInAugust$Shop", "key", "I", false)
  | 3 => ("NotBothInAugust$Shop", "rule", "I", false)
  | 4 => ("NotBothInAugust$Shop", "people", "I", false)
  | 5 => ("NotBothInAugust$Shop", "kinds", "[I", true)
  | 6 => ("NotBothInAugust$Shop", "numbers", "[I", true)
  | 7 => ("NotBothInAugust$Shop", "lengths", "[I", true)
  | 8 => ("NotBothInAugust$Shop", "wishes", "[I", true)
  | 9 => ("NotBothInAugust$Shop", "points", "[I", true)
  | 10 => ("NotBothInAugust$Shop", "blocks", "[I", true)
  | _ => ("NotBothInAugust$Shop", "aparts", "[I", true)
def tyX8 : Nat → FieldType := fun k => match k with
  | 0 => .int
  | 1 => .int
  | 2 => .int
  | 3 => .int
  | 4 => .int
  | 5 => .array .int
  | 6 => .array .int
  | 7 => .array .int
  | 8 => .array .int
  | 9 => .array .int
  | 10 => .array .int
  | _ => .array .int
theorem nmX8 : ∀ a, a < 12 → ∀ b, b < 12 → a ≠ b → (TX8 a).2.1 ≠ (TX8 b).2.1 := by decide +kernel
theorem tyX8_ok : ∀ k, k < 12 → parseFieldDescriptor (TX8 k).2.2.1 = some (tyX8 k) := by decide +kernel
abbrev cX8_init : ByteArray := prog_10_method_1_code
def yX8_init : MethodName := ⟨RX8, "<init>", "()V"⟩
abbrev cX8_become : ByteArray := prog_10_method_2_code
def yX8_become : MethodName := ⟨RX8, "become", "(LNotBothInAugust$Shop;)V"⟩
abbrev cX8_isOne : ByteArray := prog_10_method_3_code
def yX8_isOne : MethodName := ⟨RX8, "isOne", "(I)Z"⟩
abbrev cX8_has : ByteArray := prog_10_method_4_code
def yX8_has : MethodName := ⟨RX8, "has", "(II)Z"⟩
abbrev cX8_fits : ByteArray := prog_10_method_5_code
def yX8_fits : MethodName := ⟨RX8, "fits", "(II)Z"⟩
abbrev cX8_number : ByteArray := prog_10_method_6_code
def yX8_number : MethodName := ⟨RX8, "number", "(II)I"⟩
abbrev cX8_put : ByteArray := prog_10_method_7_code
def yX8_put : MethodName := ⟨RX8, "put", "(III)V"⟩
abbrev cX8_rowOf : ByteArray := prog_10_method_8_code
def yX8_rowOf : MethodName := ⟨RX8, "rowOf", "(I)[I"⟩
abbrev cX8_welcome : ByteArray := prog_10_method_9_code
def yX8_welcome : MethodName := ⟨RX8, "welcome", "(III)I"⟩
abbrev cX8_setApart : ByteArray := prog_10_method_10_code
def yX8_setApart : MethodName := ⟨RX8, "setApart", "(IIZ)V"⟩
abbrev cX8_weeksFrom : ByteArray := prog_10_method_11_code
def yX8_weeksFrom : MethodName := ⟨RX8, "weeksFrom", "(II)I"⟩
abbrev cX8_wishesFor : ByteArray := prog_10_method_12_code
def yX8_wishesFor : MethodName := ⟨RX8, "wishesFor", "(II)Z"⟩
abbrev cX8_othersWishing : ByteArray := prog_10_method_13_code
def yX8_othersWishing : MethodName := ⟨RX8, "othersWishing", "(II)I"⟩
abbrev cX8_allows : ByteArray := prog_10_method_14_code
def yX8_allows : MethodName := ⟨RX8, "allows", "(I)Z"⟩
abbrev cX8_booked : ByteArray := prog_10_method_15_code
def yX8_booked : MethodName := ⟨RX8, "booked", "()I"⟩
abbrev cX8_twosApart : ByteArray := prog_10_method_16_code
def yX8_twosApart : MethodName := ⟨RX8, "twosApart", "()I"⟩
abbrev cX8_pointsOfAll : ByteArray := prog_10_method_17_code
def yX8_pointsOfAll : MethodName := ⟨RX8, "pointsOfAll", "()I"⟩
def RX9 : String := "NotBothInAugust$Single"
def TX9 : u_T := fun k => match k with
  | _ => ("", "", "", false)
def tyX9 : Nat → FieldType := fun k => match k with
  | _ => .int
theorem nmX9 : ∀ a, a < 0 → ∀ b, b < 0 → a ≠ b → (TX9 a).2.1 ≠ (TX9 b).2.1 := by decide +kernel
theorem tyX9_ok : ∀ k, k < 0 → parseFieldDescriptor (TX9 k).2.2.1 = some (tyX9 k) := by decide +kernel
abbrev cX9_init : ByteArray := prog_11_method_1_code
def yX9_init : MethodName := ⟨RX9, "<init>", "()V"⟩
abbrev cX9_glad : ByteArray := prog_11_method_2_code
def yX9_glad : MethodName := ⟨RX9, "glad", "(IIZI)I"⟩
abbrev cX9_earns : ByteArray := prog_11_method_3_code
def yX9_earns : MethodName := ⟨RX9, "earns", "(II)I"⟩
abbrev cX9_wants : ByteArray := prog_11_method_4_code
def yX9_wants : MethodName := ⟨RX9, "wants", "(IZI)Z"⟩
def RX10 : String := "NotBothInAugust$Text"
def TX10 : u_T := fun k => match k with
  | 0 => ("NotBothInAugust$Text", "code", "[I", true)
  | 1 => ("NotBothInAugust$Text", "ends", "[I", true)
  | 2 => ("NotBothInAugust$Text", "size", "I", false)
  | 3 => ("NotBothInAugust$Text", "parts", "I", false)
  | 4 => ("NotBothInAugust$Text", "tape", "[I", true)
  | 5 => ("NotBothInAugust$Text", "fed", "I", false)
  | 6 => ("NotBothInAugust$Text", "next", "I", false)
  | 7 => ("NotBothInAugust$Text", "place", "I", false)
  | 8 => ("NotBothInAugust$Text", "token", "I", false)
  | 9 => ("NotBothInAugust$Text", "value", "I", false)
  | 10 => ("NotBothInAugust$Text", "open", "I", false)
  | _ => ("NotBothInAugust$Text", "fault", "I", false)
def tyX10 : Nat → FieldType := fun k => match k with
  | 0 => .array .int
  | 1 => .array .int
  | 2 => .int
  | 3 => .int
  | 4 => .array .int
  | 5 => .int
  | 6 => .int
  | 7 => .int
  | 8 => .int
  | 9 => .int
  | 10 => .int
  | _ => .int
theorem nmX10 : ∀ a, a < 12 → ∀ b, b < 12 → a ≠ b → (TX10 a).2.1 ≠ (TX10 b).2.1 := by decide +kernel
theorem tyX10_ok : ∀ k, k < 12 → parseFieldDescriptor (TX10 k).2.2.1 = some (tyX10 k) := by decide +kernel
abbrev cX10_init : ByteArray := prog_12_method_1_code
def yX10_init : MethodName := ⟨RX10, "<init>", "([I)V"⟩
abbrev cX10_add : ByteArray := prog_12_method_2_code
def yX10_add : MethodName := ⟨RX10, "add", "(I)V"⟩
abbrev cX10_addName : ByteArray := prog_12_method_3_code
def yX10_addName : MethodName := ⟨RX10, "addName", "(I)V"⟩
abbrev cX10_endPart : ByteArray := prog_12_method_4_code
def yX10_endPart : MethodName := ⟨RX10, "endPart", "()V"⟩
abbrev cX10_value : ByteArray := prog_12_method_5_code
def yX10_value : MethodName := ⟨RX10, "value", "(I[I[I)I"⟩
abbrev cX10_operand : ByteArray := prog_12_method_6_code
def yX10_operand : MethodName := ⟨RX10, "operand", "(I[I)I"⟩
abbrev cX10_turned : ByteArray := prog_12_method_7_code
def yX10_turned : MethodName := ⟨RX10, "turned", "(II)I"⟩
abbrev cX10_joined : ByteArray := prog_12_method_8_code
def yX10_joined : MethodName := ⟨RX10, "joined", "(III)I"⟩
abbrev cX10_read : ByteArray := prog_12_method_9_code
def yX10_read : MethodName := ⟨RX10, "read", "(I)I"⟩
abbrev cX10_readEither : ByteArray := prog_12_method_10_code
def yX10_readEither : MethodName := ⟨RX10, "readEither", "()V"⟩
abbrev cX10_readBoth : ByteArray := prog_12_method_11_code
def yX10_readBoth : MethodName := ⟨RX10, "readBoth", "()V"⟩
abbrev cX10_readNot : ByteArray := prog_12_method_12_code
def yX10_readNot : MethodName := ⟨RX10, "readNot", "()V"⟩
abbrev cX10_readComparison : ByteArray := prog_12_method_13_code
def yX10_readComparison : MethodName := ⟨RX10, "readComparison", "()V"⟩
abbrev cX10_readSum : ByteArray := prog_12_method_14_code
def yX10_readSum : MethodName := ⟨RX10, "readSum", "()V"⟩
abbrev cX10_readTerm : ByteArray := prog_12_method_15_code
def yX10_readTerm : MethodName := ⟨RX10, "readTerm", "()V"⟩
abbrev cX10_readOne : ByteArray := prog_12_method_16_code
def yX10_readOne : MethodName := ⟨RX10, "readOne", "()V"⟩
abbrev cX10_openOne : ByteArray := prog_12_method_17_code
def yX10_openOne : MethodName := ⟨RX10, "openOne", "()Z"⟩
abbrev cX10_take : ByteArray := prog_12_method_18_code
def yX10_take : MethodName := ⟨RX10, "take", "(I)V"⟩
abbrev cX10_fail : ByteArray := prog_12_method_19_code
def yX10_fail : MethodName := ⟨RX10, "fail", "()V"⟩
abbrev cX10_advance : ByteArray := prog_12_method_20_code
def yX10_advance : MethodName := ⟨RX10, "advance", "()V"⟩
abbrev cX10_advanceOverWord : ByteArray := prog_12_method_21_code
def yX10_advanceOverWord : MethodName := ⟨RX10, "advanceOverWord", "()V"⟩
abbrev cX10_advanceOverNumber : ByteArray := prog_12_method_22_code
def yX10_advanceOverNumber : MethodName := ⟨RX10, "advanceOverNumber", "()V"⟩
abbrev cX10_key : ByteArray := prog_12_method_23_code
def yX10_key : MethodName := ⟨RX10, "key", "()I"⟩
abbrev cX10_name : ByteArray := prog_12_method_24_code
def yX10_name : MethodName := ⟨RX10, "name", "()I"⟩
abbrev cX10_isWord : ByteArray := prog_12_method_25_code
def yX10_isWord : MethodName := ⟨RX10, "isWord", "(Ljava/lang/String;)Z"⟩
abbrev cX10_isBlank : ByteArray := prog_12_method_26_code
def yX10_isBlank : MethodName := ⟨RX10, "isBlank", "(I)Z"⟩
abbrev cX10_isLetter : ByteArray := prog_12_method_27_code
def yX10_isLetter : MethodName := ⟨RX10, "isLetter", "(I)Z"⟩
abbrev cX10_isNumeral : ByteArray := prog_12_method_28_code
def yX10_isNumeral : MethodName := ⟨RX10, "isNumeral", "(I)Z"⟩
abbrev cX10_isSign : ByteArray := prog_12_method_29_code
def yX10_isSign : MethodName := ⟨RX10, "isSign", "(I)Z"⟩
def RX11 : String := "NotBothInAugust"
def TX11 : u_T := fun k => match k with
  | 0 => ("NotBothInAugust", "now", "LNotBothInAugust$Shop;", true)
  | 1 => ("NotBothInAugust", "kept", "LNotBothInAugust$Shop;", true)
  | 2 => ("NotBothInAugust", "trial", "LNotBothInAugust$Shop;", true)
  | 3 => ("NotBothInAugust", "isKept", "Z", false)
  | 4 => ("NotBothInAugust", "tape", "[I", true)
  | 5 => ("NotBothInAugust", "fed", "I", false)
  | 6 => ("NotBothInAugust", "rules", "LNotBothInAugust$Rules;", true)
  | 7 => ("NotBothInAugust", "planner", "LNotBothInAugust$Planner;", true)
  | _ => ("NotBothInAugust", "sheets", "[LNotBothInAugust$Sheet;", true)
def tyX11 : Nat → FieldType := fun k => match k with
  | 0 => .object "NotBothInAugust$Shop"
  | 1 => .object "NotBothInAugust$Shop"
  | 2 => .object "NotBothInAugust$Shop"
  | 3 => .boolean
  | 4 => .array .int
  | 5 => .int
  | 6 => .object "NotBothInAugust$Rules"
  | 7 => .object "NotBothInAugust$Planner"
  | _ => .array (.object "NotBothInAugust$Sheet")
theorem nmX11 : ∀ a, a < 9 → ∀ b, b < 9 → a ≠ b → (TX11 a).2.1 ≠ (TX11 b).2.1 := by decide +kernel
theorem tyX11_ok : ∀ k, k < 9 → parseFieldDescriptor (TX11 k).2.2.1 = some (tyX11 k) := by decide +kernel
abbrev cX11_init : ByteArray := prog_1_method_1_code
def yX11_init : MethodName := ⟨RX11, "<init>", "()V"⟩
abbrev cX11_set : ByteArray := prog_1_method_2_code
def yX11_set : MethodName := ⟨RX11, "set", "(III)I"⟩
abbrev cX11_clerk : ByteArray := prog_1_method_3_code
def yX11_clerk : MethodName := ⟨RX11, "clerk", "(III)I"⟩
abbrev cX11_apart : ByteArray := prog_1_method_4_code
def yX11_apart : MethodName := ⟨RX11, "apart", "(III)I"⟩
abbrev cX11_book : ByteArray := prog_1_method_5_code
def yX11_book : MethodName := ⟨RX11, "book", "(II)I"⟩
abbrev cX11_told : ByteArray := prog_1_method_6_code
def yX11_told : MethodName := ⟨RX11, "told", "(II)I"⟩
abbrev cX11_toldOfWeek : ByteArray := prog_1_method_7_code
def yX11_toldOfWeek : MethodName := ⟨RX11, "toldOfWeek", "(II)I"⟩
abbrev cX11_feed : ByteArray := prog_1_method_8_code
def yX11_feed : MethodName := ⟨RX11, "feed", "(I)I"⟩
abbrev cX11_text : ByteArray := prog_1_method_9_code
def yX11_text : MethodName := ⟨RX11, "text", "()I"⟩
abbrev cX11_force : ByteArray := prog_1_method_10_code
def yX11_force : MethodName := ⟨RX11, "force", "(I)I"⟩
abbrev cX11_plan : ByteArray := prog_1_method_11_code
def yX11_plan : MethodName := ⟨RX11, "plan", "(I)I"⟩
abbrev cX11_year : ByteArray := prog_1_method_12_code
def yX11_year : MethodName := ⟨RX11, "year", "()I"⟩
abbrev cX11_best : ByteArray := prog_1_method_13_code
def yX11_best : MethodName := ⟨RX11, "best", "(I)I"⟩
abbrev cX11_inTurn : ByteArray := prog_1_method_14_code
def yX11_inTurn : MethodName := ⟨RX11, "inTurn", "(I)I"⟩
abbrev cX11_change : ByteArray := prog_1_method_15_code
def yX11_change : MethodName := ⟨RX11, "change", "(I)I"⟩
abbrev cX11_bars : ByteArray := prog_1_method_16_code
def yX11_bars : MethodName := ⟨RX11, "bars", "(II)I"⟩
abbrev cX11_settle : ByteArray := prog_1_method_17_code
def yX11_settle : MethodName := ⟨RX11, "settle", "()I"⟩
abbrev cX11_tells : ByteArray := prog_1_method_18_code
def yX11_tells : MethodName := ⟨RX11, "tells", "(III)I"⟩
abbrev cX11_film : ByteArray := prog_1_method_19_code
def yX11_film : MethodName := ⟨RX11, "film", "(II)I"⟩
abbrev cX11_drawn : ByteArray := prog_1_method_20_code
def yX11_drawn : MethodName := ⟨RX11, "drawn", "(I)I"⟩
abbrev cX11_chance : ByteArray := prog_1_method_21_code
def yX11_chance : MethodName := ⟨RX11, "chance", "(III)J"⟩
abbrev cX11_image : ByteArray := prog_1_method_22_code
def yX11_image : MethodName := ⟨RX11, "image", "()I"⟩
abbrev cX11_back : ByteArray := prog_1_method_23_code
def yX11_back : MethodName := ⟨RX11, "back", "()I"⟩
abbrev cX11_count : ByteArray := prog_1_method_24_code
def yX11_count : MethodName := ⟨RX11, "count", "(I)I"⟩
abbrev cX11_drawWishes : ByteArray := prog_1_method_25_code
def yX11_drawWishes : MethodName := ⟨RX11, "drawWishes", "(I)V"⟩
abbrev cX11_firstOtherwise : ByteArray := prog_1_method_26_code
def yX11_firstOtherwise : MethodName := ⟨RX11, "firstOtherwise", "(LNotBothInAugust$Sheet;I)I"⟩
abbrev cX11_kindsTold : ByteArray := prog_1_method_27_code
def yX11_kindsTold : MethodName := ⟨RX11, "kindsTold", "(LNotBothInAugust$Sheet;I)I"⟩
abbrev cX11_numbersTold : ByteArray := prog_1_method_28_code
def yX11_numbersTold : MethodName := ⟨RX11, "numbersTold", "(LNotBothInAugust$Sheet;I)I"⟩
abbrev cX11_textsTold : ByteArray := prog_1_method_29_code
def yX11_textsTold : MethodName := ⟨RX11, "textsTold", "(LNotBothInAugust$Sheet;I)I"⟩
abbrev cX11_wishesTold : ByteArray := prog_1_method_30_code
def yX11_wishesTold : MethodName := ⟨RX11, "wishesTold", "(LNotBothInAugust$Sheet;I)I"⟩
abbrev cX11_leastWishesTold : ByteArray := prog_1_method_31_code
def yX11_leastWishesTold : MethodName := ⟨RX11, "leastWishesTold", "(LNotBothInAugust$Sheet;I)I"⟩
abbrev cX11_isSoIfWished : ByteArray := prog_1_method_32_code
def yX11_isSoIfWished : MethodName := ⟨RX11, "isSoIfWished", "(LNotBothInAugust$Sheet;IIZ)Z"⟩
abbrev cX11_commonDivisor : ByteArray := prog_1_method_33_code
def yX11_commonDivisor : MethodName := ⟨RX11, "commonDivisor", "(II)I"⟩
abbrev cX11_sheet : ByteArray := prog_1_method_34_code
def yX11_sheet : MethodName := ⟨RX11, "sheet", "(III)I"⟩
abbrev cX11_cell : ByteArray := prog_1_method_35_code
def yX11_cell : MethodName := ⟨RX11, "cell", "(III)I"⟩
abbrev cX11_copy : ByteArray := prog_1_method_36_code
def yX11_copy : MethodName := ⟨RX11, "copy", "(IIIII)I"⟩
abbrev cX11_clerks : ByteArray := prog_1_method_37_code
def yX11_clerks : MethodName := ⟨RX11, "clerks", "(IIII)I"⟩
abbrev cX11_taken : ByteArray := prog_1_method_38_code
def yX11_taken : MethodName := ⟨RX11, "taken", "(II)I"⟩
abbrev cX11_isWeek : ByteArray := prog_1_method_39_code
def yX11_isWeek : MethodName := ⟨RX11, "isWeek", "(I)Z"⟩
abbrev cX11_isSheet : ByteArray := prog_1_method_40_code
def yX11_isSheet : MethodName := ⟨RX11, "isSheet", "(I)Z"⟩
def RX12 : String := "NotBothInAugustModel"
def TX12 : u_T := fun k => match k with
  | 0 => ("NotBothInAugustModel", "thrown", "I", false)
  | 1 => ("NotBothInAugustModel", "texts", "[I", true)
  | 2 => ("NotBothInAugustModel", "textSize", "[I", true)
  | 3 => ("NotBothInAugustModel", "textCount", "I", false)
  | 4 => ("NotBothInAugustModel", "rule", "I", false)
  | 5 => ("NotBothInAugustModel", "tape", "[I", true)
  | 6 => ("NotBothInAugustModel", "taped", "I", false)
  | 7 => ("NotBothInAugustModel", "shop", "[I", true)
  | 8 => ("NotBothInAugustModel", "kinds", "[I", true)
  | 9 => ("NotBothInAugustModel", "rows", "[I", true)
  | 10 => ("NotBothInAugustModel", "aparts", "[I", true)
  | 11 => ("NotBothInAugustModel", "many", "I", false)
  | 12 => ("NotBothInAugustModel", "ofWeek", "I", false)
  | 13 => ("NotBothInAugustModel", "ofWished", "I", false)
  | 14 => ("NotBothInAugustModel", "ofNumber", "I", false)
  | 15 => ("NotBothInAugustModel", "ofLength", "I", false)
  | 16 => ("NotBothInAugustModel", "ofPoints", "I", false)
  | 17 => ("NotBothInAugustModel", "ofAway", "I", false)
  | 18 => ("NotBothInAugustModel", "from", "I", false)
  | 19 => ("NotBothInAugustModel", "size", "I", false)
  | 20 => ("NotBothInAugustModel", "here", "I", false)
  | 21 => ("NotBothInAugustModel", "token", "I", false)
  | 22 => ("NotBothInAugustModel", "tokenAt", "I", false)
  | 23 => ("NotBothInAugustModel", "tokenWorth", "J", false)
  | 24 => ("NotBothInAugustModel", "open", "I", false)
  | 25 => ("NotBothInAugustModel", "bad", "Z", false)
  | 26 => ("NotBothInAugustModel", "fault", "I", false)
  | 27 => ("NotBothInAugustModel", "cans", "[Z", true)
  | 28 => ("NotBothInAugustModel", "hases", "[I", true)
  | 29 => ("NotBothInAugustModel", "aways", "[I", true)
  | 30 => ("NotBothInAugustModel", "blocks", "[I", true)
  | 31 => ("NotBothInAugustModel", "isFound", "Z", false)
  | 32 => ("NotBothInAugustModel", "bestDigits", "I", false)
  | 33 => ("NotBothInAugustModel", "bestValue", "I", false)
  | 34 => ("NotBothInAugustModel", "wishesWas", "[I", true)
  | 35 => ("NotBothInAugustModel", "shopKept", "[I", true)
  | 36 => ("NotBothInAugustModel", "rowsKept", "[I", true)
  | 37 => ("NotBothInAugustModel", "apartsKept", "[I", true)
  | 38 => ("NotBothInAugustModel", "manyKept", "I", false)
  | 39 => ("NotBothInAugustModel", "ruleKept", "I", false)
  | 40 => ("NotBothInAugustModel", "isThere", "[Z", true)
  | 41 => ("NotBothInAugustModel", "sorts", "[I", true)
  | 42 => ("NotBothInAugustModel", "sheetSize", "[I", true)
  | _ => ("NotBothInAugustModel", "items", "[I", true)
def tyX12 : Nat → FieldType := fun k => match k with
  | 0 => .int
  | 1 => .array .int
  | 2 => .array .int
  | 3 => .int
  | 4 => .int
  | 5 => .array .int
  | 6 => .int
  | 7 => .array .int
  | 8 => .array .int
  | 9 => .array .int
  | 10 => .array .int
  | 11 => .int
  | 12 => .int
  | 13 => .int
  | 14 => .int
  | 15 => .int
  | 16 => .int
  | 17 => .int
  | 18 => .int
  | 19 => .int
  | 20 => .int
  | 21 => .int
  | 22 => .int
  | 23 => .long
  | 24 => .int
  | 25 => .boolean
  | 26 => .int
  | 27 => .array .boolean
  | 28 => .array .int
  | 29 => .array .int
  | 30 => .array .int
  | 31 => .boolean
  | 32 => .int
  | 33 => .int
  | 34 => .array .int
  | 35 => .array .int
  | 36 => .array .int
  | 37 => .array .int
  | 38 => .int
  | 39 => .int
  | 40 => .array .boolean
  | 41 => .array .int
  | 42 => .array .int
  | _ => .array .int
theorem nmX12 : ∀ a, a < 44 → ∀ b, b < 44 → a ≠ b → (TX12 a).2.1 ≠ (TX12 b).2.1 := by decide +kernel
theorem tyX12_ok : ∀ k, k < 44 → parseFieldDescriptor (TX12 k).2.2.1 = some (tyX12 k) := by decide +kernel
abbrev cX12_in : ByteArray := prog_14_method_2_code
def yX12_in : MethodName := ⟨RX12, "in", "(JJJ)Z"⟩
abbrev cX12_within : ByteArray := prog_14_method_3_code
def yX12_within : MethodName := ⟨RX12, "within", "(III)I"⟩
abbrev cX12_init : ByteArray := prog_14_method_4_code
def yX12_init : MethodName := ⟨RX12, "<init>", "()V"⟩
abbrev cX12_spell : ByteArray := prog_14_method_5_code
def yX12_spell : MethodName := ⟨RX12, "spell", "(IIIIIIIII)V"⟩
abbrev cX12_isOne : ByteArray := prog_14_method_6_code
def yX12_isOne : MethodName := ⟨RX12, "isOne", "(I)Z"⟩
abbrev cX12_isWeek : ByteArray := prog_14_method_7_code
def yX12_isWeek : MethodName := ⟨RX12, "isWeek", "(I)Z"⟩
abbrev cX12_mostOf : ByteArray := prog_14_method_8_code
def yX12_mostOf : MethodName := ⟨RX12, "mostOf", "(I)I"⟩
abbrev cX12_set : ByteArray := prog_14_method_9_code
def yX12_set : MethodName := ⟨RX12, "set", "(III)I"⟩
abbrev cX12_lays : ByteArray := prog_14_method_10_code
def yX12_lays : MethodName := ⟨RX12, "lays", "(III)V"⟩
abbrev cX12_clerk : ByteArray := prog_14_method_11_code
def yX12_clerk : MethodName := ⟨RX12, "clerk", "(III)I"⟩
abbrev cX12_parts : ByteArray := prog_14_method_12_code
def yX12_parts : MethodName := ⟨RX12, "parts", "(III)V"⟩
abbrev cX12_apart : ByteArray := prog_14_method_13_code
def yX12_apart : MethodName := ⟨RX12, "apart", "(III)I"⟩
abbrev cX12_book : ByteArray := prog_14_method_14_code
def yX12_book : MethodName := ⟨RX12, "book", "(II)I"⟩
abbrev cX12_told : ByteArray := prog_14_method_15_code
def yX12_told : MethodName := ⟨RX12, "told", "(II)I"⟩
abbrev cX12_feed : ByteArray := prog_14_method_16_code
def yX12_feed : MethodName := ⟨RX12, "feed", "(I)I"⟩
abbrev cX12_byteAt : ByteArray := prog_14_method_17_code
def yX12_byteAt : MethodName := ⟨RX12, "byteAt", "(I)I"⟩
abbrev cX12_next : ByteArray := prog_14_method_18_code
def yX12_next : MethodName := ⟨RX12, "next", "()V"⟩
abbrev cX12_fail : ByteArray := prog_14_method_19_code
def yX12_fail : MethodName := ⟨RX12, "fail", "()V"⟩
abbrev cX12_isLetter : ByteArray := prog_14_method_20_code
def yX12_isLetter : MethodName := ⟨RX12, "isLetter", "(II)Z"⟩
abbrev cX12_isWord : ByteArray := prog_14_method_21_code
def yX12_isWord : MethodName := ⟨RX12, "isWord", "(IIIIIIII)Z"⟩
abbrev cX12_isSign : ByteArray := prog_14_method_22_code
def yX12_isSign : MethodName := ⟨RX12, "isSign", "(I)Z"⟩
abbrev cX12_opens : ByteArray := prog_14_method_23_code
def yX12_opens : MethodName := ⟨RX12, "opens", "()Z"⟩
abbrev cX12_name : ByteArray := prog_14_method_24_code
def yX12_name : MethodName := ⟨RX12, "name", "()I"⟩
abbrev cX12_atom : ByteArray := prog_14_method_25_code
def yX12_atom : MethodName := ⟨RX12, "atom", "()I"⟩
abbrev cX12_term : ByteArray := prog_14_method_26_code
def yX12_term : MethodName := ⟨RX12, "term", "()I"⟩
abbrev cX12_added : ByteArray := prog_14_method_27_code
def yX12_added : MethodName := ⟨RX12, "added", "()I"⟩
abbrev cX12_not : ByteArray := prog_14_method_28_code
def yX12_not : MethodName := ⟨RX12, "not", "()I"⟩
abbrev cX12_both : ByteArray := prog_14_method_29_code
def yX12_both : MethodName := ⟨RX12, "both", "()I"⟩
abbrev cX12_either : ByteArray := prog_14_method_30_code
def yX12_either : MethodName := ⟨RX12, "either", "()I"⟩
abbrev cX12_part : ByteArray := prog_14_method_31_code
def yX12_part : MethodName := ⟨RX12, "part", "(Z)I"⟩
abbrev cX12_read : ByteArray := prog_14_method_32_code
def yX12_read : MethodName := ⟨RX12, "read", "(II)I"⟩
abbrev cX12_text : ByteArray := prog_14_method_33_code
def yX12_text : MethodName := ⟨RX12, "text", "()I"⟩
abbrev cX12_force : ByteArray := prog_14_method_34_code
def yX12_force : MethodName := ⟨RX12, "force", "(I)I"⟩
abbrev cX12_isWished : ByteArray := prog_14_method_35_code
def yX12_isWished : MethodName := ⟨RX12, "isWished", "(II)Z"⟩
abbrev cX12_asks : ByteArray := prog_14_method_36_code
def yX12_asks : MethodName := ⟨RX12, "asks", "(III)I"⟩
abbrev cX12_gladOf : ByteArray := prog_14_method_37_code
def yX12_gladOf : MethodName := ⟨RX12, "gladOf", "(II)I"⟩
abbrev cX12_earnsOf : ByteArray := prog_14_method_38_code
def yX12_earnsOf : MethodName := ⟨RX12, "earnsOf", "(I)I"⟩
abbrev cX12_wants : ByteArray := prog_14_method_39_code
def yX12_wants : MethodName := ⟨RX12, "wants", "(II)Z"⟩
abbrev cX12_weeksOf : ByteArray := prog_14_method_40_code
def yX12_weeksOf : MethodName := ⟨RX12, "weeksOf", "(II)I"⟩
abbrev cX12_canBe : ByteArray := prog_14_method_41_code
def yX12_canBe : MethodName := ⟨RX12, "canBe", "(II)Z"⟩
abbrev cX12_hasOf : ByteArray := prog_14_method_42_code
def yX12_hasOf : MethodName := ⟨RX12, "hasOf", "(II)I"⟩
abbrev cX12_tables : ByteArray := prog_14_method_43_code
def yX12_tables : MethodName := ⟨RX12, "tables", "()V"⟩
abbrev cX12_booked : ByteArray := prog_14_method_44_code
def yX12_booked : MethodName := ⟨RX12, "booked", "()V"⟩
abbrev cX12_bitsOf : ByteArray := prog_14_method_45_code
def yX12_bitsOf : MethodName := ⟨RX12, "bitsOf", "(I)I"⟩
abbrev cX12_awayIn : ByteArray := prog_14_method_46_code
def yX12_awayIn : MethodName := ⟨RX12, "awayIn", "(I)I"⟩
abbrev cX12_isRight : ByteArray := prog_14_method_47_code
def yX12_isRight : MethodName := ⟨RX12, "isRight", "(I)Z"⟩
abbrev cX12_firstWrong : ByteArray := prog_14_method_48_code
def yX12_firstWrong : MethodName := ⟨RX12, "firstWrong", "()I"⟩
abbrev cX12_holds : ByteArray := prog_14_method_49_code
def yX12_holds : MethodName := ⟨RX12, "holds", "()Z"⟩
abbrev cX12_allOf : ByteArray := prog_14_method_50_code
def yX12_allOf : MethodName := ⟨RX12, "allOf", "()I"⟩
abbrev cX12_leastOf : ByteArray := prog_14_method_51_code
def yX12_leastOf : MethodName := ⟨RX12, "leastOf", "()I"⟩
abbrev cX12_digits : ByteArray := prog_14_method_52_code
def yX12_digits : MethodName := ⟨RX12, "digits", "()I"⟩
abbrev cX12_plan : ByteArray := prog_14_method_53_code
def yX12_plan : MethodName := ⟨RX12, "plan", "(I)I"⟩
abbrev cX12_year : ByteArray := prog_14_method_54_code
def yX12_year : MethodName := ⟨RX12, "year", "()I"⟩
abbrev cX12_seeks : ByteArray := prog_14_method_55_code
def yX12_seeks : MethodName := ⟨RX12, "seeks", "(IZ)V"⟩
abbrev cX12_best : ByteArray := prog_14_method_56_code
def yX12_best : MethodName := ⟨RX12, "best", "(I)I"⟩
abbrev cX12_nextTurn : ByteArray := prog_14_method_57_code
def yX12_nextTurn : MethodName := ⟨RX12, "nextTurn", "(I)I"⟩
abbrev cX12_takes : ByteArray := prog_14_method_58_code
def yX12_takes : MethodName := ⟨RX12, "takes", "(I)V"⟩
abbrev cX12_turnsAll : ByteArray := prog_14_method_59_code
def yX12_turnsAll : MethodName := ⟨RX12, "turnsAll", "()V"⟩
abbrev cX12_noneMany : ByteArray := prog_14_method_60_code
def yX12_noneMany : MethodName := ⟨RX12, "noneMany", "()I"⟩
abbrev cX12_inTurn : ByteArray := prog_14_method_61_code
def yX12_inTurn : MethodName := ⟨RX12, "inTurn", "(I)I"⟩
abbrev cX12_settle : ByteArray := prog_14_method_62_code
def yX12_settle : MethodName := ⟨RX12, "settle", "()I"⟩
abbrev cX12_change : ByteArray := prog_14_method_63_code
def yX12_change : MethodName := ⟨RX12, "change", "(I)I"⟩
abbrev cX12_bars : ByteArray := prog_14_method_64_code
def yX12_bars : MethodName := ⟨RX12, "bars", "(II)I"⟩
abbrev cX12_firstOther : ByteArray := prog_14_method_65_code
def yX12_firstOther : MethodName := ⟨RX12, "firstOther", "(II)I"⟩
abbrev cX12_tells : ByteArray := prog_14_method_66_code
def yX12_tells : MethodName := ⟨RX12, "tells", "(III)I"⟩
abbrev cX12_film : ByteArray := prog_14_method_67_code
def yX12_film : MethodName := ⟨RX12, "film", "(II)I"⟩
abbrev cX12_draws : ByteArray := prog_14_method_68_code
def yX12_draws : MethodName := ⟨RX12, "draws", "(I)V"⟩
abbrev cX12_drawn : ByteArray := prog_14_method_69_code
def yX12_drawn : MethodName := ⟨RX12, "drawn", "(I)I"⟩
abbrev cX12_chance : ByteArray := prog_14_method_70_code
def yX12_chance : MethodName := ⟨RX12, "chance", "(III)J"⟩
abbrev cX12_image : ByteArray := prog_14_method_71_code
def yX12_image : MethodName := ⟨RX12, "image", "()I"⟩
abbrev cX12_back : ByteArray := prog_14_method_72_code
def yX12_back : MethodName := ⟨RX12, "back", "()I"⟩
abbrev cX12_count : ByteArray := prog_14_method_73_code
def yX12_count : MethodName := ⟨RX12, "count", "(I)I"⟩
abbrev cX12_isSheet : ByteArray := prog_14_method_74_code
def yX12_isSheet : MethodName := ⟨RX12, "isSheet", "(I)Z"⟩
abbrev cX12_sheet : ByteArray := prog_14_method_75_code
def yX12_sheet : MethodName := ⟨RX12, "sheet", "(III)I"⟩
abbrev cX12_cell : ByteArray := prog_14_method_76_code
def yX12_cell : MethodName := ⟨RX12, "cell", "(III)I"⟩
abbrev cX12_copy : ByteArray := prog_14_method_77_code
def yX12_copy : MethodName := ⟨RX12, "copy", "(IIIII)I"⟩
abbrev cX12_clerks : ByteArray := prog_14_method_78_code
def yX12_clerks : MethodName := ⟨RX12, "clerks", "(IIII)I"⟩
abbrev cX12_over : ByteArray := prog_14_method_79_code
def yX12_over : MethodName := ⟨RX12, "over", "(I)I"⟩
abbrev cX12_taken : ByteArray := prog_14_method_80_code
def yX12_taken : MethodName := ⟨RX12, "taken", "(II)I"⟩
def RJ6 : String := "java/lang/Integer"
abbrev cJ6_bitCount_0f7a4 : ByteArray := prog_15_method_49_code
def yJ6_bitCount_0f7a4 : MethodName := ⟨RJ6, "bitCount", "(I)I"⟩
def RJ9 : String := "java/lang/Math"
abbrev cJ9_max_7cf53 : ByteArray := prog_16_method_65_code
def yJ9_max_7cf53 : MethodName := ⟨RJ9, "max", "(II)I"⟩
abbrev cJ9_min_7cf53 : ByteArray := prog_16_method_69_code
def yJ9_min_7cf53 : MethodName := ⟨RJ9, "min", "(II)I"⟩
def RJ0 : String := "java/lang/String"
abbrev cJ0_length_8abf5 : ByteArray := prog_17_method_54_code
def yJ0_length_8abf5 : MethodName := ⟨RJ0, "length", "()I"⟩
abbrev cJ0_charAt_5068e : ByteArray := prog_17_method_56_code
def yJ0_charAt_5068e : MethodName := ⟨RJ0, "charAt", "(I)C"⟩
abbrev cJ0_coder_7d493 : ByteArray := prog_17_method_152_code
def yJ0_coder_7d493 : MethodName := ⟨RJ0, "coder", "()B"⟩
abbrev cJ0_isLatin1_aae02 : ByteArray := prog_17_method_154_code
def yJ0_isLatin1_aae02 : MethodName := ⟨RJ0, "isLatin1", "()Z"⟩
abbrev cJ0_checkIndex_df160 : ByteArray := prog_17_method_155_code
def yJ0_checkIndex_df160 : MethodName := ⟨RJ0, "checkIndex", "(II)V"⟩
def RJ1 : String := "java/lang/StringLatin1"
abbrev cJ1_charAt_3b067 : ByteArray := prog_18_method_2_code
def yJ1_charAt_3b067 : MethodName := ⟨RJ1, "charAt", "([BI)C"⟩
def RJ2 : String := "java/lang/StringUTF16"
abbrev cJ2_getChar_3b067 : ByteArray := prog_19_method_5_code
def yJ2_getChar_3b067 : MethodName := ⟨RJ2, "getChar", "([BI)C"⟩
abbrev cJ2_length_9d52b : ByteArray := prog_19_method_6_code
def yJ2_length_9d52b : MethodName := ⟨RJ2, "length", "([B)I"⟩
abbrev cJ2_charAt_3b067 : ByteArray := prog_19_method_83_code
def yJ2_charAt_3b067 : MethodName := ⟨RJ2, "charAt", "([BI)C"⟩
abbrev cJ2_checkIndex_2214a : ByteArray := prog_19_method_91_code
def yJ2_checkIndex_2214a : MethodName := ⟨RJ2, "checkIndex", "(I[B)V"⟩
def RJ10 : String := "java/lang/System"
def RJ3 : String := "jdk/internal/util/Preconditions"
abbrev cJ3_checkIndex_8e157 : ByteArray := prog_21_method_11_code
def yJ3_checkIndex_8e157 : MethodName := ⟨RJ3, "checkIndex", "(IILjava/util/function/BiFunction;)I"⟩
def RL : String := "NotBothInAugustLaw"
abbrev cL_law : ByteArray := code
def yL_law : MethodName := ⟨RL, "law", "([I)Z"⟩
abbrev vwCl : List vw_C := [(RX0, TX0, 0), (RX1, TX1, 0), (RX2, TX2, 0), (RX3, TX3, 0), (RX4, TX4, 0), (RX5, TX5, 12), (RX6, TX6, 5), (RX7, TX7, 3), (RX8, TX8, 12), (RX9, TX9, 0), (RX10, TX10, 12), (RX11, TX11, 9), (RX12, TX12, 44)]
end
section
/-! THE SMALL MACHINE: a program of its own words over a heap of its own words, which later is shown to be what the bytecode does. -/
/-- what an instruction's entry of the constant pool comes to -/
abbrev ak_X : Type := Nat × Nat × Nat × Int
abbrev ak_I : Type := Option (Instr × Nat × ak_X)
abbrev ak_Q : Type := MethodName × ByteArray × Nat × Option FieldType × List ak_I × Nat
/-- widths of the instructions that are told of -/
def ak_wd : Instr → Nat → Bool
  | .tableswitch .., _ => true
  | .bipush _, w => w == 2
  | .sipush _, w => w == 3
  | .iload _, w => w == 2
  | .lload _, w => w == 2
  | .aload _, w => w == 2
  | .istore _, w => w == 2
  | .lstore _, w => w == 2
  | .astore _, w => w == 2
  | .ldc _, w => w == 2
  | .ldc_w _, w => w == 3
  | .ldc2_w _, w => w == 3
  | .iinc .., w => w == 3
  | .goto _, w => w == 3
  | .ifCond .., w => w == 3
  | .if_icmp .., w => w == 3
  | .getfield _, w => w == 3
  | .putfield _, w => w == 3
  | .getstatic _, w => w == 3
  | .new _, w => w == 3
  | .newarray _, w => w == 2
  | .anewarray _, w => w == 3
  | .instanceof _, w => w == 3
  | .invokevirtual _, w => w == 3
  | .invokespecial _, w => w == 3
  | .invokestatic _, w => w == 3
  | _, w => w == 1
/-! each method's table is what its bytes say -/
def ak_chk (b : ByteArray) : Nat → List ak_I → Bool
  | _, [] => true
  | n, none :: t => ak_chk b (n + 1) t
  | n, some q :: t => decide (decode b n = .ok (q.1, q.2.1)) && ak_wd q.1 q.2.1 && ak_chk b (n + 1) t
theorem ak_chk_at {b : ByteArray} : ∀ (l : List ak_I) (n : Nat), ak_chk b n l = true → ∀ (k : Nat) (q : Instr × Nat × ak_X), l[k]? = some (some q) → decode b (n + k) = .ok (q.1, q.2.1) ∧ ak_wd q.1 q.2.1 = true
  | [], _, _, k, q, h => by simp at h
  | a :: t, n, hc, k, q, h => by
    cases k with
    | zero =>
      rw [List.getElem?_cons_zero] at h
      cases h
      simp only [ak_chk, Bool.and_eq_true, decide_eq_true_eq] at hc
      exact ⟨hc.1.1, hc.1.2⟩
    | succ k =>
      rw [List.getElem?_cons_succ] at h
      have ht : ak_chk b (n + 1) t = true := by
        cases a with
        | none => exact hc
        | some a => simp only [ak_chk, Bool.and_eq_true] at hc; exact hc.2
      have := ak_chk_at t (n + 1) ht k q h
      rwa [show n + 1 + k = n + (k + 1) by omega] at this
theorem ak_chk_app {b : ByteArray} : ∀ {l r : List ak_I} {n k : Nat}, n + l.length = k → ak_chk b n l = true → ak_chk b k r = true → ak_chk b n (l ++ r) = true
  | [], r, n, k, e, _, h2 => by
    have : n = k := by simpa using e
    subst this; exact h2
  | none :: t, r, n, k, e, h1, h2 => ak_chk_app (l := t) (n := n + 1) (by simp at e; omega) h1 h2
  | some q :: t, r, n, k, e, h1, h2 => by
    simp only [ak_chk, Bool.and_eq_true] at h1
    show ak_chk b n (some q :: (t ++ r)) = true
    simp only [ak_chk, Bool.and_eq_true]
    exact ⟨h1.1, ak_chk_app (l := t) (n := n + 1) (by simp at e; omega) h1.2 h2⟩
end
section
/-! printed: each method of the claim as the small machine has it (out of the bytecode, by program) -/
set_option maxRecDepth 100000 in
def k_0 : List ak_I := [some (.aload_n 0, 1, (0, 0, 0, 0)), some (.invokespecial 3, 3, (16, 0, 0, 0)), none, none, some (.aload_n 0, 1, (0, 0, 0, 0)), some (.new 9, 3, (7, 8, 0, 0)), none, none, some (.dup, 1, (0, 0, 0, 0)), some (.invokespecial 11, 3, (14, 1, 0, 8)), none, none, some (.putfield 12, 3, (1, 11, 0, 1)), none, none, some (.aload_n 0, 1, (0, 0, 0, 0)), some (.new 9, 3, (7, 8, 0, 0)), none, none, some (.dup, 1, (0, 0, 0, 0)), some (.invokespecial 11, 3, (14, 1, 0, 8)), none, none, some (.putfield 16, 3, (1, 11, 1, 1)), none, none, some (.aload_n 0, 1, (0, 0, 0, 0)), some (.new 9, 3, (7, 8, 0, 0)), none, none, some (.dup, 1, (0, 0, 0, 0)), some (.invokespecial 11, 3, (14, 1, 0, 8)), none, none, some (.putfield 19, 3, (1, 11, 2, 1)), none, none, some (.aload_n 0, 1, (0, 0, 0, 0)), some (.sipush 160, 3, (0, 0, 0, 0)), none, none, some (.newarray .int, 2, (0, 0, 0, 0)), none, some (.putfield 22, 3, (1, 11, 4, 1)), none, none, some (.aload_n 0, 1, (0, 0, 0, 0)), some (.new 26, 3, (7, 6, 0, 0)), none, none, some (.dup, 1, (0, 0, 0, 0)), some (.aload_n 0, 1, (0, 0, 0, 0)), some (.getfield 22, 3, (1, 11, 4, 1)), none, none, some (.invokespecial 28, 3, (14, 2, 1, 6)), none, none, some (.putfield 31, 3, (1, 11, 6, 1)), none, none, some (.aload_n 0, 1, (0, 0, 0, 0)), some (.new 35, 3, (7, 5, 0, 0)), none, none, some (.dup, 1, (0, 0, 0, 0)), some (.aload_n 0, 1, (0, 0, 0, 0)), some (.getfield 31, 3, (1, 11, 6, 1)), none, none, some (.aload_n 0, 1, (0, 0, 0, 0)), some (.getfield 12, 3, (1, 11, 0, 1)), none, none, some (.invokespecial 37, 3, (14, 12, 2, 5)), none, none, some (.putfield 40, 3, (1, 11, 7, 1)), none, none, some (.aload_n 0, 1, (0, 0, 0, 0)), some (.iconst 4, 1, (0, 0, 0, 0)), some (.anewarray 44, 3, (7, 7, 4, 0)), none, none, some (.putfield 46, 3, (1, 11, 8, 1)), none, none, some (.iconst 0, 1, (0, 0, 0, 0)), some (.istore_n 1, 1, (0, 0, 0, 0)), some (.iload_n 1, 1, (0, 0, 0, 0)), some (.iconst 4, 1, (0, 0, 0, 0)), some (.if_icmp .ge 22, 3, (0, 0, 0, 0)), none, none, some (.aload_n 0, 1, (0, 0, 0, 0)), some (.getfield 46, 3, (1, 11, 8, 1)), none, none, some (.iload_n 1, 1, (0, 0, 0, 0)), some (.new 44, 3, (7, 7, 4, 0)), none, none, some (.dup, 1, (0, 0, 0, 0)), some (.invokespecial 50, 3, (14, 13, 0, 7)), none, none, some (.aastore, 1, (0, 0, 0, 0)), some (.iinc 1 1, 3, (0, 0, 0, 0)), none, none, some (.goto (-21), 3, (0, 0, 0, 0)), none, none, some (.return_, 1, (0, 0, 0, 0))]
def q_0 : ak_Q := (yX11_init, cX11_init, 2, none, k_0, 11)
set_option maxRecDepth 100000 in
def k_1 : List ak_I := [some (.aload_n 0, 1, (0, 0, 0, 0)), some (.invokespecial 3, 3, (16, 0, 0, 0)), none, none, some (.aload_n 0, 1, (0, 0, 0, 0)), some (.iconst 2, 1, (0, 0, 0, 0)), some (.putfield 9, 3, (1, 8, 1, 0)), none, none, some (.aload_n 0, 1, (0, 0, 0, 0)), some (.iconst 4, 1, (0, 0, 0, 0)), some (.newarray .int, 2, (0, 0, 0, 0)), none, some (.putfield 15, 3, (1, 8, 5, 1)), none, none, some (.aload_n 0, 1, (0, 0, 0, 0)), some (.iconst 4, 1, (0, 0, 0, 0)), some (.newarray .int, 2, (0, 0, 0, 0)), none, some (.putfield 19, 3, (1, 8, 6, 1)), none, none, some (.aload_n 0, 1, (0, 0, 0, 0)), some (.iconst 4, 1, (0, 0, 0, 0)), some (.newarray .int, 2, (0, 0, 0, 0)), none, some (.putfield 22, 3, (1, 8, 7, 1)), none, none, some (.aload_n 0, 1, (0, 0, 0, 0)), some (.iconst 4, 1, (0, 0, 0, 0)), some (.newarray .int, 2, (0, 0, 0, 0)), none, some (.putfield 25, 3, (1, 8, 8, 1)), none, none, some (.aload_n 0, 1, (0, 0, 0, 0)), some (.iconst 4, 1, (0, 0, 0, 0)), some (.newarray .int, 2, (0, 0, 0, 0)), none, some (.putfield 28, 3, (1, 8, 9, 1)), none, none, some (.aload_n 0, 1, (0, 0, 0, 0)), some (.iconst 4, 1, (0, 0, 0, 0)), some (.newarray .int, 2, (0, 0, 0, 0)), none, some (.putfield 31, 3, (1, 8, 10, 1)), none, none, some (.aload_n 0, 1, (0, 0, 0, 0)), some (.iconst 4, 1, (0, 0, 0, 0)), some (.newarray .int, 2, (0, 0, 0, 0)), none, some (.putfield 34, 3, (1, 8, 11, 1)), none, none, some (.return_, 1, (0, 0, 0, 0))]
def q_1 : ak_Q := (yX8_init, cX8_init, 1, none, k_1, 8)
set_option maxRecDepth 100000 in
def k_2 : List ak_I := [some (.aload_n 0, 1, (0, 0, 0, 0)), some (.invokespecial 3, 3, (16, 0, 0, 0)), none, none, some (.aload_n 0, 1, (0, 0, 0, 0)), some (.iconst 1, 1, (0, 0, 0, 0)), some (.putfield 9, 3, (1, 6, 0, 0)), none, none, some (.aload_n 0, 1, (0, 0, 0, 0)), some (.bipush 6, 2, (0, 0, 0, 0)), none, some (.anewarray 15, 3, (7, 10, 2, 0)), none, none, some (.putfield 17, 3, (1, 6, 1, 1)), none, none, some (.aload_n 0, 1, (0, 0, 0, 0)), some (.bipush 6, 2, (0, 0, 0, 0)), none, some (.anewarray 21, 3, (7, 3, 3, 0)), none, none, some (.dup, 1, (0, 0, 0, 0)), some (.iconst 0, 1, (0, 0, 0, 0)), some (.new 21, 3, (7, 3, 3, 0)), none, none, some (.dup, 1, (0, 0, 0, 0)), some (.invokespecial 23, 3, (14, 3, 0, 3)), none, none, some (.aastore, 1, (0, 0, 0, 0)), some (.dup, 1, (0, 0, 0, 0)), some (.iconst 1, 1, (0, 0, 0, 0)), some (.new 24, 3, (7, 4, 0, 0)), none, none, some (.dup, 1, (0, 0, 0, 0)), some (.invokespecial 26, 3, (14, 4, 0, 4)), none, none, some (.aastore, 1, (0, 0, 0, 0)), some (.dup, 1, (0, 0, 0, 0)), some (.iconst 2, 1, (0, 0, 0, 0)), some (.new 27, 3, (7, 9, 0, 0)), none, none, some (.dup, 1, (0, 0, 0, 0)), some (.invokespecial 29, 3, (14, 5, 0, 9)), none, none, some (.aastore, 1, (0, 0, 0, 0)), some (.dup, 1, (0, 0, 0, 0)), some (.iconst 3, 1, (0, 0, 0, 0)), some (.new 30, 3, (7, 2, 0, 0)), none, none, some (.dup, 1, (0, 0, 0, 0)), some (.invokespecial 32, 3, (14, 6, 0, 2)), none, none, some (.aastore, 1, (0, 0, 0, 0)), some (.dup, 1, (0, 0, 0, 0)), some (.iconst 4, 1, (0, 0, 0, 0)), some (.new 33, 3, (7, 1, 0, 0)), none, none, some (.dup, 1, (0, 0, 0, 0)), some (.invokespecial 35, 3, (14, 7, 0, 1)), none, none, some (.aastore, 1, (0, 0, 0, 0)), some (.dup, 1, (0, 0, 0, 0)), some (.iconst 5, 1, (0, 0, 0, 0)), some (.new 36, 3, (7, 0, 0, 0)), none, none, some (.dup, 1, (0, 0, 0, 0)), some (.invokespecial 38, 3, (14, 8, 0, 0)), none, none, some (.aastore, 1, (0, 0, 0, 0)), some (.putfield 39, 3, (1, 6, 2, 1)), none, none, some (.aload_n 0, 1, (0, 0, 0, 0)), some (.bipush 6, 2, (0, 0, 0, 0)), none, some (.newarray .int, 2, (0, 0, 0, 0)), none, some (.putfield 43, 3, (1, 6, 3, 1)), none, none, some (.aload_n 0, 1, (0, 0, 0, 0)), some (.sipush 160, 3, (0, 0, 0, 0)), none, none, some (.newarray .int, 2, (0, 0, 0, 0)), none, some (.putfield 47, 3, (1, 6, 4, 1)), none, none, some (.iconst 0, 1, (0, 0, 0, 0)), some (.istore_n 2, 1, (0, 0, 0, 0)), some (.iload_n 2, 1, (0, 0, 0, 0)), some (.bipush 6, 2, (0, 0, 0, 0)), none, some (.if_icmp .ge 23, 3, (0, 0, 0, 0)), none, none, some (.aload_n 0, 1, (0, 0, 0, 0)), some (.getfield 17, 3, (1, 6, 1, 1)), none, none, some (.iload_n 2, 1, (0, 0, 0, 0)), some (.new 15, 3, (7, 10, 2, 0)), none, none, some (.dup, 1, (0, 0, 0, 0)), some (.aload_n 1, 1, (0, 0, 0, 0)), some (.invokespecial 50, 3, (14, 9, 1, 10)), none, none, some (.aastore, 1, (0, 0, 0, 0)), some (.iinc 2 1, 3, (0, 0, 0, 0)), none, none, some (.goto (-23), 3, (0, 0, 0, 0)), none, none, some (.aload_n 0, 1, (0, 0, 0, 0)), some (.getfield 17, 3, (1, 6, 1, 1)), none, none, some (.iconst 0, 1, (0, 0, 0, 0)), some (.aaload, 1, (0, 0, 0, 0)), some (.astore_n 2, 1, (0, 0, 0, 0)), some (.aload_n 2, 1, (0, 0, 0, 0)), some (.bipush 10, 2, (0, 0, 0, 0)), none, some (.invokevirtual 53, 3, (8, 10, 1, 10)), none, none, some (.aload_n 2, 1, (0, 0, 0, 0)), some (.invokevirtual 57, 3, (8, 11, 0, 10)), none, none, some (.aload_n 2, 1, (0, 0, 0, 0)), some (.iconst 3, 1, (0, 0, 0, 0)), some (.invokevirtual 53, 3, (8, 10, 1, 10)), none, none, some (.aload_n 2, 1, (0, 0, 0, 0)), some (.invokevirtual 57, 3, (8, 11, 0, 10)), none, none, some (.aload_n 2, 1, (0, 0, 0, 0)), some (.iconst 1, 1, (0, 0, 0, 0)), some (.invokevirtual 53, 3, (8, 10, 1, 10)), none, none, some (.aload_n 2, 1, (0, 0, 0, 0)), some (.invokevirtual 57, 3, (8, 11, 0, 10)), none, none, some (.return_, 1, (0, 0, 0, 0))]
def q_2 : ak_Q := (yX6_init, cX6_init, 3, none, k_2, 6)
set_option maxRecDepth 100000 in
def k_3 : List ak_I := [some (.aload_n 0, 1, (0, 0, 0, 0)), some (.invokespecial 1, 3, (16, 0, 0, 0)), none, none, some (.return_, 1, (0, 0, 0, 0))]
def q_3 : ak_Q := (yX3_init, cX3_init, 1, none, k_3, 3)
set_option maxRecDepth 100000 in
def k_4 : List ak_I := [some (.aload_n 0, 1, (0, 0, 0, 0)), some (.invokespecial 1, 3, (14, 3, 0, 3)), none, none, some (.return_, 1, (0, 0, 0, 0))]
def q_4 : ak_Q := (yX4_init, cX4_init, 1, none, k_4, 4)
set_option maxRecDepth 100000 in
def k_5 : List ak_I := [some (.aload_n 0, 1, (0, 0, 0, 0)), some (.invokespecial 1, 3, (14, 3, 0, 3)), none, none, some (.return_, 1, (0, 0, 0, 0))]
def q_5 : ak_Q := (yX9_init, cX9_init, 1, none, k_5, 9)
set_option maxRecDepth 100000 in
def k_6 : List ak_I := [some (.aload_n 0, 1, (0, 0, 0, 0)), some (.invokespecial 3, 3, (14, 4, 0, 4)), none, none, some (.return_, 1, (0, 0, 0, 0))]
def q_6 : ak_Q := (yX2_init, cX2_init, 1, none, k_6, 2)
set_option maxRecDepth 100000 in
def k_7 : List ak_I := [some (.aload_n 0, 1, (0, 0, 0, 0)), some (.invokespecial 1, 3, (14, 5, 0, 9)), none, none, some (.return_, 1, (0, 0, 0, 0))]
def q_7 : ak_Q := (yX1_init, cX1_init, 1, none, k_7, 1)
set_option maxRecDepth 100000 in
def k_8 : List ak_I := [some (.aload_n 0, 1, (0, 0, 0, 0)), some (.invokespecial 1, 3, (14, 3, 0, 3)), none, none, some (.return_, 1, (0, 0, 0, 0))]
def q_8 : ak_Q := (yX0_init, cX0_init, 1, none, k_8, 0)
set_option maxRecDepth 100000 in
def k_9 : List ak_I := [some (.aload_n 0, 1, (0, 0, 0, 0)), some (.invokespecial 3, 3, (16, 0, 0, 0)), none, none, some (.aload_n 0, 1, (0, 0, 0, 0)), some (.sipush 160, 3, (0, 0, 0, 0)), none, none, some (.newarray .int, 2, (0, 0, 0, 0)), none, some (.putfield 9, 3, (1, 10, 0, 1)), none, none, some (.aload_n 0, 1, (0, 0, 0, 0)), some (.iconst 3, 1, (0, 0, 0, 0)), some (.newarray .int, 2, (0, 0, 0, 0)), none, some (.putfield 15, 3, (1, 10, 1, 1)), none, none, some (.aload_n 0, 1, (0, 0, 0, 0)), some (.aload_n 1, 1, (0, 0, 0, 0)), some (.putfield 18, 3, (1, 10, 4, 1)), none, none, some (.return_, 1, (0, 0, 0, 0))]
def q_9 : ak_Q := (yX10_init, cX10_init, 2, none, k_9, 10)
set_option maxRecDepth 100000 in
def k_10 : List ak_I := [some (.aload_n 0, 1, (0, 0, 0, 0)), some (.getfield 21, 3, (1, 10, 2, 0)), none, none, some (.aload_n 0, 1, (0, 0, 0, 0)), some (.getfield 9, 3, (1, 10, 0, 1)), none, none, some (.arraylength, 1, (0, 0, 0, 0)), some (.if_icmp .ge 23, 3, (0, 0, 0, 0)), none, none, some (.aload_n 0, 1, (0, 0, 0, 0)), some (.getfield 9, 3, (1, 10, 0, 1)), none, none, some (.aload_n 0, 1, (0, 0, 0, 0)), some (.getfield 21, 3, (1, 10, 2, 0)), none, none, some (.iload_n 1, 1, (0, 0, 0, 0)), some (.iastore, 1, (0, 0, 0, 0)), some (.aload_n 0, 1, (0, 0, 0, 0)), some (.dup, 1, (0, 0, 0, 0)), some (.getfield 21, 3, (1, 10, 2, 0)), none, none, some (.iconst 1, 1, (0, 0, 0, 0)), some (.iadd, 1, (0, 0, 0, 0)), some (.putfield 21, 3, (1, 10, 2, 0)), none, none, some (.return_, 1, (0, 0, 0, 0))]
def q_10 : ak_Q := (yX10_add, cX10_add, 2, none, k_10, 10)
set_option maxRecDepth 100000 in
def k_11 : List ak_I := [some (.aload_n 0, 1, (0, 0, 0, 0)), some (.getfield 29, 3, (1, 10, 3, 0)), none, none, some (.iconst 3, 1, (0, 0, 0, 0)), some (.if_icmp .ge 26, 3, (0, 0, 0, 0)), none, none, some (.aload_n 0, 1, (0, 0, 0, 0)), some (.getfield 15, 3, (1, 10, 1, 1)), none, none, some (.aload_n 0, 1, (0, 0, 0, 0)), some (.getfield 29, 3, (1, 10, 3, 0)), none, none, some (.aload_n 0, 1, (0, 0, 0, 0)), some (.getfield 21, 3, (1, 10, 2, 0)), none, none, some (.iastore, 1, (0, 0, 0, 0)), some (.aload_n 0, 1, (0, 0, 0, 0)), some (.dup, 1, (0, 0, 0, 0)), some (.getfield 29, 3, (1, 10, 3, 0)), none, none, some (.iconst 1, 1, (0, 0, 0, 0)), some (.iadd, 1, (0, 0, 0, 0)), some (.putfield 29, 3, (1, 10, 3, 0)), none, none, some (.return_, 1, (0, 0, 0, 0))]
def q_11 : ak_Q := (yX10_endPart, cX10_endPart, 1, none, k_11, 10)
set_option maxRecDepth 100000 in
def k_12 : List ak_I := [some (.aload_n 0, 1, (0, 0, 0, 0)), some (.invokespecial 3, 3, (16, 0, 0, 0)), none, none, some (.aload_n 0, 1, (0, 0, 0, 0)), some (.bipush 36, 2, (0, 0, 0, 0)), none, some (.newarray .int, 2, (0, 0, 0, 0)), none, some (.putfield 9, 3, (1, 5, 2, 1)), none, none, some (.aload_n 0, 1, (0, 0, 0, 0)), some (.bipush 36, 2, (0, 0, 0, 0)), none, some (.newarray .int, 2, (0, 0, 0, 0)), none, some (.putfield 15, 3, (1, 5, 3, 1)), none, none, some (.aload_n 0, 1, (0, 0, 0, 0)), some (.bipush 36, 2, (0, 0, 0, 0)), none, some (.newarray .boolean, 2, (0, 0, 0, 0)), none, some (.putfield 18, 3, (1, 5, 4, 1)), none, none, some (.aload_n 0, 1, (0, 0, 0, 0)), some (.bipush 16, 2, (0, 0, 0, 0)), none, some (.newarray .boolean, 2, (0, 0, 0, 0)), none, some (.putfield 22, 3, (1, 5, 5, 1)), none, none, some (.aload_n 0, 1, (0, 0, 0, 0)), some (.bipush 8, 2, (0, 0, 0, 0)), none, some (.newarray .int, 2, (0, 0, 0, 0)), none, some (.putfield 25, 3, (1, 5, 6, 1)), none, none, some (.aload_n 0, 1, (0, 0, 0, 0)), some (.iconst 4, 1, (0, 0, 0, 0)), some (.newarray .int, 2, (0, 0, 0, 0)), none, some (.putfield 28, 3, (1, 5, 7, 1)), none, none, some (.aload_n 0, 1, (0, 0, 0, 0)), some (.iconst 4, 1, (0, 0, 0, 0)), some (.newarray .int, 2, (0, 0, 0, 0)), none, some (.putfield 31, 3, (1, 5, 8, 1)), none, none, some (.aload_n 0, 1, (0, 0, 0, 0)), some (.iconst 5, 1, (0, 0, 0, 0)), some (.newarray .int, 2, (0, 0, 0, 0)), none, some (.putfield 34, 3, (1, 5, 9, 1)), none, none, some (.aload_n 0, 1, (0, 0, 0, 0)), some (.aload_n 1, 1, (0, 0, 0, 0)), some (.putfield 37, 3, (1, 5, 0, 1)), none, none, some (.aload_n 0, 1, (0, 0, 0, 0)), some (.aload_n 2, 1, (0, 0, 0, 0)), some (.putfield 41, 3, (1, 5, 1, 0)), none, none, some (.return_, 1, (0, 0, 0, 0))]
def q_12 : ak_Q := (yX5_init, cX5_init, 3, none, k_12, 5)
set_option maxRecDepth 100000 in
def k_13 : List ak_I := [some (.aload_n 0, 1, (0, 0, 0, 0)), some (.invokespecial 3, 3, (16, 0, 0, 0)), none, none, some (.aload_n 0, 1, (0, 0, 0, 0)), some (.iconst (-1), 1, (0, 0, 0, 0)), some (.putfield 9, 3, (1, 7, 0, 0)), none, none, some (.aload_n 0, 1, (0, 0, 0, 0)), some (.bipush 40, 2, (0, 0, 0, 0)), none, some (.newarray .int, 2, (0, 0, 0, 0)), none, some (.putfield 15, 3, (1, 7, 2, 1)), none, none, some (.return_, 1, (0, 0, 0, 0))]
def q_13 : ak_Q := (yX7_init, cX7_init, 1, none, k_13, 7)
set_option maxRecDepth 100000 in
def k_14 : List ak_I := [some (.aload_n 0, 1, (0, 0, 0, 0)), some (.getfield 12, 3, (1, 11, 0, 1)), none, none, some (.iload_n 1, 1, (0, 0, 0, 0)), some (.iload_n 2, 1, (0, 0, 0, 0)), some (.invokevirtual 51, 3, (8, 15, 2, 8)), none, none, some (.ifCond .eq 15, 3, (0, 0, 0, 0)), none, none, some (.aload_n 0, 1, (0, 0, 0, 0)), some (.getfield 12, 3, (1, 11, 0, 1)), none, none, some (.iload_n 1, 1, (0, 0, 0, 0)), some (.iload_n 3, 1, (0, 0, 0, 0)), some (.invokevirtual 55, 3, (8, 17, 2, 8)), none, none, some (.ifCond .ne 6, 3, (0, 0, 0, 0)), none, none, some (.bipush (-2), 2, (0, 0, 0, 0)), none, some (.ireturn, 1, (0, 0, 0, 0)), some (.aload_n 0, 1, (0, 0, 0, 0)), some (.getfield 12, 3, (1, 11, 0, 1)), none, none, some (.iload_n 1, 1, (0, 0, 0, 0)), some (.iload_n 2, 1, (0, 0, 0, 0)), some (.invokevirtual 58, 3, (8, 18, 2, 8)), none, none, some (.istore 4, 2, (0, 0, 0, 0)), none, some (.aload_n 0, 1, (0, 0, 0, 0)), some (.getfield 12, 3, (1, 11, 0, 1)), none, none, some (.iload_n 1, 1, (0, 0, 0, 0)), some (.iload_n 2, 1, (0, 0, 0, 0)), some (.iload_n 3, 1, (0, 0, 0, 0)), some (.invokevirtual 62, 3, (8, 20, 3, 8)), none, none, some (.iload 4, 2, (0, 0, 0, 0)), none, some (.ireturn, 1, (0, 0, 0, 0))]
def q_14 : ak_Q := (yX11_set, cX11_set, 5, (some .int), k_14, 11)
set_option maxRecDepth 100000 in
def k_15 : List ak_I := [some (.iload_n 1, 1, (0, 0, 0, 0)), some (.ifCond .lt 8, 3, (0, 0, 0, 0)), none, none, some (.iload_n 1, 1, (0, 0, 0, 0)), some (.iconst 2, 1, (0, 0, 0, 0)), some (.if_icmp .le 22, 3, (0, 0, 0, 0)), none, none, some (.iload_n 1, 1, (0, 0, 0, 0)), some (.iconst 3, 1, (0, 0, 0, 0)), some (.if_icmp .lt 21, 3, (0, 0, 0, 0)), none, none, some (.iload_n 1, 1, (0, 0, 0, 0)), some (.bipush 6, 2, (0, 0, 0, 0)), none, some (.if_icmp .gt 15, 3, (0, 0, 0, 0)), none, none, some (.aload_n 0, 1, (0, 0, 0, 0)), some (.iload_n 2, 1, (0, 0, 0, 0)), some (.invokevirtual 49, 3, (8, 16, 1, 8)), none, none, some (.ifCond .eq 7, 3, (0, 0, 0, 0)), none, none, some (.iconst 1, 1, (0, 0, 0, 0)), some (.goto 4, 3, (0, 0, 0, 0)), none, none, some (.iconst 0, 1, (0, 0, 0, 0)), some (.ireturn, 1, (0, 0, 0, 0))]
def q_15 : ak_Q := (yX8_has, cX8_has, 3, (some .boolean), k_15, 8)
set_option maxRecDepth 100000 in
def k_16 : List ak_I := [some (.iload_n 1, 1, (0, 0, 0, 0)), some (.ifCond .lt 15, 3, (0, 0, 0, 0)), none, none, some (.iload_n 1, 1, (0, 0, 0, 0)), some (.aload_n 0, 1, (0, 0, 0, 0)), some (.getfield 46, 3, (1, 8, 4, 0)), none, none, some (.if_icmp .ge 7, 3, (0, 0, 0, 0)), none, none, some (.iconst 1, 1, (0, 0, 0, 0)), some (.goto 4, 3, (0, 0, 0, 0)), none, none, some (.iconst 0, 1, (0, 0, 0, 0)), some (.ireturn, 1, (0, 0, 0, 0))]
def q_16 : ak_Q := (yX8_isOne, cX8_isOne, 2, (some .boolean), k_16, 8)
set_option maxRecDepth 100000 in
def k_17 : List ak_I := [some (.iload_n 1, 1, (0, 0, 0, 0)), some (.ifCond .lt 41, 3, (0, 0, 0, 0)), none, none, some (.iload_n 1, 1, (0, 0, 0, 0)), some (.getstatic 53, 3, (3, 0, 0, 0)), none, none, some (.arraylength, 1, (0, 0, 0, 0)), some (.if_icmp .ge 33, 3, (0, 0, 0, 0)), none, none, some (.iload_n 1, 1, (0, 0, 0, 0)), some (.getstatic 56, 3, (3, 1, 0, 0)), none, none, some (.arraylength, 1, (0, 0, 0, 0)), some (.if_icmp .ge 25, 3, (0, 0, 0, 0)), none, none, some (.iload_n 2, 1, (0, 0, 0, 0)), some (.getstatic 53, 3, (3, 0, 0, 0)), none, none, some (.iload_n 1, 1, (0, 0, 0, 0)), some (.iaload, 1, (0, 0, 0, 0)), some (.if_icmp .lt 16, 3, (0, 0, 0, 0)), none, none, some (.iload_n 2, 1, (0, 0, 0, 0)), some (.getstatic 56, 3, (3, 1, 0, 0)), none, none, some (.iload_n 1, 1, (0, 0, 0, 0)), some (.iaload, 1, (0, 0, 0, 0)), some (.if_icmp .gt 7, 3, (0, 0, 0, 0)), none, none, some (.iconst 1, 1, (0, 0, 0, 0)), some (.goto 4, 3, (0, 0, 0, 0)), none, none, some (.iconst 0, 1, (0, 0, 0, 0)), some (.ireturn, 1, (0, 0, 0, 0))]
def q_17 : ak_Q := (yX8_fits, cX8_fits, 3, (some .boolean), k_17, 8)
set_option maxRecDepth 100000 in
def k_18 : List ak_I := [some (.iload_n 1, 1, (0, 0, 0, 0)), some (.tableswitch 42 0 2 #[27, 32, 37], 27, (0, 0, 0, 0)), none, none, none, none, none, none, none, none, none, none, none, none, none, none, none, none, none, none, none, none, none, none, none, none, none, none, some (.aload_n 0, 1, (0, 0, 0, 0)), some (.getfield 37, 3, (1, 8, 0, 0)), none, none, some (.ireturn, 1, (0, 0, 0, 0)), some (.aload_n 0, 1, (0, 0, 0, 0)), some (.getfield 9, 3, (1, 8, 1, 0)), none, none, some (.ireturn, 1, (0, 0, 0, 0)), some (.aload_n 0, 1, (0, 0, 0, 0)), some (.getfield 40, 3, (1, 8, 2, 0)), none, none, some (.ireturn, 1, (0, 0, 0, 0)), some (.aload_n 0, 1, (0, 0, 0, 0)), some (.iload_n 2, 1, (0, 0, 0, 0)), some (.invokevirtual 49, 3, (8, 16, 1, 8)), none, none, some (.ifCond .eq 13, 3, (0, 0, 0, 0)), none, none, some (.aload_n 0, 1, (0, 0, 0, 0)), some (.iload_n 1, 1, (0, 0, 0, 0)), some (.invokevirtual 59, 3, (8, 19, 1, 8)), none, none, some (.iload_n 2, 1, (0, 0, 0, 0)), some (.iaload, 1, (0, 0, 0, 0)), some (.goto 4, 3, (0, 0, 0, 0)), none, none, some (.iconst (-1), 1, (0, 0, 0, 0)), some (.ireturn, 1, (0, 0, 0, 0))]
def q_18 : ak_Q := (yX8_number, cX8_number, 3, (some .int), k_18, 8)
set_option maxRecDepth 100000 in
def k_19 : List ak_I := [some (.iload_n 1, 1, (0, 0, 0, 0)), some (.tableswitch 42 3 5 #[27, 32, 37], 27, (0, 0, 0, 0)), none, none, none, none, none, none, none, none, none, none, none, none, none, none, none, none, none, none, none, none, none, none, none, none, none, none, some (.aload_n 0, 1, (0, 0, 0, 0)), some (.getfield 19, 3, (1, 8, 6, 1)), none, none, some (.areturn, 1, (0, 0, 0, 0)), some (.aload_n 0, 1, (0, 0, 0, 0)), some (.getfield 22, 3, (1, 8, 7, 1)), none, none, some (.areturn, 1, (0, 0, 0, 0)), some (.aload_n 0, 1, (0, 0, 0, 0)), some (.getfield 25, 3, (1, 8, 8, 1)), none, none, some (.areturn, 1, (0, 0, 0, 0)), some (.aload_n 0, 1, (0, 0, 0, 0)), some (.getfield 28, 3, (1, 8, 9, 1)), none, none, some (.areturn, 1, (0, 0, 0, 0))]
def q_19 : ak_Q := (yX8_rowOf, cX8_rowOf, 2, (some (.array .int)), k_19, 8)
set_option maxRecDepth 100000 in
def k_20 : List ak_I := [some (.iload_n 1, 1, (0, 0, 0, 0)), some (.ifCond .ne 11, 3, (0, 0, 0, 0)), none, none, some (.aload_n 0, 1, (0, 0, 0, 0)), some (.iload_n 3, 1, (0, 0, 0, 0)), some (.putfield 37, 3, (1, 8, 0, 0)), none, none, some (.goto 45, 3, (0, 0, 0, 0)), none, none, some (.iload_n 1, 1, (0, 0, 0, 0)), some (.iconst 1, 1, (0, 0, 0, 0)), some (.if_icmp .ne 11, 3, (0, 0, 0, 0)), none, none, some (.aload_n 0, 1, (0, 0, 0, 0)), some (.iload_n 3, 1, (0, 0, 0, 0)), some (.putfield 9, 3, (1, 8, 1, 0)), none, none, some (.goto 32, 3, (0, 0, 0, 0)), none, none, some (.iload_n 1, 1, (0, 0, 0, 0)), some (.iconst 2, 1, (0, 0, 0, 0)), some (.if_icmp .ne 11, 3, (0, 0, 0, 0)), none, none, some (.aload_n 0, 1, (0, 0, 0, 0)), some (.iload_n 3, 1, (0, 0, 0, 0)), some (.putfield 40, 3, (1, 8, 2, 0)), none, none, some (.goto 19, 3, (0, 0, 0, 0)), none, none, some (.aload_n 0, 1, (0, 0, 0, 0)), some (.iload_n 2, 1, (0, 0, 0, 0)), some (.invokevirtual 49, 3, (8, 16, 1, 8)), none, none, some (.ifCond .eq 11, 3, (0, 0, 0, 0)), none, none, some (.aload_n 0, 1, (0, 0, 0, 0)), some (.iload_n 1, 1, (0, 0, 0, 0)), some (.invokevirtual 59, 3, (8, 19, 1, 8)), none, none, some (.iload_n 2, 1, (0, 0, 0, 0)), some (.iload_n 3, 1, (0, 0, 0, 0)), some (.iastore, 1, (0, 0, 0, 0)), some (.return_, 1, (0, 0, 0, 0))]
def q_20 : ak_Q := (yX8_put, cX8_put, 4, none, k_20, 8)
set_option maxRecDepth 100000 in
def k_21 : List ak_I := [some (.iload_n 1, 1, (0, 0, 0, 0)), some (.ifCond .lt 33, 3, (0, 0, 0, 0)), none, none, some (.iload_n 1, 1, (0, 0, 0, 0)), some (.bipush 6, 2, (0, 0, 0, 0)), none, some (.if_icmp .ge 27, 3, (0, 0, 0, 0)), none, none, some (.iload_n 2, 1, (0, 0, 0, 0)), some (.ifCond .lt 23, 3, (0, 0, 0, 0)), none, none, some (.iload_n 2, 1, (0, 0, 0, 0)), some (.bipush 10, 2, (0, 0, 0, 0)), none, some (.if_icmp .ge 17, 3, (0, 0, 0, 0)), none, none, some (.iload_n 3, 1, (0, 0, 0, 0)), some (.iconst 1, 1, (0, 0, 0, 0)), some (.if_icmp .lt 12, 3, (0, 0, 0, 0)), none, none, some (.iload_n 3, 1, (0, 0, 0, 0)), some (.iconst 4, 1, (0, 0, 0, 0)), some (.if_icmp .gt 7, 3, (0, 0, 0, 0)), none, none, some (.iconst 1, 1, (0, 0, 0, 0)), some (.goto 4, 3, (0, 0, 0, 0)), none, none, some (.iconst 0, 1, (0, 0, 0, 0)), some (.istore 4, 2, (0, 0, 0, 0)), none, some (.iload 4, 2, (0, 0, 0, 0)), none, some (.ifCond .ne 6, 3, (0, 0, 0, 0)), none, none, some (.bipush (-2), 2, (0, 0, 0, 0)), none, some (.ireturn, 1, (0, 0, 0, 0)), some (.aload_n 0, 1, (0, 0, 0, 0)), some (.getfield 12, 3, (1, 11, 0, 1)), none, none, some (.iload_n 1, 1, (0, 0, 0, 0)), some (.iload_n 2, 1, (0, 0, 0, 0)), some (.iload_n 3, 1, (0, 0, 0, 0)), some (.invokevirtual 66, 3, (8, 22, 3, 8)), none, none, some (.ireturn, 1, (0, 0, 0, 0))]
def q_21 : ak_Q := (yX11_clerk, cX11_clerk, 5, (some .int), k_21, 11)
set_option maxRecDepth 100000 in
def k_22 : List ak_I := [some (.aload_n 0, 1, (0, 0, 0, 0)), some (.getfield 46, 3, (1, 8, 4, 0)), none, none, some (.iconst 4, 1, (0, 0, 0, 0)), some (.if_icmp .lt 6, 3, (0, 0, 0, 0)), none, none, some (.bipush (-4), 2, (0, 0, 0, 0)), none, some (.ireturn, 1, (0, 0, 0, 0)), some (.aload_n 0, 1, (0, 0, 0, 0)), some (.getfield 46, 3, (1, 8, 4, 0)), none, none, some (.istore 4, 2, (0, 0, 0, 0)), none, some (.aload_n 0, 1, (0, 0, 0, 0)), some (.dup, 1, (0, 0, 0, 0)), some (.getfield 46, 3, (1, 8, 4, 0)), none, none, some (.iconst 1, 1, (0, 0, 0, 0)), some (.iadd, 1, (0, 0, 0, 0)), some (.putfield 46, 3, (1, 8, 4, 0)), none, none, some (.aload_n 0, 1, (0, 0, 0, 0)), some (.getfield 15, 3, (1, 8, 5, 1)), none, none, some (.iload 4, 2, (0, 0, 0, 0)), none, some (.iload_n 1, 1, (0, 0, 0, 0)), some (.iastore, 1, (0, 0, 0, 0)), some (.aload_n 0, 1, (0, 0, 0, 0)), some (.getfield 19, 3, (1, 8, 6, 1)), none, none, some (.iload 4, 2, (0, 0, 0, 0)), none, some (.iload_n 2, 1, (0, 0, 0, 0)), some (.iastore, 1, (0, 0, 0, 0)), some (.aload_n 0, 1, (0, 0, 0, 0)), some (.getfield 22, 3, (1, 8, 7, 1)), none, none, some (.iload 4, 2, (0, 0, 0, 0)), none, some (.iload_n 3, 1, (0, 0, 0, 0)), some (.iastore, 1, (0, 0, 0, 0)), some (.aload_n 0, 1, (0, 0, 0, 0)), some (.getfield 25, 3, (1, 8, 8, 1)), none, none, some (.iload 4, 2, (0, 0, 0, 0)), none, some (.iconst 0, 1, (0, 0, 0, 0)), some (.iastore, 1, (0, 0, 0, 0)), some (.aload_n 0, 1, (0, 0, 0, 0)), some (.getfield 28, 3, (1, 8, 9, 1)), none, none, some (.iload 4, 2, (0, 0, 0, 0)), none, some (.iconst 0, 1, (0, 0, 0, 0)), some (.iastore, 1, (0, 0, 0, 0)), some (.aload_n 0, 1, (0, 0, 0, 0)), some (.getfield 31, 3, (1, 8, 10, 1)), none, none, some (.iload 4, 2, (0, 0, 0, 0)), none, some (.iconst (-1), 1, (0, 0, 0, 0)), some (.iastore, 1, (0, 0, 0, 0)), some (.iconst 0, 1, (0, 0, 0, 0)), some (.istore 5, 2, (0, 0, 0, 0)), none, some (.iload 5, 2, (0, 0, 0, 0)), none, some (.aload_n 0, 1, (0, 0, 0, 0)), some (.getfield 46, 3, (1, 8, 4, 0)), none, none, some (.if_icmp .ge 18, 3, (0, 0, 0, 0)), none, none, some (.aload_n 0, 1, (0, 0, 0, 0)), some (.iload 4, 2, (0, 0, 0, 0)), none, some (.iload 5, 2, (0, 0, 0, 0)), none, some (.iconst 0, 1, (0, 0, 0, 0)), some (.invokevirtual 63, 3, (8, 23, 3, 8)), none, none, some (.iinc 5 1, 3, (0, 0, 0, 0)), none, none, some (.goto (-21), 3, (0, 0, 0, 0)), none, none, some (.iload 4, 2, (0, 0, 0, 0)), none, some (.ireturn, 1, (0, 0, 0, 0))]
def q_22 : ak_Q := (yX8_welcome, cX8_welcome, 6, (some .int), k_22, 8)
set_option maxRecDepth 100000 in
def k_23 : List ak_I := [some (.aload_n 0, 1, (0, 0, 0, 0)), some (.iload_n 1, 1, (0, 0, 0, 0)), some (.invokevirtual 49, 3, (8, 16, 1, 8)), none, none, some (.ifCond .eq 11, 3, (0, 0, 0, 0)), none, none, some (.aload_n 0, 1, (0, 0, 0, 0)), some (.iload_n 2, 1, (0, 0, 0, 0)), some (.invokevirtual 49, 3, (8, 16, 1, 8)), none, none, some (.ifCond .ne 4, 3, (0, 0, 0, 0)), none, none, some (.return_, 1, (0, 0, 0, 0)), some (.aload_n 0, 1, (0, 0, 0, 0)), some (.getfield 34, 3, (1, 8, 11, 1)), none, none, some (.iload_n 1, 1, (0, 0, 0, 0)), some (.iload_n 3, 1, (0, 0, 0, 0)), some (.ifCond .eq 16, 3, (0, 0, 0, 0)), none, none, some (.aload_n 0, 1, (0, 0, 0, 0)), some (.getfield 34, 3, (1, 8, 11, 1)), none, none, some (.iload_n 1, 1, (0, 0, 0, 0)), some (.iaload, 1, (0, 0, 0, 0)), some (.iconst 1, 1, (0, 0, 0, 0)), some (.iload_n 2, 1, (0, 0, 0, 0)), some (.ishl, 1, (0, 0, 0, 0)), some (.ior, 1, (0, 0, 0, 0)), some (.goto 15, 3, (0, 0, 0, 0)), none, none, some (.aload_n 0, 1, (0, 0, 0, 0)), some (.getfield 34, 3, (1, 8, 11, 1)), none, none, some (.iload_n 1, 1, (0, 0, 0, 0)), some (.iaload, 1, (0, 0, 0, 0)), some (.iconst 1, 1, (0, 0, 0, 0)), some (.iload_n 2, 1, (0, 0, 0, 0)), some (.ishl, 1, (0, 0, 0, 0)), some (.iconst (-1), 1, (0, 0, 0, 0)), some (.ixor, 1, (0, 0, 0, 0)), some (.iand, 1, (0, 0, 0, 0)), some (.iastore, 1, (0, 0, 0, 0)), some (.aload_n 0, 1, (0, 0, 0, 0)), some (.getfield 34, 3, (1, 8, 11, 1)), none, none, some (.iload_n 2, 1, (0, 0, 0, 0)), some (.iload_n 3, 1, (0, 0, 0, 0)), some (.ifCond .eq 16, 3, (0, 0, 0, 0)), none, none, some (.aload_n 0, 1, (0, 0, 0, 0)), some (.getfield 34, 3, (1, 8, 11, 1)), none, none, some (.iload_n 2, 1, (0, 0, 0, 0)), some (.iaload, 1, (0, 0, 0, 0)), some (.iconst 1, 1, (0, 0, 0, 0)), some (.iload_n 1, 1, (0, 0, 0, 0)), some (.ishl, 1, (0, 0, 0, 0)), some (.ior, 1, (0, 0, 0, 0)), some (.goto 15, 3, (0, 0, 0, 0)), none, none, some (.aload_n 0, 1, (0, 0, 0, 0)), some (.getfield 34, 3, (1, 8, 11, 1)), none, none, some (.iload_n 2, 1, (0, 0, 0, 0)), some (.iaload, 1, (0, 0, 0, 0)), some (.iconst 1, 1, (0, 0, 0, 0)), some (.iload_n 1, 1, (0, 0, 0, 0)), some (.ishl, 1, (0, 0, 0, 0)), some (.iconst (-1), 1, (0, 0, 0, 0)), some (.ixor, 1, (0, 0, 0, 0)), some (.iand, 1, (0, 0, 0, 0)), some (.iastore, 1, (0, 0, 0, 0)), some (.return_, 1, (0, 0, 0, 0))]
def q_23 : ak_Q := (yX8_setApart, cX8_setApart, 4, none, k_23, 8)
set_option maxRecDepth 100000 in
def k_24 : List ak_I := [some (.aload_n 0, 1, (0, 0, 0, 0)), some (.getfield 12, 3, (1, 11, 0, 1)), none, none, some (.iload_n 1, 1, (0, 0, 0, 0)), some (.invokevirtual 70, 3, (8, 16, 1, 8)), none, none, some (.ifCond .eq 28, 3, (0, 0, 0, 0)), none, none, some (.aload_n 0, 1, (0, 0, 0, 0)), some (.getfield 12, 3, (1, 11, 0, 1)), none, none, some (.iload_n 2, 1, (0, 0, 0, 0)), some (.invokevirtual 70, 3, (8, 16, 1, 8)), none, none, some (.ifCond .eq 17, 3, (0, 0, 0, 0)), none, none, some (.iload_n 1, 1, (0, 0, 0, 0)), some (.iload_n 2, 1, (0, 0, 0, 0)), some (.if_icmp .eq 12, 3, (0, 0, 0, 0)), none, none, some (.iload_n 3, 1, (0, 0, 0, 0)), some (.ifCond .lt 8, 3, (0, 0, 0, 0)), none, none, some (.iload_n 3, 1, (0, 0, 0, 0)), some (.iconst 1, 1, (0, 0, 0, 0)), some (.if_icmp .le 6, 3, (0, 0, 0, 0)), none, none, some (.bipush (-2), 2, (0, 0, 0, 0)), none, some (.ireturn, 1, (0, 0, 0, 0)), some (.aload_n 0, 1, (0, 0, 0, 0)), some (.getfield 12, 3, (1, 11, 0, 1)), none, none, some (.getfield 74, 3, (1, 8, 11, 1)), none, none, some (.iload_n 1, 1, (0, 0, 0, 0)), some (.iaload, 1, (0, 0, 0, 0)), some (.iload_n 2, 1, (0, 0, 0, 0)), some (.ishr, 1, (0, 0, 0, 0)), some (.iconst 1, 1, (0, 0, 0, 0)), some (.iand, 1, (0, 0, 0, 0)), some (.istore 4, 2, (0, 0, 0, 0)), none, some (.aload_n 0, 1, (0, 0, 0, 0)), some (.getfield 12, 3, (1, 11, 0, 1)), none, none, some (.iload_n 1, 1, (0, 0, 0, 0)), some (.iload_n 2, 1, (0, 0, 0, 0)), some (.iload_n 3, 1, (0, 0, 0, 0)), some (.iconst 1, 1, (0, 0, 0, 0)), some (.if_icmp .ne 7, 3, (0, 0, 0, 0)), none, none, some (.iconst 1, 1, (0, 0, 0, 0)), some (.goto 4, 3, (0, 0, 0, 0)), none, none, some (.iconst 0, 1, (0, 0, 0, 0)), some (.invokevirtual 77, 3, (8, 23, 3, 8)), none, none, some (.iload 4, 2, (0, 0, 0, 0)), none, some (.ireturn, 1, (0, 0, 0, 0))]
def q_24 : ak_Q := (yX11_apart, cX11_apart, 5, (some .int), k_24, 11)
set_option maxRecDepth 100000 in
def k_25 : List ak_I := [some (.aload_n 0, 1, (0, 0, 0, 0)), some (.getfield 12, 3, (1, 11, 0, 1)), none, none, some (.iload_n 1, 1, (0, 0, 0, 0)), some (.invokevirtual 70, 3, (8, 16, 1, 8)), none, none, some (.ifCond .eq 15, 3, (0, 0, 0, 0)), none, none, some (.iload_n 2, 1, (0, 0, 0, 0)), some (.iconst (-1), 1, (0, 0, 0, 0)), some (.if_icmp .eq 13, 3, (0, 0, 0, 0)), none, none, some (.iload_n 2, 1, (0, 0, 0, 0)), some (.invokestatic 81, 3, (11, 26, 1, 0)), none, none, some (.ifCond .ne 6, 3, (0, 0, 0, 0)), none, none, some (.bipush (-2), 2, (0, 0, 0, 0)), none, some (.ireturn, 1, (0, 0, 0, 0)), some (.aload_n 0, 1, (0, 0, 0, 0)), some (.getfield 31, 3, (1, 11, 6, 1)), none, none, some (.aload_n 0, 1, (0, 0, 0, 0)), some (.getfield 12, 3, (1, 11, 0, 1)), none, none, some (.iload_n 1, 1, (0, 0, 0, 0)), some (.iload_n 2, 1, (0, 0, 0, 0)), some (.invokevirtual 84, 3, (8, 27, 3, 6)), none, none, some (.ifCond .ne 6, 3, (0, 0, 0, 0)), none, none, some (.bipush (-3), 2, (0, 0, 0, 0)), none, some (.ireturn, 1, (0, 0, 0, 0)), some (.aload_n 0, 1, (0, 0, 0, 0)), some (.getfield 12, 3, (1, 11, 0, 1)), none, none, some (.getfield 88, 3, (1, 8, 10, 1)), none, none, some (.iload_n 1, 1, (0, 0, 0, 0)), some (.iaload, 1, (0, 0, 0, 0)), some (.istore_n 3, 1, (0, 0, 0, 0)), some (.aload_n 0, 1, (0, 0, 0, 0)), some (.getfield 12, 3, (1, 11, 0, 1)), none, none, some (.getfield 88, 3, (1, 8, 10, 1)), none, none, some (.iload_n 1, 1, (0, 0, 0, 0)), some (.iload_n 2, 1, (0, 0, 0, 0)), some (.iastore, 1, (0, 0, 0, 0)), some (.iload_n 3, 1, (0, 0, 0, 0)), some (.ireturn, 1, (0, 0, 0, 0))]
def q_25 : ak_Q := (yX11_book, cX11_book, 4, (some .int), k_25, 11)
set_option maxRecDepth 100000 in
def k_26 : List ak_I := [some (.iload_n 0, 1, (0, 0, 0, 0)), some (.ifCond .lt 13, 3, (0, 0, 0, 0)), none, none, some (.iload_n 0, 1, (0, 0, 0, 0)), some (.bipush 8, 2, (0, 0, 0, 0)), none, some (.if_icmp .ge 7, 3, (0, 0, 0, 0)), none, none, some (.iconst 1, 1, (0, 0, 0, 0)), some (.goto 4, 3, (0, 0, 0, 0)), none, none, some (.iconst 0, 1, (0, 0, 0, 0)), some (.ireturn, 1, (0, 0, 0, 0))]
def q_26 : ak_Q := (yX11_isWeek, cX11_isWeek, 1, (some .boolean), k_26, 11)
set_option maxRecDepth 100000 in
def k_27 : List ak_I := [some (.aload_n 1, 1, (0, 0, 0, 0)), some (.iload_n 2, 1, (0, 0, 0, 0)), some (.iload_n 3, 1, (0, 0, 0, 0)), some (.invokevirtual 121, 3, (8, 28, 2, 8)), none, none, some (.istore 4, 2, (0, 0, 0, 0)), none, some (.iconst 0, 1, (0, 0, 0, 0)), some (.istore 5, 2, (0, 0, 0, 0)), none, some (.iload 5, 2, (0, 0, 0, 0)), none, some (.bipush 8, 2, (0, 0, 0, 0)), none, some (.if_icmp .ge 32, 3, (0, 0, 0, 0)), none, none, some (.iload 4, 2, (0, 0, 0, 0)), none, some (.iload 5, 2, (0, 0, 0, 0)), none, some (.ishr, 1, (0, 0, 0, 0)), some (.iconst 1, 1, (0, 0, 0, 0)), some (.iand, 1, (0, 0, 0, 0)), some (.ifCond .eq 16, 3, (0, 0, 0, 0)), none, none, some (.aload_n 0, 1, (0, 0, 0, 0)), some (.aload_n 1, 1, (0, 0, 0, 0)), some (.iload_n 2, 1, (0, 0, 0, 0)), some (.iload 5, 2, (0, 0, 0, 0)), none, some (.invokevirtual 127, 3, (8, 29, 3, 6)), none, none, some (.ifCond .ne 5, 3, (0, 0, 0, 0)), none, none, some (.iconst 0, 1, (0, 0, 0, 0)), some (.ireturn, 1, (0, 0, 0, 0)), some (.iinc 5 1, 3, (0, 0, 0, 0)), none, none, some (.goto (-33), 3, (0, 0, 0, 0)), none, none, some (.iconst 1, 1, (0, 0, 0, 0)), some (.ireturn, 1, (0, 0, 0, 0))]
def q_27 : ak_Q := (yX6_canBe, cX6_canBe, 6, (some .boolean), k_27, 6)
set_option maxRecDepth 100000 in
def k_28 : List ak_I := [some (.aload_n 0, 1, (0, 0, 0, 0)), some (.iload_n 1, 1, (0, 0, 0, 0)), some (.invokevirtual 49, 3, (8, 16, 1, 8)), none, none, some (.ifCond .eq 10, 3, (0, 0, 0, 0)), none, none, some (.iload_n 2, 1, (0, 0, 0, 0)), some (.invokestatic 67, 3, (12, 26, 1, 0)), none, none, some (.ifCond .ne 5, 3, (0, 0, 0, 0)), none, none, some (.iconst 0, 1, (0, 0, 0, 0)), some (.ireturn, 1, (0, 0, 0, 0)), some (.iconst 1, 1, (0, 0, 0, 0)), some (.aload_n 0, 1, (0, 0, 0, 0)), some (.getfield 22, 3, (1, 8, 7, 1)), none, none, some (.iload_n 1, 1, (0, 0, 0, 0)), some (.iaload, 1, (0, 0, 0, 0)), some (.ishl, 1, (0, 0, 0, 0)), some (.iconst 1, 1, (0, 0, 0, 0)), some (.isub, 1, (0, 0, 0, 0)), some (.iload_n 2, 1, (0, 0, 0, 0)), some (.ishl, 1, (0, 0, 0, 0)), some (.sipush 255, 3, (0, 0, 0, 0)), none, none, some (.iand, 1, (0, 0, 0, 0)), some (.ireturn, 1, (0, 0, 0, 0))]
def q_28 : ak_Q := (yX8_weeksFrom, cX8_weeksFrom, 3, (some .int), k_28, 8)
set_option maxRecDepth 100000 in
def k_29 : List ak_I := [some (.aload_n 0, 1, (0, 0, 0, 0)), some (.aload_n 1, 1, (0, 0, 0, 0)), some (.iload_n 2, 1, (0, 0, 0, 0)), some (.iload_n 3, 1, (0, 0, 0, 0)), some (.invokevirtual 64, 3, (8, 30, 3, 6)), none, none, some (.aload_n 0, 1, (0, 0, 0, 0)), some (.aload_n 1, 1, (0, 0, 0, 0)), some (.getfield 68, 3, (1, 8, 3, 0)), none, none, some (.invokevirtual 73, 3, (8, 34, 1, 6)), none, none, some (.iconst 2, 1, (0, 0, 0, 0)), some (.aload_n 0, 1, (0, 0, 0, 0)), some (.getfield 43, 3, (1, 6, 3, 1)), none, none, some (.aload_n 0, 1, (0, 0, 0, 0)), some (.getfield 47, 3, (1, 6, 4, 1)), none, none, some (.invokevirtual 77, 3, (8, 35, 3, 10)), none, none, some (.ifCond .eq 7, 3, (0, 0, 0, 0)), none, none, some (.iconst 1, 1, (0, 0, 0, 0)), some (.goto 4, 3, (0, 0, 0, 0)), none, none, some (.iconst 0, 1, (0, 0, 0, 0)), some (.istore 4, 2, (0, 0, 0, 0)), none, some (.aload_n 0, 1, (0, 0, 0, 0)), some (.aload_n 1, 1, (0, 0, 0, 0)), some (.getfield 90, 3, (1, 8, 5, 1)), none, none, some (.iload_n 2, 1, (0, 0, 0, 0)), some (.iaload, 1, (0, 0, 0, 0)), some (.invokevirtual 60, 3, (8, 39, 1, 6)), none, none, some (.iload_n 3, 1, (0, 0, 0, 0)), some (.iload 4, 2, (0, 0, 0, 0)), none, some (.aload_n 1, 1, (0, 0, 0, 0)), some (.getfield 96, 3, (1, 8, 6, 1)), none, none, some (.iload_n 2, 1, (0, 0, 0, 0)), some (.iaload, 1, (0, 0, 0, 0)), some (.invokevirtual 103, 3, (10, 2, 3, 0)), none, none, some (.ireturn, 1, (0, 0, 0, 0))]
def q_29 : ak_Q := (yX6_wants, cX6_wants, 5, (some .boolean), k_29, 6)
set_option maxRecDepth 100000 in
def k_30 : List ak_I := [some (.aload_n 0, 1, (0, 0, 0, 0)), some (.aload_n 1, 1, (0, 0, 0, 0)), some (.iload_n 2, 1, (0, 0, 0, 0)), some (.invokevirtual 111, 3, (8, 31, 2, 6)), none, none, some (.aload_n 0, 1, (0, 0, 0, 0)), some (.getfield 43, 3, (1, 6, 3, 1)), none, none, some (.iconst 0, 1, (0, 0, 0, 0)), some (.iload_n 3, 1, (0, 0, 0, 0)), some (.iastore, 1, (0, 0, 0, 0)), some (.aload_n 0, 1, (0, 0, 0, 0)), some (.getfield 43, 3, (1, 6, 3, 1)), none, none, some (.iconst 1, 1, (0, 0, 0, 0)), some (.aload_n 1, 1, (0, 0, 0, 0)), some (.iload_n 2, 1, (0, 0, 0, 0)), some (.iload_n 3, 1, (0, 0, 0, 0)), some (.invokevirtual 92, 3, (8, 32, 2, 8)), none, none, some (.ifCond .eq 7, 3, (0, 0, 0, 0)), none, none, some (.iconst 1, 1, (0, 0, 0, 0)), some (.goto 4, 3, (0, 0, 0, 0)), none, none, some (.iconst 0, 1, (0, 0, 0, 0)), some (.iastore, 1, (0, 0, 0, 0)), some (.aload_n 0, 1, (0, 0, 0, 0)), some (.getfield 43, 3, (1, 6, 3, 1)), none, none, some (.iconst 5, 1, (0, 0, 0, 0)), some (.aload_n 1, 1, (0, 0, 0, 0)), some (.iload_n 2, 1, (0, 0, 0, 0)), some (.iload_n 3, 1, (0, 0, 0, 0)), some (.invokevirtual 130, 3, (8, 33, 2, 8)), none, none, some (.iastore, 1, (0, 0, 0, 0)), some (.return_, 1, (0, 0, 0, 0))]
def q_30 : ak_Q := (yX6_nameWeek, cX6_nameWeek, 4, none, k_30, 6)
set_option maxRecDepth 100000 in
def k_31 : List ak_I := [some (.aload_n 0, 1, (0, 0, 0, 0)), some (.getfield 43, 3, (1, 6, 3, 1)), none, none, some (.iconst 0, 1, (0, 0, 0, 0)), some (.iconst 0, 1, (0, 0, 0, 0)), some (.iastore, 1, (0, 0, 0, 0)), some (.aload_n 0, 1, (0, 0, 0, 0)), some (.getfield 43, 3, (1, 6, 3, 1)), none, none, some (.iconst 1, 1, (0, 0, 0, 0)), some (.iconst 0, 1, (0, 0, 0, 0)), some (.iastore, 1, (0, 0, 0, 0)), some (.aload_n 0, 1, (0, 0, 0, 0)), some (.getfield 43, 3, (1, 6, 3, 1)), none, none, some (.iconst 2, 1, (0, 0, 0, 0)), some (.aload_n 1, 1, (0, 0, 0, 0)), some (.getfield 96, 3, (1, 8, 6, 1)), none, none, some (.iload_n 2, 1, (0, 0, 0, 0)), some (.iaload, 1, (0, 0, 0, 0)), some (.iastore, 1, (0, 0, 0, 0)), some (.aload_n 0, 1, (0, 0, 0, 0)), some (.getfield 43, 3, (1, 6, 3, 1)), none, none, some (.iconst 3, 1, (0, 0, 0, 0)), some (.aload_n 1, 1, (0, 0, 0, 0)), some (.getfield 133, 3, (1, 8, 7, 1)), none, none, some (.iload_n 2, 1, (0, 0, 0, 0)), some (.iaload, 1, (0, 0, 0, 0)), some (.iastore, 1, (0, 0, 0, 0)), some (.aload_n 0, 1, (0, 0, 0, 0)), some (.getfield 43, 3, (1, 6, 3, 1)), none, none, some (.iconst 4, 1, (0, 0, 0, 0)), some (.aload_n 1, 1, (0, 0, 0, 0)), some (.getfield 136, 3, (1, 8, 9, 1)), none, none, some (.iload_n 2, 1, (0, 0, 0, 0)), some (.iaload, 1, (0, 0, 0, 0)), some (.iastore, 1, (0, 0, 0, 0)), some (.aload_n 0, 1, (0, 0, 0, 0)), some (.getfield 43, 3, (1, 6, 3, 1)), none, none, some (.iconst 5, 1, (0, 0, 0, 0)), some (.iconst 0, 1, (0, 0, 0, 0)), some (.iastore, 1, (0, 0, 0, 0)), some (.return_, 1, (0, 0, 0, 0))]
def q_31 : ak_Q := (yX6_nameOne, cX6_nameOne, 3, none, k_31, 6)
set_option maxRecDepth 100000 in
def k_32 : List ak_I := [some (.aload_n 0, 1, (0, 0, 0, 0)), some (.getfield 25, 3, (1, 8, 8, 1)), none, none, some (.iload_n 1, 1, (0, 0, 0, 0)), some (.iaload, 1, (0, 0, 0, 0)), some (.iload_n 2, 1, (0, 0, 0, 0)), some (.ishr, 1, (0, 0, 0, 0)), some (.iconst 1, 1, (0, 0, 0, 0)), some (.iand, 1, (0, 0, 0, 0)), some (.ifCond .eq 7, 3, (0, 0, 0, 0)), none, none, some (.iconst 1, 1, (0, 0, 0, 0)), some (.goto 4, 3, (0, 0, 0, 0)), none, none, some (.iconst 0, 1, (0, 0, 0, 0)), some (.ireturn, 1, (0, 0, 0, 0))]
def q_32 : ak_Q := (yX8_wishesFor, cX8_wishesFor, 3, (some .boolean), k_32, 8)
set_option maxRecDepth 100000 in
def k_33 : List ak_I := [some (.iconst 0, 1, (0, 0, 0, 0)), some (.istore_n 3, 1, (0, 0, 0, 0)), some (.iconst 0, 1, (0, 0, 0, 0)), some (.istore 4, 2, (0, 0, 0, 0)), none, some (.iload 4, 2, (0, 0, 0, 0)), none, some (.aload_n 0, 1, (0, 0, 0, 0)), some (.getfield 46, 3, (1, 8, 4, 0)), none, none, some (.if_icmp .ge 29, 3, (0, 0, 0, 0)), none, none, some (.iload 4, 2, (0, 0, 0, 0)), none, some (.iload_n 1, 1, (0, 0, 0, 0)), some (.if_icmp .eq 17, 3, (0, 0, 0, 0)), none, none, some (.iload_n 3, 1, (0, 0, 0, 0)), some (.aload_n 0, 1, (0, 0, 0, 0)), some (.getfield 25, 3, (1, 8, 8, 1)), none, none, some (.iload 4, 2, (0, 0, 0, 0)), none, some (.iaload, 1, (0, 0, 0, 0)), some (.iload_n 2, 1, (0, 0, 0, 0)), some (.ishr, 1, (0, 0, 0, 0)), some (.iconst 1, 1, (0, 0, 0, 0)), some (.iand, 1, (0, 0, 0, 0)), some (.iadd, 1, (0, 0, 0, 0)), some (.istore_n 3, 1, (0, 0, 0, 0)), some (.iinc 4 1, 3, (0, 0, 0, 0)), none, none, some (.goto (-32), 3, (0, 0, 0, 0)), none, none, some (.iload_n 3, 1, (0, 0, 0, 0)), some (.ireturn, 1, (0, 0, 0, 0))]
def q_33 : ak_Q := (yX8_othersWishing, cX8_othersWishing, 5, (some .int), k_33, 8)
set_option maxRecDepth 100000 in
def k_34 : List ak_I := [some (.aload_n 0, 1, (0, 0, 0, 0)), some (.getfield 17, 3, (1, 6, 1, 1)), none, none, some (.iload_n 1, 1, (0, 0, 0, 0)), some (.ifCond .lt 13, 3, (0, 0, 0, 0)), none, none, some (.iload_n 1, 1, (0, 0, 0, 0)), some (.bipush 6, 2, (0, 0, 0, 0)), none, some (.if_icmp .ge 7, 3, (0, 0, 0, 0)), none, none, some (.iload_n 1, 1, (0, 0, 0, 0)), some (.goto 4, 3, (0, 0, 0, 0)), none, none, some (.iconst 0, 1, (0, 0, 0, 0)), some (.aaload, 1, (0, 0, 0, 0)), some (.areturn, 1, (0, 0, 0, 0))]
def q_34 : ak_Q := (yX6_textAt, cX6_textAt, 2, (some (.object "NotBothInAugust$Text")), k_34, 6)
set_option maxRecDepth 100000 in
def k_35 : List ak_I := [some (.iload_n 1, 1, (0, 0, 0, 0)), some (.ifCond .lt 11, 3, (0, 0, 0, 0)), none, none, some (.iload_n 1, 1, (0, 0, 0, 0)), some (.aload_n 0, 1, (0, 0, 0, 0)), some (.getfield 29, 3, (1, 10, 3, 0)), none, none, some (.if_icmp .lt 5, 3, (0, 0, 0, 0)), none, none, some (.iconst 0, 1, (0, 0, 0, 0)), some (.ireturn, 1, (0, 0, 0, 0)), some (.iconst 0, 1, (0, 0, 0, 0)), some (.istore 4, 2, (0, 0, 0, 0)), none, some (.aload_n 0, 1, (0, 0, 0, 0)), some (.getfield 15, 3, (1, 10, 1, 1)), none, none, some (.iload_n 1, 1, (0, 0, 0, 0)), some (.iaload, 1, (0, 0, 0, 0)), some (.aload_n 0, 1, (0, 0, 0, 0)), some (.getfield 9, 3, (1, 10, 0, 1)), none, none, some (.arraylength, 1, (0, 0, 0, 0)), some (.invokestatic 32, 3, (19, 0, 0, 0)), none, none, some (.istore 5, 2, (0, 0, 0, 0)), none, some (.iload_n 1, 1, (0, 0, 0, 0)), some (.ifCond .le 14, 3, (0, 0, 0, 0)), none, none, some (.aload_n 0, 1, (0, 0, 0, 0)), some (.getfield 15, 3, (1, 10, 1, 1)), none, none, some (.iload_n 1, 1, (0, 0, 0, 0)), some (.iconst 1, 1, (0, 0, 0, 0)), some (.isub, 1, (0, 0, 0, 0)), some (.iaload, 1, (0, 0, 0, 0)), some (.goto 4, 3, (0, 0, 0, 0)), none, none, some (.iconst 0, 1, (0, 0, 0, 0)), some (.istore 6, 2, (0, 0, 0, 0)), none, some (.iload 6, 2, (0, 0, 0, 0)), none, some (.iload 5, 2, (0, 0, 0, 0)), none, some (.if_icmp .ge 111, 3, (0, 0, 0, 0)), none, none, some (.aload_n 0, 1, (0, 0, 0, 0)), some (.getfield 9, 3, (1, 10, 0, 1)), none, none, some (.iload 6, 2, (0, 0, 0, 0)), none, some (.iaload, 1, (0, 0, 0, 0)), some (.istore 7, 2, (0, 0, 0, 0)), none, some (.iload 7, 2, (0, 0, 0, 0)), none, some (.bipush (-7), 2, (0, 0, 0, 0)), none, some (.if_icmp .le 26, 3, (0, 0, 0, 0)), none, none, some (.iload 4, 2, (0, 0, 0, 0)), none, some (.aload_n 3, 1, (0, 0, 0, 0)), some (.arraylength, 1, (0, 0, 0, 0)), some (.if_icmp .ge 82, 3, (0, 0, 0, 0)), none, none, some (.aload_n 3, 1, (0, 0, 0, 0)), some (.iload 4, 2, (0, 0, 0, 0)), none, some (.iload 7, 2, (0, 0, 0, 0)), none, some (.aload_n 2, 1, (0, 0, 0, 0)), some (.invokestatic 38, 3, (11, 36, 2, 0)), none, none, some (.iastore, 1, (0, 0, 0, 0)), some (.iinc 4 1, 3, (0, 0, 0, 0)), none, none, some (.goto 66, 3, (0, 0, 0, 0)), none, none, some (.iload 7, 2, (0, 0, 0, 0)), none, some (.bipush (-8), 2, (0, 0, 0, 0)), none, some (.if_icmp .lt 29, 3, (0, 0, 0, 0)), none, none, some (.iload 4, 2, (0, 0, 0, 0)), none, some (.iconst 1, 1, (0, 0, 0, 0)), some (.if_icmp .lt 53, 3, (0, 0, 0, 0)), none, none, some (.aload_n 3, 1, (0, 0, 0, 0)), some (.iload 4, 2, (0, 0, 0, 0)), none, some (.iconst 1, 1, (0, 0, 0, 0)), some (.isub, 1, (0, 0, 0, 0)), some (.iload 7, 2, (0, 0, 0, 0)), none, some (.aload_n 3, 1, (0, 0, 0, 0)), some (.iload 4, 2, (0, 0, 0, 0)), none, some (.iconst 1, 1, (0, 0, 0, 0)), some (.isub, 1, (0, 0, 0, 0)), some (.iaload, 1, (0, 0, 0, 0)), some (.invokestatic 42, 3, (11, 37, 2, 0)), none, none, some (.iastore, 1, (0, 0, 0, 0)), some (.goto 33, 3, (0, 0, 0, 0)), none, none, some (.iload 4, 2, (0, 0, 0, 0)), none, some (.iconst 2, 1, (0, 0, 0, 0)), some (.if_icmp .lt 27, 3, (0, 0, 0, 0)), none, none, some (.iinc 4 (-1), 3, (0, 0, 0, 0)), none, none, some (.aload_n 3, 1, (0, 0, 0, 0)), some (.iload 4, 2, (0, 0, 0, 0)), none, some (.iconst 1, 1, (0, 0, 0, 0)), some (.isub, 1, (0, 0, 0, 0)), some (.iload 7, 2, (0, 0, 0, 0)), none, some (.aload_n 3, 1, (0, 0, 0, 0)), some (.iload 4, 2, (0, 0, 0, 0)), none, some (.iconst 1, 1, (0, 0, 0, 0)), some (.isub, 1, (0, 0, 0, 0)), some (.iaload, 1, (0, 0, 0, 0)), some (.aload_n 3, 1, (0, 0, 0, 0)), some (.iload 4, 2, (0, 0, 0, 0)), none, some (.iaload, 1, (0, 0, 0, 0)), some (.invokestatic 45, 3, (11, 38, 3, 0)), none, none, some (.iastore, 1, (0, 0, 0, 0)), some (.iinc 6 1, 3, (0, 0, 0, 0)), none, none, some (.goto (-112), 3, (0, 0, 0, 0)), none, none, some (.iload 4, 2, (0, 0, 0, 0)), none, some (.ifCond .le 9, 3, (0, 0, 0, 0)), none, none, some (.aload_n 3, 1, (0, 0, 0, 0)), some (.iconst 0, 1, (0, 0, 0, 0)), some (.iaload, 1, (0, 0, 0, 0)), some (.goto 4, 3, (0, 0, 0, 0)), none, none, some (.iconst 0, 1, (0, 0, 0, 0)), some (.ireturn, 1, (0, 0, 0, 0))]
def q_35 : ak_Q := (yX10_value, cX10_value, 8, (some .int), k_35, 10)
set_option maxRecDepth 100000 in
def k_36 : List ak_I := [some (.iload_n 0, 1, (0, 0, 0, 0)), some (.ifCond .lt 5, 3, (0, 0, 0, 0)), none, none, some (.iload_n 0, 1, (0, 0, 0, 0)), some (.ireturn, 1, (0, 0, 0, 0)), some (.iconst (-1), 1, (0, 0, 0, 0)), some (.iload_n 0, 1, (0, 0, 0, 0)), some (.isub, 1, (0, 0, 0, 0)), some (.istore_n 2, 1, (0, 0, 0, 0)), some (.iload_n 2, 1, (0, 0, 0, 0)), some (.aload_n 1, 1, (0, 0, 0, 0)), some (.arraylength, 1, (0, 0, 0, 0)), some (.if_icmp .ge 9, 3, (0, 0, 0, 0)), none, none, some (.aload_n 1, 1, (0, 0, 0, 0)), some (.iload_n 2, 1, (0, 0, 0, 0)), some (.iaload, 1, (0, 0, 0, 0)), some (.goto 4, 3, (0, 0, 0, 0)), none, none, some (.iconst 0, 1, (0, 0, 0, 0)), some (.ireturn, 1, (0, 0, 0, 0))]
def q_36 : ak_Q := (yX10_operand, cX10_operand, 3, (some .int), k_36, 10)
set_option maxRecDepth 100000 in
def k_37 : List ak_I := [some (.iload_n 0, 1, (0, 0, 0, 0)), some (.bipush (-7), 2, (0, 0, 0, 0)), none, some (.if_icmp .ne 6, 3, (0, 0, 0, 0)), none, none, some (.iload_n 1, 1, (0, 0, 0, 0)), some (.ineg, 1, (0, 0, 0, 0)), some (.ireturn, 1, (0, 0, 0, 0)), some (.iload_n 1, 1, (0, 0, 0, 0)), some (.ifCond .ne 7, 3, (0, 0, 0, 0)), none, none, some (.iconst 1, 1, (0, 0, 0, 0)), some (.goto 4, 3, (0, 0, 0, 0)), none, none, some (.iconst 0, 1, (0, 0, 0, 0)), some (.ireturn, 1, (0, 0, 0, 0))]
def q_37 : ak_Q := (yX10_turned, cX10_turned, 2, (some .int), k_37, 10)
set_option maxRecDepth 100000 in
def k_38 : List ak_I := [some (.iload_n 0, 1, (0, 0, 0, 0)), some (.tableswitch 87 (-14) (-9) #[73, 62, 51, 47, 43, 39], 39, (0, 0, 0, 0)), none, none, none, none, none, none, none, none, none, none, none, none, none, none, none, none, none, none, none, none, none, none, none, none, none, none, none, none, none, none, none, none, none, none, none, none, none, none, some (.iload_n 1, 1, (0, 0, 0, 0)), some (.iload_n 2, 1, (0, 0, 0, 0)), some (.iadd, 1, (0, 0, 0, 0)), some (.ireturn, 1, (0, 0, 0, 0)), some (.iload_n 1, 1, (0, 0, 0, 0)), some (.iload_n 2, 1, (0, 0, 0, 0)), some (.isub, 1, (0, 0, 0, 0)), some (.ireturn, 1, (0, 0, 0, 0)), some (.iload_n 1, 1, (0, 0, 0, 0)), some (.iload_n 2, 1, (0, 0, 0, 0)), some (.imul, 1, (0, 0, 0, 0)), some (.ireturn, 1, (0, 0, 0, 0)), some (.iload_n 1, 1, (0, 0, 0, 0)), some (.iload_n 2, 1, (0, 0, 0, 0)), some (.if_icmp .ge 7, 3, (0, 0, 0, 0)), none, none, some (.iconst 1, 1, (0, 0, 0, 0)), some (.goto 4, 3, (0, 0, 0, 0)), none, none, some (.iconst 0, 1, (0, 0, 0, 0)), some (.ireturn, 1, (0, 0, 0, 0)), some (.iload_n 1, 1, (0, 0, 0, 0)), some (.iload_n 2, 1, (0, 0, 0, 0)), some (.if_icmp .ne 7, 3, (0, 0, 0, 0)), none, none, some (.iconst 1, 1, (0, 0, 0, 0)), some (.goto 4, 3, (0, 0, 0, 0)), none, none, some (.iconst 0, 1, (0, 0, 0, 0)), some (.ireturn, 1, (0, 0, 0, 0)), some (.iload_n 1, 1, (0, 0, 0, 0)), some (.ifCond .eq 11, 3, (0, 0, 0, 0)), none, none, some (.iload_n 2, 1, (0, 0, 0, 0)), some (.ifCond .eq 7, 3, (0, 0, 0, 0)), none, none, some (.iconst 1, 1, (0, 0, 0, 0)), some (.goto 4, 3, (0, 0, 0, 0)), none, none, some (.iconst 0, 1, (0, 0, 0, 0)), some (.ireturn, 1, (0, 0, 0, 0)), some (.iload_n 1, 1, (0, 0, 0, 0)), some (.ifCond .ne 7, 3, (0, 0, 0, 0)), none, none, some (.iload_n 2, 1, (0, 0, 0, 0)), some (.ifCond .eq 7, 3, (0, 0, 0, 0)), none, none, some (.iconst 1, 1, (0, 0, 0, 0)), some (.goto 4, 3, (0, 0, 0, 0)), none, none, some (.iconst 0, 1, (0, 0, 0, 0)), some (.ireturn, 1, (0, 0, 0, 0))]
def q_38 : ak_Q := (yX10_joined, cX10_joined, 3, (some .int), k_38, 10)
set_option maxRecDepth 100000 in
def k_39 : List ak_I := [some (.aload_n 0, 1, (0, 0, 0, 0)), some (.getfield 39, 3, (1, 6, 2, 1)), none, none, some (.iload_n 1, 1, (0, 0, 0, 0)), some (.ifCond .lt 16, 3, (0, 0, 0, 0)), none, none, some (.iload_n 1, 1, (0, 0, 0, 0)), some (.aload_n 0, 1, (0, 0, 0, 0)), some (.getfield 39, 3, (1, 6, 2, 1)), none, none, some (.arraylength, 1, (0, 0, 0, 0)), some (.if_icmp .ge 7, 3, (0, 0, 0, 0)), none, none, some (.iload_n 1, 1, (0, 0, 0, 0)), some (.goto 4, 3, (0, 0, 0, 0)), none, none, some (.iconst 0, 1, (0, 0, 0, 0)), some (.aaload, 1, (0, 0, 0, 0)), some (.areturn, 1, (0, 0, 0, 0))]
def q_39 : ak_Q := (yX6_kindAt, cX6_kindAt, 2, (some (.object "NotBothInAugust$Clerk")), k_39, 6)
set_option maxRecDepth 100000 in
def k_40 : List ak_I := [some (.iload_n 2, 1, (0, 0, 0, 0)), some (.ifCond .eq 13, 3, (0, 0, 0, 0)), none, none, some (.iload_n 1, 1, (0, 0, 0, 0)), some (.iconst 2, 1, (0, 0, 0, 0)), some (.irem, 1, (0, 0, 0, 0)), some (.ifCond .ne 7, 3, (0, 0, 0, 0)), none, none, some (.iconst 1, 1, (0, 0, 0, 0)), some (.goto 4, 3, (0, 0, 0, 0)), none, none, some (.iconst 0, 1, (0, 0, 0, 0)), some (.ireturn, 1, (0, 0, 0, 0))]
def q_40 : ak_Q := (yX0_wants, cX0_wants, 4, (some .boolean), k_40, 0)
set_option maxRecDepth 100000 in
def k_41 : List ak_I := [some (.iconst 1, 1, (0, 0, 0, 0)), some (.ireturn, 1, (0, 0, 0, 0))]
def q_41 : ak_Q := (yX1_wants, cX1_wants, 4, (some .boolean), k_41, 1)
set_option maxRecDepth 100000 in
def k_42 : List ak_I := [some (.aload_n 0, 1, (0, 0, 0, 0)), some (.iload_n 1, 1, (0, 0, 0, 0)), some (.iload_n 2, 1, (0, 0, 0, 0)), some (.iload_n 3, 1, (0, 0, 0, 0)), some (.invokespecial 13, 3, (18, 45, 3, 0)), none, none, some (.ifCond .ne 11, 3, (0, 0, 0, 0)), none, none, some (.iload_n 1, 1, (0, 0, 0, 0)), some (.iload_n 3, 1, (0, 0, 0, 0)), some (.bipush 8, 2, (0, 0, 0, 0)), none, some (.irem, 1, (0, 0, 0, 0)), some (.if_icmp .ne 7, 3, (0, 0, 0, 0)), none, none, some (.iconst 1, 1, (0, 0, 0, 0)), some (.goto 4, 3, (0, 0, 0, 0)), none, none, some (.iconst 0, 1, (0, 0, 0, 0)), some (.ireturn, 1, (0, 0, 0, 0))]
def q_42 : ak_Q := (yX2_wants, cX2_wants, 4, (some .boolean), k_42, 2)
set_option maxRecDepth 100000 in
def k_43 : List ak_I := [some (.iload_n 1, 1, (0, 0, 0, 0)), some (.invokestatic 11, 3, (13, 44, 1, 0)), none, none, some (.ifCond .ne 11, 3, (0, 0, 0, 0)), none, none, some (.iload_n 2, 1, (0, 0, 0, 0)), some (.ifCond .eq 7, 3, (0, 0, 0, 0)), none, none, some (.iconst 1, 1, (0, 0, 0, 0)), some (.goto 4, 3, (0, 0, 0, 0)), none, none, some (.iconst 0, 1, (0, 0, 0, 0)), some (.ireturn, 1, (0, 0, 0, 0))]
def q_43 : ak_Q := (yX9_wants, cX9_wants, 4, (some .boolean), k_43, 9)
set_option maxRecDepth 100000 in
def k_44 : List ak_I := [some (.iload_n 0, 1, (0, 0, 0, 0)), some (.iconst 3, 1, (0, 0, 0, 0)), some (.if_icmp .lt 12, 3, (0, 0, 0, 0)), none, none, some (.iload_n 0, 1, (0, 0, 0, 0)), some (.iconst 5, 1, (0, 0, 0, 0)), some (.if_icmp .gt 7, 3, (0, 0, 0, 0)), none, none, some (.iconst 1, 1, (0, 0, 0, 0)), some (.goto 4, 3, (0, 0, 0, 0)), none, none, some (.iconst 0, 1, (0, 0, 0, 0)), some (.ireturn, 1, (0, 0, 0, 0))]
def q_44 : ak_Q := (yX3_isSummer, cX3_isSummer, 1, (some .boolean), k_44, 3)
set_option maxRecDepth 100000 in
def k_45 : List ak_I := [some (.iload_n 2, 1, (0, 0, 0, 0)), some (.ireturn, 1, (0, 0, 0, 0))]
def q_45 : ak_Q := (yX3_wants, cX3_wants, 4, (some .boolean), k_45, 3)
set_option maxRecDepth 100000 in
def k_46 : List ak_I := [some (.iload_n 2, 1, (0, 0, 0, 0)), some (.bipush 6, 2, (0, 0, 0, 0)), none, some (.if_icmp .gt 31, 3, (0, 0, 0, 0)), none, none, some (.aload_n 0, 1, (0, 0, 0, 0)), some (.getfield 12, 3, (1, 11, 0, 1)), none, none, some (.iload_n 2, 1, (0, 0, 0, 0)), some (.iload_n 1, 1, (0, 0, 0, 0)), some (.invokevirtual 51, 3, (8, 15, 2, 8)), none, none, some (.ifCond .eq 15, 3, (0, 0, 0, 0)), none, none, some (.aload_n 0, 1, (0, 0, 0, 0)), some (.getfield 12, 3, (1, 11, 0, 1)), none, none, some (.iload_n 2, 1, (0, 0, 0, 0)), some (.iload_n 1, 1, (0, 0, 0, 0)), some (.invokevirtual 58, 3, (8, 18, 2, 8)), none, none, some (.goto 6, 3, (0, 0, 0, 0)), none, none, some (.sipush (-1000), 3, (0, 0, 0, 0)), none, none, some (.ireturn, 1, (0, 0, 0, 0)), some (.aload_n 0, 1, (0, 0, 0, 0)), some (.getfield 12, 3, (1, 11, 0, 1)), none, none, some (.iload_n 1, 1, (0, 0, 0, 0)), some (.invokevirtual 70, 3, (8, 16, 1, 8)), none, none, some (.ifCond .ne 7, 3, (0, 0, 0, 0)), none, none, some (.sipush (-1000), 3, (0, 0, 0, 0)), none, none, some (.ireturn, 1, (0, 0, 0, 0)), some (.iload_n 2, 1, (0, 0, 0, 0)), some (.tableswitch 76 7 10 #[30, 40, 50, 63], 30, (0, 0, 0, 0)), none, none, none, none, none, none, none, none, none, none, none, none, none, none, none, none, none, none, none, none, none, none, none, none, none, none, none, none, none, some (.aload_n 0, 1, (0, 0, 0, 0)), some (.getfield 12, 3, (1, 11, 0, 1)), none, none, some (.getfield 91, 3, (1, 8, 5, 1)), none, none, some (.iload_n 1, 1, (0, 0, 0, 0)), some (.iaload, 1, (0, 0, 0, 0)), some (.ireturn, 1, (0, 0, 0, 0)), some (.aload_n 0, 1, (0, 0, 0, 0)), some (.getfield 12, 3, (1, 11, 0, 1)), none, none, some (.getfield 88, 3, (1, 8, 10, 1)), none, none, some (.iload_n 1, 1, (0, 0, 0, 0)), some (.iaload, 1, (0, 0, 0, 0)), some (.ireturn, 1, (0, 0, 0, 0)), some (.aload_n 0, 1, (0, 0, 0, 0)), some (.getfield 31, 3, (1, 11, 6, 1)), none, none, some (.aload_n 0, 1, (0, 0, 0, 0)), some (.getfield 12, 3, (1, 11, 0, 1)), none, none, some (.iload_n 1, 1, (0, 0, 0, 0)), some (.invokevirtual 94, 3, (8, 47, 2, 6)), none, none, some (.ireturn, 1, (0, 0, 0, 0)), some (.aload_n 0, 1, (0, 0, 0, 0)), some (.getfield 31, 3, (1, 11, 6, 1)), none, none, some (.aload_n 0, 1, (0, 0, 0, 0)), some (.getfield 12, 3, (1, 11, 0, 1)), none, none, some (.iload_n 1, 1, (0, 0, 0, 0)), some (.invokevirtual 98, 3, (8, 55, 2, 6)), none, none, some (.ireturn, 1, (0, 0, 0, 0)), some (.aload_n 0, 1, (0, 0, 0, 0)), some (.iload_n 1, 1, (0, 0, 0, 0)), some (.iload_n 2, 1, (0, 0, 0, 0)), some (.invokevirtual 101, 3, (8, 61, 2, 11)), none, none, some (.ireturn, 1, (0, 0, 0, 0))]
def q_46 : ak_Q := (yX11_told, cX11_told, 3, (some .int), k_46, 11)
set_option maxRecDepth 100000 in
def k_47 : List ak_I := [some (.aload_n 1, 1, (0, 0, 0, 0)), some (.iload_n 2, 1, (0, 0, 0, 0)), some (.aload_n 1, 1, (0, 0, 0, 0)), some (.getfield 118, 3, (1, 8, 10, 1)), none, none, some (.iload_n 2, 1, (0, 0, 0, 0)), some (.iaload, 1, (0, 0, 0, 0)), some (.invokevirtual 121, 3, (8, 28, 2, 8)), none, none, some (.istore_n 3, 1, (0, 0, 0, 0)), some (.iconst 0, 1, (0, 0, 0, 0)), some (.istore 4, 2, (0, 0, 0, 0)), none, some (.iconst 0, 1, (0, 0, 0, 0)), some (.istore 5, 2, (0, 0, 0, 0)), none, some (.iload 5, 2, (0, 0, 0, 0)), none, some (.bipush 8, 2, (0, 0, 0, 0)), none, some (.if_icmp .ge 31, 3, (0, 0, 0, 0)), none, none, some (.iload_n 3, 1, (0, 0, 0, 0)), some (.iload 5, 2, (0, 0, 0, 0)), none, some (.ishr, 1, (0, 0, 0, 0)), some (.iconst 1, 1, (0, 0, 0, 0)), some (.iand, 1, (0, 0, 0, 0)), some (.ifCond .eq 16, 3, (0, 0, 0, 0)), none, none, some (.iload 4, 2, (0, 0, 0, 0)), none, some (.aload_n 0, 1, (0, 0, 0, 0)), some (.aload_n 1, 1, (0, 0, 0, 0)), some (.iload_n 2, 1, (0, 0, 0, 0)), some (.iload 5, 2, (0, 0, 0, 0)), none, some (.invokevirtual 124, 3, (8, 48, 3, 6)), none, none, some (.iadd, 1, (0, 0, 0, 0)), some (.istore 4, 2, (0, 0, 0, 0)), none, some (.iinc 5 1, 3, (0, 0, 0, 0)), none, none, some (.goto (-32), 3, (0, 0, 0, 0)), none, none, some (.iload 4, 2, (0, 0, 0, 0)), none, some (.ireturn, 1, (0, 0, 0, 0))]
def q_47 : ak_Q := (yX6_gladness, cX6_gladness, 6, (some .int), k_47, 6)
set_option maxRecDepth 100000 in
def k_48 : List ak_I := [some (.aload_n 0, 1, (0, 0, 0, 0)), some (.aload_n 1, 1, (0, 0, 0, 0)), some (.iload_n 2, 1, (0, 0, 0, 0)), some (.iload_n 3, 1, (0, 0, 0, 0)), some (.invokevirtual 64, 3, (8, 30, 3, 6)), none, none, some (.aload_n 0, 1, (0, 0, 0, 0)), some (.aload_n 1, 1, (0, 0, 0, 0)), some (.getfield 68, 3, (1, 8, 3, 0)), none, none, some (.invokevirtual 73, 3, (8, 34, 1, 6)), none, none, some (.iconst 0, 1, (0, 0, 0, 0)), some (.aload_n 0, 1, (0, 0, 0, 0)), some (.getfield 43, 3, (1, 6, 3, 1)), none, none, some (.aload_n 0, 1, (0, 0, 0, 0)), some (.getfield 47, 3, (1, 6, 4, 1)), none, none, some (.invokevirtual 77, 3, (8, 35, 3, 10)), none, none, some (.istore 4, 2, (0, 0, 0, 0)), none, some (.bipush (-99), 2, (0, 0, 0, 0)), none, some (.bipush 99, 2, (0, 0, 0, 0)), none, some (.iload 4, 2, (0, 0, 0, 0)), none, some (.invokestatic 81, 3, (19, 0, 0, 0)), none, none, some (.invokestatic 87, 3, (20, 0, 0, 0)), none, none, some (.istore 5, 2, (0, 0, 0, 0)), none, some (.aload_n 0, 1, (0, 0, 0, 0)), some (.aload_n 1, 1, (0, 0, 0, 0)), some (.getfield 90, 3, (1, 8, 5, 1)), none, none, some (.iload_n 2, 1, (0, 0, 0, 0)), some (.iaload, 1, (0, 0, 0, 0)), some (.invokevirtual 60, 3, (8, 39, 1, 6)), none, none, some (.iload_n 3, 1, (0, 0, 0, 0)), some (.iload 5, 2, (0, 0, 0, 0)), none, some (.aload_n 1, 1, (0, 0, 0, 0)), some (.iload_n 2, 1, (0, 0, 0, 0)), some (.iload_n 3, 1, (0, 0, 0, 0)), some (.invokevirtual 92, 3, (8, 32, 2, 8)), none, none, some (.aload_n 1, 1, (0, 0, 0, 0)), some (.getfield 96, 3, (1, 8, 6, 1)), none, none, some (.iload_n 2, 1, (0, 0, 0, 0)), some (.iaload, 1, (0, 0, 0, 0)), some (.invokevirtual 99, 3, (10, 0, 4, 0)), none, none, some (.ireturn, 1, (0, 0, 0, 0))]
def q_48 : ak_Q := (yX6_glad, cX6_glad, 6, (some .int), k_48, 6)
set_option maxRecDepth 100000 in
def k_49 : List ak_I := [some (.iload_n 3, 1, (0, 0, 0, 0)), some (.ifCond .eq 7, 3, (0, 0, 0, 0)), none, none, some (.iconst 5, 1, (0, 0, 0, 0)), some (.goto 4, 3, (0, 0, 0, 0)), none, none, some (.iconst 0, 1, (0, 0, 0, 0)), some (.ireturn, 1, (0, 0, 0, 0))]
def q_49 : ak_Q := (yX0_glad, cX0_glad, 5, (some .int), k_49, 0)
set_option maxRecDepth 100000 in
def k_50 : List ak_I := [some (.aload_n 0, 1, (0, 0, 0, 0)), some (.iload_n 1, 1, (0, 0, 0, 0)), some (.iload_n 2, 1, (0, 0, 0, 0)), some (.iload_n 3, 1, (0, 0, 0, 0)), some (.iload 4, 2, (0, 0, 0, 0)), none, some (.invokespecial 7, 3, (15, 51, 4, 0)), none, none, some (.iload_n 1, 1, (0, 0, 0, 0)), some (.isub, 1, (0, 0, 0, 0)), some (.ireturn, 1, (0, 0, 0, 0))]
def q_50 : ak_Q := (yX1_glad, cX1_glad, 5, (some .int), k_50, 1)
set_option maxRecDepth 100000 in
def k_51 : List ak_I := [some (.aload_n 0, 1, (0, 0, 0, 0)), some (.iload_n 1, 1, (0, 0, 0, 0)), some (.iload_n 2, 1, (0, 0, 0, 0)), some (.iload_n 3, 1, (0, 0, 0, 0)), some (.iload 4, 2, (0, 0, 0, 0)), none, some (.invokespecial 7, 3, (15, 54, 4, 0)), none, none, some (.iload 4, 2, (0, 0, 0, 0)), none, some (.iadd, 1, (0, 0, 0, 0)), some (.ireturn, 1, (0, 0, 0, 0))]
def q_51 : ak_Q := (yX9_glad, cX9_glad, 5, (some .int), k_51, 9)
set_option maxRecDepth 100000 in
def k_52 : List ak_I := [some (.iload_n 1, 1, (0, 0, 0, 0)), some (.iload 4, 2, (0, 0, 0, 0)), none, some (.bipush 8, 2, (0, 0, 0, 0)), none, some (.irem, 1, (0, 0, 0, 0)), some (.if_icmp .ne 8, 3, (0, 0, 0, 0)), none, none, some (.bipush 30, 2, (0, 0, 0, 0)), none, some (.goto 12, 3, (0, 0, 0, 0)), none, none, some (.aload_n 0, 1, (0, 0, 0, 0)), some (.iload_n 1, 1, (0, 0, 0, 0)), some (.iload_n 2, 1, (0, 0, 0, 0)), some (.iload_n 3, 1, (0, 0, 0, 0)), some (.iload 4, 2, (0, 0, 0, 0)), none, some (.invokespecial 9, 3, (15, 53, 4, 0)), none, none, some (.ireturn, 1, (0, 0, 0, 0))]
def q_52 : ak_Q := (yX2_glad, cX2_glad, 5, (some .int), k_52, 2)
set_option maxRecDepth 100000 in
def k_53 : List ak_I := [some (.aload_n 0, 1, (0, 0, 0, 0)), some (.iload_n 1, 1, (0, 0, 0, 0)), some (.iload_n 2, 1, (0, 0, 0, 0)), some (.iload_n 3, 1, (0, 0, 0, 0)), some (.iload 4, 2, (0, 0, 0, 0)), none, some (.invokespecial 7, 3, (15, 54, 4, 0)), none, none, some (.istore 5, 2, (0, 0, 0, 0)), none, some (.iload_n 1, 1, (0, 0, 0, 0)), some (.invokestatic 11, 3, (13, 44, 1, 0)), none, none, some (.ifCond .eq 10, 3, (0, 0, 0, 0)), none, none, some (.iconst 2, 1, (0, 0, 0, 0)), some (.iload 5, 2, (0, 0, 0, 0)), none, some (.imul, 1, (0, 0, 0, 0)), some (.goto 5, 3, (0, 0, 0, 0)), none, none, some (.iload 5, 2, (0, 0, 0, 0)), none, some (.ireturn, 1, (0, 0, 0, 0))]
def q_53 : ak_Q := (yX4_glad, cX4_glad, 6, (some .int), k_53, 4)
set_option maxRecDepth 100000 in
def k_54 : List ak_I := [some (.iload_n 3, 1, (0, 0, 0, 0)), some (.ifCond .eq 7, 3, (0, 0, 0, 0)), none, none, some (.iload_n 2, 1, (0, 0, 0, 0)), some (.goto 6, 3, (0, 0, 0, 0)), none, none, some (.iload_n 2, 1, (0, 0, 0, 0)), some (.iconst 2, 1, (0, 0, 0, 0)), some (.idiv, 1, (0, 0, 0, 0)), some (.ireturn, 1, (0, 0, 0, 0))]
def q_54 : ak_Q := (yX3_glad, cX3_glad, 5, (some .int), k_54, 3)
set_option maxRecDepth 100000 in
def k_55 : List ak_I := [some (.aload_n 0, 1, (0, 0, 0, 0)), some (.aload_n 1, 1, (0, 0, 0, 0)), some (.iload_n 2, 1, (0, 0, 0, 0)), some (.invokevirtual 107, 3, (8, 47, 2, 6)), none, none, some (.istore_n 3, 1, (0, 0, 0, 0)), some (.aload_n 0, 1, (0, 0, 0, 0)), some (.aload_n 1, 1, (0, 0, 0, 0)), some (.iload_n 2, 1, (0, 0, 0, 0)), some (.invokevirtual 111, 3, (8, 31, 2, 6)), none, none, some (.aload_n 0, 1, (0, 0, 0, 0)), some (.aload_n 1, 1, (0, 0, 0, 0)), some (.getfield 68, 3, (1, 8, 3, 0)), none, none, some (.invokevirtual 73, 3, (8, 34, 1, 6)), none, none, some (.iconst 1, 1, (0, 0, 0, 0)), some (.aload_n 0, 1, (0, 0, 0, 0)), some (.getfield 43, 3, (1, 6, 3, 1)), none, none, some (.aload_n 0, 1, (0, 0, 0, 0)), some (.getfield 47, 3, (1, 6, 4, 1)), none, none, some (.invokevirtual 77, 3, (8, 35, 3, 10)), none, none, some (.istore 4, 2, (0, 0, 0, 0)), none, some (.iconst 0, 1, (0, 0, 0, 0)), some (.bipush 99, 2, (0, 0, 0, 0)), none, some (.iload 4, 2, (0, 0, 0, 0)), none, some (.invokestatic 81, 3, (19, 0, 0, 0)), none, none, some (.invokestatic 87, 3, (20, 0, 0, 0)), none, none, some (.istore 5, 2, (0, 0, 0, 0)), none, some (.aload_n 0, 1, (0, 0, 0, 0)), some (.aload_n 1, 1, (0, 0, 0, 0)), some (.getfield 90, 3, (1, 8, 5, 1)), none, none, some (.iload_n 2, 1, (0, 0, 0, 0)), some (.iaload, 1, (0, 0, 0, 0)), some (.invokevirtual 60, 3, (8, 39, 1, 6)), none, none, some (.iload 5, 2, (0, 0, 0, 0)), none, some (.iload_n 3, 1, (0, 0, 0, 0)), some (.invokevirtual 115, 3, (10, 1, 2, 0)), none, none, some (.ireturn, 1, (0, 0, 0, 0))]
def q_55 : ak_Q := (yX6_earned, cX6_earned, 6, (some .int), k_55, 6)
set_option maxRecDepth 100000 in
def k_56 : List ak_I := [some (.aload_n 0, 1, (0, 0, 0, 0)), some (.iload_n 1, 1, (0, 0, 0, 0)), some (.iload_n 2, 1, (0, 0, 0, 0)), some (.invokespecial 7, 3, (15, 60, 2, 0)), none, none, some (.iconst 2, 1, (0, 0, 0, 0)), some (.idiv, 1, (0, 0, 0, 0)), some (.ireturn, 1, (0, 0, 0, 0))]
def q_56 : ak_Q := (yX0_earns, cX0_earns, 3, (some .int), k_56, 0)
set_option maxRecDepth 100000 in
def k_57 : List ak_I := [some (.iconst 0, 1, (0, 0, 0, 0)), some (.ireturn, 1, (0, 0, 0, 0))]
def q_57 : ak_Q := (yX1_earns, cX1_earns, 3, (some .int), k_57, 1)
set_option maxRecDepth 100000 in
def k_58 : List ak_I := [some (.iload_n 2, 1, (0, 0, 0, 0)), some (.bipush 30, 2, (0, 0, 0, 0)), none, some (.if_icmp .ge 7, 3, (0, 0, 0, 0)), none, none, some (.iload_n 1, 1, (0, 0, 0, 0)), some (.goto 4, 3, (0, 0, 0, 0)), none, none, some (.iconst 0, 1, (0, 0, 0, 0)), some (.ireturn, 1, (0, 0, 0, 0))]
def q_58 : ak_Q := (yX4_earns, cX4_earns, 3, (some .int), k_58, 4)
set_option maxRecDepth 100000 in
def k_59 : List ak_I := [some (.iload_n 1, 1, (0, 0, 0, 0)), some (.iconst 2, 1, (0, 0, 0, 0)), some (.iadd, 1, (0, 0, 0, 0)), some (.ireturn, 1, (0, 0, 0, 0))]
def q_59 : ak_Q := (yX9_earns, cX9_earns, 3, (some .int), k_59, 9)
set_option maxRecDepth 100000 in
def k_60 : List ak_I := [some (.iload_n 1, 1, (0, 0, 0, 0)), some (.ireturn, 1, (0, 0, 0, 0))]
def q_60 : ak_Q := (yX3_earns, cX3_earns, 3, (some .int), k_60, 3)
set_option maxRecDepth 100000 in
def k_61 : List ak_I := [some (.iload_n 2, 1, (0, 0, 0, 0)), some (.bipush 20, 2, (0, 0, 0, 0)), none, some (.if_icmp .lt 30, 3, (0, 0, 0, 0)), none, none, some (.iload_n 2, 1, (0, 0, 0, 0)), some (.bipush 20, 2, (0, 0, 0, 0)), none, some (.isub, 1, (0, 0, 0, 0)), some (.invokestatic 81, 3, (11, 26, 1, 0)), none, none, some (.ifCond .eq 20, 3, (0, 0, 0, 0)), none, none, some (.aload_n 0, 1, (0, 0, 0, 0)), some (.getfield 31, 3, (1, 11, 6, 1)), none, none, some (.aload_n 0, 1, (0, 0, 0, 0)), some (.getfield 12, 3, (1, 11, 0, 1)), none, none, some (.iload_n 1, 1, (0, 0, 0, 0)), some (.iload_n 2, 1, (0, 0, 0, 0)), some (.bipush 20, 2, (0, 0, 0, 0)), none, some (.isub, 1, (0, 0, 0, 0)), some (.invokevirtual 104, 3, (8, 48, 3, 6)), none, none, some (.ireturn, 1, (0, 0, 0, 0)), some (.iload_n 2, 1, (0, 0, 0, 0)), some (.bipush 30, 2, (0, 0, 0, 0)), none, some (.if_icmp .lt 38, 3, (0, 0, 0, 0)), none, none, some (.iload_n 2, 1, (0, 0, 0, 0)), some (.bipush 30, 2, (0, 0, 0, 0)), none, some (.isub, 1, (0, 0, 0, 0)), some (.invokestatic 81, 3, (11, 26, 1, 0)), none, none, some (.ifCond .eq 28, 3, (0, 0, 0, 0)), none, none, some (.aload_n 0, 1, (0, 0, 0, 0)), some (.getfield 31, 3, (1, 11, 6, 1)), none, none, some (.aload_n 0, 1, (0, 0, 0, 0)), some (.getfield 12, 3, (1, 11, 0, 1)), none, none, some (.iload_n 1, 1, (0, 0, 0, 0)), some (.iload_n 2, 1, (0, 0, 0, 0)), some (.bipush 30, 2, (0, 0, 0, 0)), none, some (.isub, 1, (0, 0, 0, 0)), some (.invokevirtual 108, 3, (8, 29, 3, 6)), none, none, some (.ifCond .eq 7, 3, (0, 0, 0, 0)), none, none, some (.iconst 1, 1, (0, 0, 0, 0)), some (.goto 4, 3, (0, 0, 0, 0)), none, none, some (.iconst 0, 1, (0, 0, 0, 0)), some (.ireturn, 1, (0, 0, 0, 0)), some (.sipush (-1000), 3, (0, 0, 0, 0)), none, none, some (.ireturn, 1, (0, 0, 0, 0))]
def q_61 : ak_Q := (yX11_toldOfWeek, cX11_toldOfWeek, 3, (some .int), k_61, 11)
set_option maxRecDepth 100000 in
def k_62 : List ak_I := [some (.iload_n 1, 1, (0, 0, 0, 0)), some (.ifCond .lt 10, 3, (0, 0, 0, 0)), none, none, some (.iload_n 1, 1, (0, 0, 0, 0)), some (.sipush 255, 3, (0, 0, 0, 0)), none, none, some (.if_icmp .le 6, 3, (0, 0, 0, 0)), none, none, some (.bipush (-2), 2, (0, 0, 0, 0)), none, some (.ireturn, 1, (0, 0, 0, 0)), some (.aload_n 0, 1, (0, 0, 0, 0)), some (.getfield 111, 3, (1, 11, 5, 0)), none, none, some (.aload_n 0, 1, (0, 0, 0, 0)), some (.getfield 22, 3, (1, 11, 4, 1)), none, none, some (.arraylength, 1, (0, 0, 0, 0)), some (.if_icmp .lt 6, 3, (0, 0, 0, 0)), none, none, some (.bipush (-4), 2, (0, 0, 0, 0)), none, some (.ireturn, 1, (0, 0, 0, 0)), some (.aload_n 0, 1, (0, 0, 0, 0)), some (.getfield 22, 3, (1, 11, 4, 1)), none, none, some (.aload_n 0, 1, (0, 0, 0, 0)), some (.getfield 111, 3, (1, 11, 5, 0)), none, none, some (.iload_n 1, 1, (0, 0, 0, 0)), some (.iastore, 1, (0, 0, 0, 0)), some (.aload_n 0, 1, (0, 0, 0, 0)), some (.dup, 1, (0, 0, 0, 0)), some (.getfield 111, 3, (1, 11, 5, 0)), none, none, some (.iconst 1, 1, (0, 0, 0, 0)), some (.iadd, 1, (0, 0, 0, 0)), some (.putfield 111, 3, (1, 11, 5, 0)), none, none, some (.aload_n 0, 1, (0, 0, 0, 0)), some (.getfield 111, 3, (1, 11, 5, 0)), none, none, some (.ireturn, 1, (0, 0, 0, 0))]
def q_62 : ak_Q := (yX11_feed, cX11_feed, 2, (some .int), k_62, 11)
set_option maxRecDepth 100000 in
def k_63 : List ak_I := [some (.aload_n 0, 1, (0, 0, 0, 0)), some (.getfield 31, 3, (1, 11, 6, 1)), none, none, some (.getfield 115, 3, (1, 6, 0, 0)), none, none, some (.bipush 6, 2, (0, 0, 0, 0)), none, some (.if_icmp .lt 6, 3, (0, 0, 0, 0)), none, none, some (.bipush (-4), 2, (0, 0, 0, 0)), none, some (.ireturn, 1, (0, 0, 0, 0)), some (.aload_n 0, 1, (0, 0, 0, 0)), some (.getfield 31, 3, (1, 11, 6, 1)), none, none, some (.aload_n 0, 1, (0, 0, 0, 0)), some (.getfield 31, 3, (1, 11, 6, 1)), none, none, some (.getfield 115, 3, (1, 6, 0, 0)), none, none, some (.invokevirtual 118, 3, (8, 34, 1, 6)), none, none, some (.aload_n 0, 1, (0, 0, 0, 0)), some (.getfield 111, 3, (1, 11, 5, 0)), none, none, some (.invokevirtual 122, 3, (8, 64, 1, 10)), none, none, some (.istore_n 1, 1, (0, 0, 0, 0)), some (.aload_n 0, 1, (0, 0, 0, 0)), some (.iconst 0, 1, (0, 0, 0, 0)), some (.putfield 111, 3, (1, 11, 5, 0)), none, none, some (.iload_n 1, 1, (0, 0, 0, 0)), some (.iconst (-1), 1, (0, 0, 0, 0)), some (.if_icmp .eq 8, 3, (0, 0, 0, 0)), none, none, some (.bipush (-100), 2, (0, 0, 0, 0)), none, some (.iload_n 1, 1, (0, 0, 0, 0)), some (.isub, 1, (0, 0, 0, 0)), some (.ireturn, 1, (0, 0, 0, 0)), some (.aload_n 0, 1, (0, 0, 0, 0)), some (.getfield 31, 3, (1, 11, 6, 1)), none, none, some (.dup, 1, (0, 0, 0, 0)), some (.getfield 115, 3, (1, 6, 0, 0)), none, none, some (.iconst 1, 1, (0, 0, 0, 0)), some (.iadd, 1, (0, 0, 0, 0)), some (.putfield 115, 3, (1, 6, 0, 0)), none, none, some (.aload_n 0, 1, (0, 0, 0, 0)), some (.getfield 31, 3, (1, 11, 6, 1)), none, none, some (.getfield 115, 3, (1, 6, 0, 0)), none, none, some (.iconst 1, 1, (0, 0, 0, 0)), some (.isub, 1, (0, 0, 0, 0)), some (.ireturn, 1, (0, 0, 0, 0))]
def q_63 : ak_Q := (yX11_text, cX11_text, 2, (some .int), k_63, 11)
set_option maxRecDepth 100000 in
def k_64 : List ak_I := [some (.aload_n 0, 1, (0, 0, 0, 0)), some (.iconst 0, 1, (0, 0, 0, 0)), some (.iload_n 1, 1, (0, 0, 0, 0)), some (.aload_n 0, 1, (0, 0, 0, 0)), some (.getfield 18, 3, (1, 10, 4, 1)), none, none, some (.arraylength, 1, (0, 0, 0, 0)), some (.invokestatic 32, 3, (19, 0, 0, 0)), none, none, some (.invokestatic 49, 3, (20, 0, 0, 0)), none, none, some (.putfield 52, 3, (1, 10, 5, 0)), none, none, some (.aload_n 0, 1, (0, 0, 0, 0)), some (.iconst 0, 1, (0, 0, 0, 0)), some (.putfield 21, 3, (1, 10, 2, 0)), none, none, some (.aload_n 0, 1, (0, 0, 0, 0)), some (.iconst 0, 1, (0, 0, 0, 0)), some (.putfield 29, 3, (1, 10, 3, 0)), none, none, some (.aload_n 0, 1, (0, 0, 0, 0)), some (.iconst 0, 1, (0, 0, 0, 0)), some (.putfield 55, 3, (1, 10, 6, 0)), none, none, some (.aload_n 0, 1, (0, 0, 0, 0)), some (.iconst 0, 1, (0, 0, 0, 0)), some (.putfield 58, 3, (1, 10, 10, 0)), none, none, some (.aload_n 0, 1, (0, 0, 0, 0)), some (.iconst (-1), 1, (0, 0, 0, 0)), some (.putfield 61, 3, (1, 10, 11, 0)), none, none, some (.aload_n 0, 1, (0, 0, 0, 0)), some (.invokevirtual 64, 3, (8, 65, 0, 10)), none, none, some (.iconst 0, 1, (0, 0, 0, 0)), some (.istore_n 2, 1, (0, 0, 0, 0)), some (.iload_n 2, 1, (0, 0, 0, 0)), some (.iconst 3, 1, (0, 0, 0, 0)), some (.if_icmp .ge 32, 3, (0, 0, 0, 0)), none, none, some (.aload_n 0, 1, (0, 0, 0, 0)), some (.sipush 256, 3, (0, 0, 0, 0)), none, none, some (.iload_n 2, 1, (0, 0, 0, 0)), some (.iadd, 1, (0, 0, 0, 0)), some (.invokevirtual 67, 3, (8, 87, 1, 10)), none, none, some (.aload_n 0, 1, (0, 0, 0, 0)), some (.invokevirtual 70, 3, (8, 88, 0, 10)), none, none, some (.aload_n 0, 1, (0, 0, 0, 0)), some (.bipush 59, 2, (0, 0, 0, 0)), none, some (.invokevirtual 67, 3, (8, 87, 1, 10)), none, none, some (.aload_n 0, 1, (0, 0, 0, 0)), some (.invokevirtual 73, 3, (8, 11, 0, 10)), none, none, some (.iinc 2 1, 3, (0, 0, 0, 0)), none, none, some (.goto (-31), 3, (0, 0, 0, 0)), none, none, some (.aload_n 0, 1, (0, 0, 0, 0)), some (.getfield 76, 3, (1, 10, 8, 0)), none, none, some (.sipush 264, 3, (0, 0, 0, 0)), none, none, some (.if_icmp .eq 7, 3, (0, 0, 0, 0)), none, none, some (.aload_n 0, 1, (0, 0, 0, 0)), some (.invokevirtual 79, 3, (8, 83, 0, 10)), none, none, some (.aload_n 0, 1, (0, 0, 0, 0)), some (.getfield 61, 3, (1, 10, 11, 0)), none, none, some (.ireturn, 1, (0, 0, 0, 0))]
def q_64 : ak_Q := (yX10_read, cX10_read, 3, (some .int), k_64, 10)
set_option maxRecDepth 100000 in
def k_65 : List ak_I := [some (.aload_n 0, 1, (0, 0, 0, 0)), some (.getfield 55, 3, (1, 10, 6, 0)), none, none, some (.aload_n 0, 1, (0, 0, 0, 0)), some (.getfield 52, 3, (1, 10, 5, 0)), none, none, some (.if_icmp .ge 27, 3, (0, 0, 0, 0)), none, none, some (.aload_n 0, 1, (0, 0, 0, 0)), some (.aload_n 0, 1, (0, 0, 0, 0)), some (.getfield 55, 3, (1, 10, 6, 0)), none, none, some (.invokevirtual 113, 3, (8, 66, 1, 10)), none, none, some (.ifCond .eq 16, 3, (0, 0, 0, 0)), none, none, some (.aload_n 0, 1, (0, 0, 0, 0)), some (.dup, 1, (0, 0, 0, 0)), some (.getfield 55, 3, (1, 10, 6, 0)), none, none, some (.iconst 1, 1, (0, 0, 0, 0)), some (.iadd, 1, (0, 0, 0, 0)), some (.putfield 55, 3, (1, 10, 6, 0)), none, none, some (.goto (-32), 3, (0, 0, 0, 0)), none, none, some (.aload_n 0, 1, (0, 0, 0, 0)), some (.aload_n 0, 1, (0, 0, 0, 0)), some (.getfield 55, 3, (1, 10, 6, 0)), none, none, some (.putfield 110, 3, (1, 10, 7, 0)), none, none, some (.aload_n 0, 1, (0, 0, 0, 0)), some (.getfield 55, 3, (1, 10, 6, 0)), none, none, some (.aload_n 0, 1, (0, 0, 0, 0)), some (.getfield 52, 3, (1, 10, 5, 0)), none, none, some (.if_icmp .lt 13, 3, (0, 0, 0, 0)), none, none, some (.aload_n 0, 1, (0, 0, 0, 0)), some (.sipush 264, 3, (0, 0, 0, 0)), none, none, some (.putfield 76, 3, (1, 10, 8, 0)), none, none, some (.goto 80, 3, (0, 0, 0, 0)), none, none, some (.aload_n 0, 1, (0, 0, 0, 0)), some (.aload_n 0, 1, (0, 0, 0, 0)), some (.getfield 55, 3, (1, 10, 6, 0)), none, none, some (.invokevirtual 117, 3, (8, 67, 1, 10)), none, none, some (.ifCond .eq 10, 3, (0, 0, 0, 0)), none, none, some (.aload_n 0, 1, (0, 0, 0, 0)), some (.invokevirtual 120, 3, (8, 68, 0, 10)), none, none, some (.goto 62, 3, (0, 0, 0, 0)), none, none, some (.aload_n 0, 1, (0, 0, 0, 0)), some (.aload_n 0, 1, (0, 0, 0, 0)), some (.getfield 55, 3, (1, 10, 6, 0)), none, none, some (.invokevirtual 123, 3, (8, 84, 1, 10)), none, none, some (.ifCond .eq 10, 3, (0, 0, 0, 0)), none, none, some (.aload_n 0, 1, (0, 0, 0, 0)), some (.invokevirtual 126, 3, (8, 85, 0, 10)), none, none, some (.goto 44, 3, (0, 0, 0, 0)), none, none, some (.aload_n 0, 1, (0, 0, 0, 0)), some (.aload_n 0, 1, (0, 0, 0, 0)), some (.getfield 55, 3, (1, 10, 6, 0)), none, none, some (.invokevirtual 129, 3, (8, 86, 1, 10)), none, none, some (.ifCond .eq 29, 3, (0, 0, 0, 0)), none, none, some (.aload_n 0, 1, (0, 0, 0, 0)), some (.aload_n 0, 1, (0, 0, 0, 0)), some (.getfield 18, 3, (1, 10, 4, 1)), none, none, some (.aload_n 0, 1, (0, 0, 0, 0)), some (.getfield 55, 3, (1, 10, 6, 0)), none, none, some (.iaload, 1, (0, 0, 0, 0)), some (.putfield 76, 3, (1, 10, 8, 0)), none, none, some (.aload_n 0, 1, (0, 0, 0, 0)), some (.dup, 1, (0, 0, 0, 0)), some (.getfield 55, 3, (1, 10, 6, 0)), none, none, some (.iconst 1, 1, (0, 0, 0, 0)), some (.iadd, 1, (0, 0, 0, 0)), some (.putfield 55, 3, (1, 10, 6, 0)), none, none, some (.goto 7, 3, (0, 0, 0, 0)), none, none, some (.aload_n 0, 1, (0, 0, 0, 0)), some (.invokevirtual 79, 3, (8, 83, 0, 10)), none, none, some (.return_, 1, (0, 0, 0, 0))]
def q_65 : ak_Q := (yX10_advance, cX10_advance, 1, none, k_65, 10)
set_option maxRecDepth 100000 in
def k_66 : List ak_I := [some (.aload_n 0, 1, (0, 0, 0, 0)), some (.getfield 18, 3, (1, 10, 4, 1)), none, none, some (.iload_n 1, 1, (0, 0, 0, 0)), some (.iaload, 1, (0, 0, 0, 0)), some (.bipush 32, 2, (0, 0, 0, 0)), none, some (.if_icmp .eq 14, 3, (0, 0, 0, 0)), none, none, some (.aload_n 0, 1, (0, 0, 0, 0)), some (.getfield 18, 3, (1, 10, 4, 1)), none, none, some (.iload_n 1, 1, (0, 0, 0, 0)), some (.iaload, 1, (0, 0, 0, 0)), some (.bipush 10, 2, (0, 0, 0, 0)), none, some (.if_icmp .ne 7, 3, (0, 0, 0, 0)), none, none, some (.iconst 1, 1, (0, 0, 0, 0)), some (.goto 4, 3, (0, 0, 0, 0)), none, none, some (.iconst 0, 1, (0, 0, 0, 0)), some (.ireturn, 1, (0, 0, 0, 0))]
def q_66 : ak_Q := (yX10_isBlank, cX10_isBlank, 2, (some .boolean), k_66, 10)
set_option maxRecDepth 100000 in
def k_67 : List ak_I := [some (.aload_n 0, 1, (0, 0, 0, 0)), some (.getfield 18, 3, (1, 10, 4, 1)), none, none, some (.iload_n 1, 1, (0, 0, 0, 0)), some (.iaload, 1, (0, 0, 0, 0)), some (.bipush 97, 2, (0, 0, 0, 0)), none, some (.if_icmp .lt 18, 3, (0, 0, 0, 0)), none, none, some (.aload_n 0, 1, (0, 0, 0, 0)), some (.getfield 18, 3, (1, 10, 4, 1)), none, none, some (.iload_n 1, 1, (0, 0, 0, 0)), some (.iaload, 1, (0, 0, 0, 0)), some (.bipush 122, 2, (0, 0, 0, 0)), none, some (.if_icmp .gt 7, 3, (0, 0, 0, 0)), none, none, some (.iconst 1, 1, (0, 0, 0, 0)), some (.goto 4, 3, (0, 0, 0, 0)), none, none, some (.iconst 0, 1, (0, 0, 0, 0)), some (.ireturn, 1, (0, 0, 0, 0))]
def q_67 : ak_Q := (yX10_isLetter, cX10_isLetter, 2, (some .boolean), k_67, 10)
set_option maxRecDepth 100000 in
def k_68 : List ak_I := [some (.aload_n 0, 1, (0, 0, 0, 0)), some (.getfield 55, 3, (1, 10, 6, 0)), none, none, some (.aload_n 0, 1, (0, 0, 0, 0)), some (.getfield 52, 3, (1, 10, 5, 0)), none, none, some (.if_icmp .ge 27, 3, (0, 0, 0, 0)), none, none, some (.aload_n 0, 1, (0, 0, 0, 0)), some (.aload_n 0, 1, (0, 0, 0, 0)), some (.getfield 55, 3, (1, 10, 6, 0)), none, none, some (.invokevirtual 117, 3, (8, 67, 1, 10)), none, none, some (.ifCond .eq 16, 3, (0, 0, 0, 0)), none, none, some (.aload_n 0, 1, (0, 0, 0, 0)), some (.dup, 1, (0, 0, 0, 0)), some (.getfield 55, 3, (1, 10, 6, 0)), none, none, some (.iconst 1, 1, (0, 0, 0, 0)), some (.iadd, 1, (0, 0, 0, 0)), some (.putfield 55, 3, (1, 10, 6, 0)), none, none, some (.goto (-32), 3, (0, 0, 0, 0)), none, none, some (.aload_n 0, 1, (0, 0, 0, 0)), some (.aload_n 0, 1, (0, 0, 0, 0)), some (.invokevirtual 132, 3, (8, 69, 0, 10)), none, none, some (.putfield 76, 3, (1, 10, 8, 0)), none, none, some (.aload_n 0, 1, (0, 0, 0, 0)), some (.getfield 76, 3, (1, 10, 8, 0)), none, none, some (.sipush 262, 3, (0, 0, 0, 0)), none, none, some (.if_icmp .ne 23, 3, (0, 0, 0, 0)), none, none, some (.aload_n 0, 1, (0, 0, 0, 0)), some (.aload_n 0, 1, (0, 0, 0, 0)), some (.invokevirtual 136, 3, (8, 82, 0, 10)), none, none, some (.putfield 104, 3, (1, 10, 9, 0)), none, none, some (.aload_n 0, 1, (0, 0, 0, 0)), some (.getfield 104, 3, (1, 10, 9, 0)), none, none, some (.iconst (-1), 1, (0, 0, 0, 0)), some (.if_icmp .ne 7, 3, (0, 0, 0, 0)), none, none, some (.aload_n 0, 1, (0, 0, 0, 0)), some (.invokevirtual 79, 3, (8, 83, 0, 10)), none, none, some (.return_, 1, (0, 0, 0, 0))]
def q_68 : ak_Q := (yX10_advanceOverWord, cX10_advanceOverWord, 1, none, k_68, 10)
set_option maxRecDepth 100000 in
def k_69 : List ak_I := [some (.aload_n 0, 1, (0, 0, 0, 0)), some (.ldc 139, 2, (5, 0, 0, 0)), none, some (.invokevirtual 141, 3, (8, 70, 1, 10)), none, none, some (.ifCond .eq 7, 3, (0, 0, 0, 0)), none, none, some (.sipush 256, 3, (0, 0, 0, 0)), none, none, some (.ireturn, 1, (0, 0, 0, 0)), some (.aload_n 0, 1, (0, 0, 0, 0)), some (.ldc 145, 2, (5, 1, 0, 0)), none, some (.invokevirtual 141, 3, (8, 70, 1, 10)), none, none, some (.ifCond .eq 7, 3, (0, 0, 0, 0)), none, none, some (.sipush 257, 3, (0, 0, 0, 0)), none, none, some (.ireturn, 1, (0, 0, 0, 0)), some (.aload_n 0, 1, (0, 0, 0, 0)), some (.ldc 147, 2, (5, 2, 0, 0)), none, some (.invokevirtual 141, 3, (8, 70, 1, 10)), none, none, some (.ifCond .eq 7, 3, (0, 0, 0, 0)), none, none, some (.sipush 258, 3, (0, 0, 0, 0)), none, none, some (.ireturn, 1, (0, 0, 0, 0)), some (.aload_n 0, 1, (0, 0, 0, 0)), some (.ldc 149, 2, (5, 3, 0, 0)), none, some (.invokevirtual 141, 3, (8, 70, 1, 10)), none, none, some (.ifCond .eq 7, 3, (0, 0, 0, 0)), none, none, some (.sipush 259, 3, (0, 0, 0, 0)), none, none, some (.ireturn, 1, (0, 0, 0, 0)), some (.aload_n 0, 1, (0, 0, 0, 0)), some (.ldc 151, 2, (5, 4, 0, 0)), none, some (.invokevirtual 141, 3, (8, 70, 1, 10)), none, none, some (.ifCond .eq 7, 3, (0, 0, 0, 0)), none, none, some (.sipush 260, 3, (0, 0, 0, 0)), none, none, some (.ireturn, 1, (0, 0, 0, 0)), some (.aload_n 0, 1, (0, 0, 0, 0)), some (.ldc 153, 2, (5, 5, 0, 0)), none, some (.invokevirtual 141, 3, (8, 70, 1, 10)), none, none, some (.ifCond .eq 9, 3, (0, 0, 0, 0)), none, none, some (.sipush 261, 3, (0, 0, 0, 0)), none, none, some (.goto 6, 3, (0, 0, 0, 0)), none, none, some (.sipush 262, 3, (0, 0, 0, 0)), none, none, some (.ireturn, 1, (0, 0, 0, 0))]
def q_69 : ak_Q := (yX10_key, cX10_key, 1, (some .int), k_69, 10)
set_option maxRecDepth 100000 in
def k_70 : List ak_I := [some (.aload_n 0, 1, (0, 0, 0, 0)), some (.getfield 55, 3, (1, 10, 6, 0)), none, none, some (.aload_n 0, 1, (0, 0, 0, 0)), some (.getfield 110, 3, (1, 10, 7, 0)), none, none, some (.isub, 1, (0, 0, 0, 0)), some (.aload_n 1, 1, (0, 0, 0, 0)), some (.invokevirtual 167, 3, (9, 71, 0, 0)), none, none, some (.if_icmp .eq 5, 3, (0, 0, 0, 0)), none, none, some (.iconst 0, 1, (0, 0, 0, 0)), some (.ireturn, 1, (0, 0, 0, 0)), some (.iconst 0, 1, (0, 0, 0, 0)), some (.istore_n 2, 1, (0, 0, 0, 0)), some (.iload_n 2, 1, (0, 0, 0, 0)), some (.aload_n 1, 1, (0, 0, 0, 0)), some (.invokevirtual 167, 3, (9, 71, 0, 0)), none, none, some (.if_icmp .ge 30, 3, (0, 0, 0, 0)), none, none, some (.aload_n 0, 1, (0, 0, 0, 0)), some (.getfield 18, 3, (1, 10, 4, 1)), none, none, some (.aload_n 0, 1, (0, 0, 0, 0)), some (.getfield 110, 3, (1, 10, 7, 0)), none, none, some (.iload_n 2, 1, (0, 0, 0, 0)), some (.iadd, 1, (0, 0, 0, 0)), some (.iaload, 1, (0, 0, 0, 0)), some (.aload_n 1, 1, (0, 0, 0, 0)), some (.iload_n 2, 1, (0, 0, 0, 0)), some (.invokevirtual 171, 3, (9, 73, 1, 0)), none, none, some (.if_icmp .eq 5, 3, (0, 0, 0, 0)), none, none, some (.iconst 0, 1, (0, 0, 0, 0)), some (.ireturn, 1, (0, 0, 0, 0)), some (.iinc 2 1, 3, (0, 0, 0, 0)), none, none, some (.goto (-32), 3, (0, 0, 0, 0)), none, none, some (.iconst 1, 1, (0, 0, 0, 0)), some (.ireturn, 1, (0, 0, 0, 0))]
def q_70 : ak_Q := (yX10_isWord, cX10_isWord, 3, (some .boolean), k_70, 10)
set_option maxRecDepth 100000 in
def k_71 : List ak_I := [some (.aload_n 0, 1, (0, 0, 0, 0)), some (.getfield 9, 3, (2, 0, 0, 0)), none, none, some (.arraylength, 1, (0, 0, 0, 0)), some (.aload_n 0, 1, (0, 0, 0, 0)), some (.invokevirtual 335, 3, (9, 72, 0, 0)), none, none, some (.ishr, 1, (0, 0, 0, 0)), some (.ireturn, 1, (0, 0, 0, 0))]
def q_71 : ak_Q := (yJ0_length_8abf5, cJ0_length_8abf5, 1, (some .int), k_71, 20)
set_option maxRecDepth 100000 in
def k_72 : List ak_I := [some (.getstatic 38, 3, (3, 2, 0, 0)), none, none, some (.ifCond .eq 10, 3, (0, 0, 0, 0)), none, none, some (.aload_n 0, 1, (0, 0, 0, 0)), some (.getfield 15, 3, (2, 1, 0, 0)), none, none, some (.goto 4, 3, (0, 0, 0, 0)), none, none, some (.iconst 1, 1, (0, 0, 0, 0)), some (.ireturn, 1, (0, 0, 0, 0))]
def q_72 : ak_Q := (yJ0_coder_7d493, cJ0_coder_7d493, 1, (some .byte), k_72, 20)
set_option maxRecDepth 100000 in
def k_73 : List ak_I := [some (.aload_n 0, 1, (0, 0, 0, 0)), some (.invokevirtual 492, 3, (9, 74, 0, 0)), none, none, some (.ifCond .eq 12, 3, (0, 0, 0, 0)), none, none, some (.aload_n 0, 1, (0, 0, 0, 0)), some (.getfield 9, 3, (2, 0, 0, 0)), none, none, some (.iload_n 1, 1, (0, 0, 0, 0)), some (.invokestatic 495, 3, (11, 75, 2, 0)), none, none, some (.ireturn, 1, (0, 0, 0, 0)), some (.aload_n 0, 1, (0, 0, 0, 0)), some (.getfield 9, 3, (2, 0, 0, 0)), none, none, some (.iload_n 1, 1, (0, 0, 0, 0)), some (.invokestatic 498, 3, (11, 78, 2, 0)), none, none, some (.ireturn, 1, (0, 0, 0, 0))]
def q_73 : ak_Q := (yJ0_charAt_5068e, cJ0_charAt_5068e, 2, (some .char), k_73, 20)
set_option maxRecDepth 100000 in
def k_74 : List ak_I := [some (.getstatic 38, 3, (3, 2, 0, 0)), none, none, some (.ifCond .eq 14, 3, (0, 0, 0, 0)), none, none, some (.aload_n 0, 1, (0, 0, 0, 0)), some (.getfield 15, 3, (2, 1, 0, 0)), none, none, some (.ifCond .ne 7, 3, (0, 0, 0, 0)), none, none, some (.iconst 1, 1, (0, 0, 0, 0)), some (.goto 4, 3, (0, 0, 0, 0)), none, none, some (.iconst 0, 1, (0, 0, 0, 0)), some (.ireturn, 1, (0, 0, 0, 0))]
def q_74 : ak_Q := (yJ0_isLatin1_aae02, cJ0_isLatin1_aae02, 1, (some .boolean), k_74, 20)
set_option maxRecDepth 100000 in
def k_75 : List ak_I := [some (.iload_n 1, 1, (0, 0, 0, 0)), some (.aload_n 0, 1, (0, 0, 0, 0)), some (.arraylength, 1, (0, 0, 0, 0)), some (.invokestatic 9, 3, (11, 76, 2, 0)), none, none, some (.aload_n 0, 1, (0, 0, 0, 0)), some (.iload_n 1, 1, (0, 0, 0, 0)), some (.baload, 1, (0, 0, 0, 0)), some (.sipush 255, 3, (0, 0, 0, 0)), none, none, some (.iand, 1, (0, 0, 0, 0)), some (.i2c, 1, (0, 0, 0, 0)), some (.ireturn, 1, (0, 0, 0, 0))]
def q_75 : ak_Q := (yJ1_charAt_3b067, cJ1_charAt_3b067, 2, (some .char), k_75, 21)
set_option maxRecDepth 100000 in
def k_76 : List ak_I := [some (.iload_n 0, 1, (0, 0, 0, 0)), some (.iload_n 1, 1, (0, 0, 0, 0)), some (.getstatic 1053, 3, (3, 3, 0, 0)), none, none, some (.invokestatic 1059, 3, (11, 77, 3, 0)), none, none, some (.pop, 1, (0, 0, 0, 0)), some (.return_, 1, (0, 0, 0, 0))]
def q_76 : ak_Q := (yJ0_checkIndex_df160, cJ0_checkIndex_df160, 2, none, k_76, 20)
set_option maxRecDepth 100000 in
def k_77 : List ak_I := [some (.iload_n 0, 1, (0, 0, 0, 0)), some (.ifCond .lt 8, 3, (0, 0, 0, 0)), none, none, some (.iload_n 0, 1, (0, 0, 0, 0)), some (.iload_n 1, 1, (0, 0, 0, 0)), some (.if_icmp .lt 10, 3, (0, 0, 0, 0)), none, none, some (.aload_n 2, 1, (0, 0, 0, 0)), some (.iload_n 0, 1, (0, 0, 0, 0)), some (.iload_n 1, 1, (0, 0, 0, 0)), some (.invokestatic 95, 3, (0, 0, 0, 0)), none, none, some (.athrow, 1, (0, 0, 0, 0)), some (.iload_n 0, 1, (0, 0, 0, 0)), some (.ireturn, 1, (0, 0, 0, 0))]
def q_77 : ak_Q := (yJ3_checkIndex_8e157, cJ3_checkIndex_8e157, 3, (some .int), k_77, 23)
set_option maxRecDepth 100000 in
def k_78 : List ak_I := [some (.iload_n 1, 1, (0, 0, 0, 0)), some (.aload_n 0, 1, (0, 0, 0, 0)), some (.invokestatic 67, 3, (11, 79, 2, 0)), none, none, some (.aload_n 0, 1, (0, 0, 0, 0)), some (.iload_n 1, 1, (0, 0, 0, 0)), some (.invokestatic 71, 3, (11, 81, 2, 0)), none, none, some (.ireturn, 1, (0, 0, 0, 0))]
def q_78 : ak_Q := (yJ2_charAt_3b067, cJ2_charAt_3b067, 2, (some .char), k_78, 22)
set_option maxRecDepth 100000 in
def k_79 : List ak_I := [some (.iload_n 0, 1, (0, 0, 0, 0)), some (.aload_n 1, 1, (0, 0, 0, 0)), some (.invokestatic 48, 3, (11, 80, 1, 0)), none, none, some (.invokestatic 414, 3, (11, 76, 2, 0)), none, none, some (.return_, 1, (0, 0, 0, 0))]
def q_79 : ak_Q := (yJ2_checkIndex_2214a, cJ2_checkIndex_2214a, 2, none, k_79, 22)
set_option maxRecDepth 100000 in
def k_80 : List ak_I := [some (.aload_n 0, 1, (0, 0, 0, 0)), some (.arraylength, 1, (0, 0, 0, 0)), some (.iconst 1, 1, (0, 0, 0, 0)), some (.ishr, 1, (0, 0, 0, 0)), some (.ireturn, 1, (0, 0, 0, 0))]
def q_80 : ak_Q := (yJ2_length_9d52b, cJ2_length_9d52b, 1, (some .int), k_80, 22)
set_option maxRecDepth 100000 in
def k_81 : List ak_I := [some (.getstatic 44, 3, (0, 0, 0, 0)), none, none, some (.ifCond .ne 25, 3, (0, 0, 0, 0)), none, none, some (.iload_n 1, 1, (0, 0, 0, 0)), some (.ifCond .lt 11, 3, (0, 0, 0, 0)), none, none, some (.iload_n 1, 1, (0, 0, 0, 0)), some (.aload_n 0, 1, (0, 0, 0, 0)), some (.invokestatic 48, 3, (11, 80, 1, 0)), none, none, some (.if_icmp .lt 13, 3, (0, 0, 0, 0)), none, none, some (.new 52, 3, (0, 0, 0, 0)), none, none, some (.dup, 1, (0, 0, 0, 0)), some (.ldc 54, 2, (0, 0, 0, 0)), none, some (.invokespecial 56, 3, (0, 0, 0, 0)), none, none, some (.athrow, 1, (0, 0, 0, 0)), some (.iload_n 1, 1, (0, 0, 0, 0)), some (.iconst 1, 1, (0, 0, 0, 0)), some (.ishl, 1, (0, 0, 0, 0)), some (.istore_n 1, 1, (0, 0, 0, 0)), some (.aload_n 0, 1, (0, 0, 0, 0)), some (.iload_n 1, 1, (0, 0, 0, 0)), some (.iinc 1 1, 3, (0, 0, 0, 0)), none, none, some (.baload, 1, (0, 0, 0, 0)), some (.sipush 255, 3, (0, 0, 0, 0)), none, none, some (.iand, 1, (0, 0, 0, 0)), some (.getstatic 59, 3, (0, 0, 0, 0)), none, none, some (.ishl, 1, (0, 0, 0, 0)), some (.aload_n 0, 1, (0, 0, 0, 0)), some (.iload_n 1, 1, (0, 0, 0, 0)), some (.baload, 1, (0, 0, 0, 0)), some (.sipush 255, 3, (0, 0, 0, 0)), none, none, some (.iand, 1, (0, 0, 0, 0)), some (.getstatic 63, 3, (0, 0, 0, 0)), none, none, some (.ishl, 1, (0, 0, 0, 0)), some (.ior, 1, (0, 0, 0, 0)), some (.i2c, 1, (0, 0, 0, 0)), some (.ireturn, 1, (0, 0, 0, 0))]
def q_81 : ak_Q := (yJ2_getChar_3b067, cJ2_getChar_3b067, 2, (some .char), k_81, 22)
set_option maxRecDepth 100000 in
def k_82 : List ak_I := [some (.aload_n 0, 1, (0, 0, 0, 0)), some (.ldc 155, 2, (5, 6, 0, 0)), none, some (.invokevirtual 141, 3, (8, 70, 1, 10)), none, none, some (.ifCond .eq 5, 3, (0, 0, 0, 0)), none, none, some (.iconst 0, 1, (0, 0, 0, 0)), some (.ireturn, 1, (0, 0, 0, 0)), some (.aload_n 0, 1, (0, 0, 0, 0)), some (.ldc 157, 2, (5, 7, 0, 0)), none, some (.invokevirtual 141, 3, (8, 70, 1, 10)), none, none, some (.ifCond .eq 5, 3, (0, 0, 0, 0)), none, none, some (.iconst 1, 1, (0, 0, 0, 0)), some (.ireturn, 1, (0, 0, 0, 0)), some (.aload_n 0, 1, (0, 0, 0, 0)), some (.ldc 159, 2, (5, 8, 0, 0)), none, some (.invokevirtual 141, 3, (8, 70, 1, 10)), none, none, some (.ifCond .eq 5, 3, (0, 0, 0, 0)), none, none, some (.iconst 2, 1, (0, 0, 0, 0)), some (.ireturn, 1, (0, 0, 0, 0)), some (.aload_n 0, 1, (0, 0, 0, 0)), some (.ldc 161, 2, (5, 9, 0, 0)), none, some (.invokevirtual 141, 3, (8, 70, 1, 10)), none, none, some (.ifCond .eq 5, 3, (0, 0, 0, 0)), none, none, some (.iconst 3, 1, (0, 0, 0, 0)), some (.ireturn, 1, (0, 0, 0, 0)), some (.aload_n 0, 1, (0, 0, 0, 0)), some (.ldc 163, 2, (5, 10, 0, 0)), none, some (.invokevirtual 141, 3, (8, 70, 1, 10)), none, none, some (.ifCond .eq 5, 3, (0, 0, 0, 0)), none, none, some (.iconst 4, 1, (0, 0, 0, 0)), some (.ireturn, 1, (0, 0, 0, 0)), some (.aload_n 0, 1, (0, 0, 0, 0)), some (.ldc 165, 2, (5, 11, 0, 0)), none, some (.invokevirtual 141, 3, (8, 70, 1, 10)), none, none, some (.ifCond .eq 7, 3, (0, 0, 0, 0)), none, none, some (.iconst 5, 1, (0, 0, 0, 0)), some (.goto 4, 3, (0, 0, 0, 0)), none, none, some (.iconst (-1), 1, (0, 0, 0, 0)), some (.ireturn, 1, (0, 0, 0, 0))]
def q_82 : ak_Q := (yX10_name, cX10_name, 1, (some .int), k_82, 10)
set_option maxRecDepth 100000 in
def k_83 : List ak_I := [some (.aload_n 0, 1, (0, 0, 0, 0)), some (.getfield 61, 3, (1, 10, 11, 0)), none, none, some (.iconst (-1), 1, (0, 0, 0, 0)), some (.if_icmp .ne 11, 3, (0, 0, 0, 0)), none, none, some (.aload_n 0, 1, (0, 0, 0, 0)), some (.aload_n 0, 1, (0, 0, 0, 0)), some (.getfield 110, 3, (1, 10, 7, 0)), none, none, some (.putfield 61, 3, (1, 10, 11, 0)), none, none, some (.aload_n 0, 1, (0, 0, 0, 0)), some (.sipush 265, 3, (0, 0, 0, 0)), none, none, some (.putfield 76, 3, (1, 10, 8, 0)), none, none, some (.return_, 1, (0, 0, 0, 0))]
def q_83 : ak_Q := (yX10_fail, cX10_fail, 1, none, k_83, 10)
set_option maxRecDepth 100000 in
def k_84 : List ak_I := [some (.aload_n 0, 1, (0, 0, 0, 0)), some (.getfield 18, 3, (1, 10, 4, 1)), none, none, some (.iload_n 1, 1, (0, 0, 0, 0)), some (.iaload, 1, (0, 0, 0, 0)), some (.bipush 48, 2, (0, 0, 0, 0)), none, some (.if_icmp .lt 18, 3, (0, 0, 0, 0)), none, none, some (.aload_n 0, 1, (0, 0, 0, 0)), some (.getfield 18, 3, (1, 10, 4, 1)), none, none, some (.iload_n 1, 1, (0, 0, 0, 0)), some (.iaload, 1, (0, 0, 0, 0)), some (.bipush 57, 2, (0, 0, 0, 0)), none, some (.if_icmp .gt 7, 3, (0, 0, 0, 0)), none, none, some (.iconst 1, 1, (0, 0, 0, 0)), some (.goto 4, 3, (0, 0, 0, 0)), none, none, some (.iconst 0, 1, (0, 0, 0, 0)), some (.ireturn, 1, (0, 0, 0, 0))]
def q_84 : ak_Q := (yX10_isNumeral, cX10_isNumeral, 2, (some .boolean), k_84, 10)
set_option maxRecDepth 100000 in
def k_85 : List ak_I := [some (.aload_n 0, 1, (0, 0, 0, 0)), some (.iconst 0, 1, (0, 0, 0, 0)), some (.putfield 104, 3, (1, 10, 9, 0)), none, none, some (.aload_n 0, 1, (0, 0, 0, 0)), some (.getfield 55, 3, (1, 10, 6, 0)), none, none, some (.aload_n 0, 1, (0, 0, 0, 0)), some (.getfield 52, 3, (1, 10, 5, 0)), none, none, some (.if_icmp .ge 51, 3, (0, 0, 0, 0)), none, none, some (.aload_n 0, 1, (0, 0, 0, 0)), some (.aload_n 0, 1, (0, 0, 0, 0)), some (.getfield 55, 3, (1, 10, 6, 0)), none, none, some (.invokevirtual 123, 3, (8, 84, 1, 10)), none, none, some (.ifCond .eq 40, 3, (0, 0, 0, 0)), none, none, some (.aload_n 0, 1, (0, 0, 0, 0)), some (.aload_n 0, 1, (0, 0, 0, 0)), some (.getfield 104, 3, (1, 10, 9, 0)), none, none, some (.bipush 10, 2, (0, 0, 0, 0)), none, some (.imul, 1, (0, 0, 0, 0)), some (.aload_n 0, 1, (0, 0, 0, 0)), some (.getfield 18, 3, (1, 10, 4, 1)), none, none, some (.aload_n 0, 1, (0, 0, 0, 0)), some (.getfield 55, 3, (1, 10, 6, 0)), none, none, some (.iaload, 1, (0, 0, 0, 0)), some (.iadd, 1, (0, 0, 0, 0)), some (.bipush 48, 2, (0, 0, 0, 0)), none, some (.isub, 1, (0, 0, 0, 0)), some (.putfield 104, 3, (1, 10, 9, 0)), none, none, some (.aload_n 0, 1, (0, 0, 0, 0)), some (.dup, 1, (0, 0, 0, 0)), some (.getfield 55, 3, (1, 10, 6, 0)), none, none, some (.iconst 1, 1, (0, 0, 0, 0)), some (.iadd, 1, (0, 0, 0, 0)), some (.putfield 55, 3, (1, 10, 6, 0)), none, none, some (.goto (-56), 3, (0, 0, 0, 0)), none, none, some (.aload_n 0, 1, (0, 0, 0, 0)), some (.sipush 263, 3, (0, 0, 0, 0)), none, none, some (.putfield 76, 3, (1, 10, 8, 0)), none, none, some (.aload_n 0, 1, (0, 0, 0, 0)), some (.getfield 55, 3, (1, 10, 6, 0)), none, none, some (.aload_n 0, 1, (0, 0, 0, 0)), some (.getfield 110, 3, (1, 10, 7, 0)), none, none, some (.isub, 1, (0, 0, 0, 0)), some (.iconst 4, 1, (0, 0, 0, 0)), some (.if_icmp .le 7, 3, (0, 0, 0, 0)), none, none, some (.aload_n 0, 1, (0, 0, 0, 0)), some (.invokevirtual 79, 3, (8, 83, 0, 10)), none, none, some (.return_, 1, (0, 0, 0, 0))]
def q_85 : ak_Q := (yX10_advanceOverNumber, cX10_advanceOverNumber, 1, none, k_85, 10)
set_option maxRecDepth 100000 in
def k_86 : List ak_I := [some (.aload_n 0, 1, (0, 0, 0, 0)), some (.getfield 18, 3, (1, 10, 4, 1)), none, none, some (.iload_n 1, 1, (0, 0, 0, 0)), some (.iaload, 1, (0, 0, 0, 0)), some (.istore_n 2, 1, (0, 0, 0, 0)), some (.iload_n 2, 1, (0, 0, 0, 0)), some (.bipush 40, 2, (0, 0, 0, 0)), none, some (.if_icmp .eq 45, 3, (0, 0, 0, 0)), none, none, some (.iload_n 2, 1, (0, 0, 0, 0)), some (.bipush 41, 2, (0, 0, 0, 0)), none, some (.if_icmp .eq 39, 3, (0, 0, 0, 0)), none, none, some (.iload_n 2, 1, (0, 0, 0, 0)), some (.bipush 59, 2, (0, 0, 0, 0)), none, some (.if_icmp .eq 33, 3, (0, 0, 0, 0)), none, none, some (.iload_n 2, 1, (0, 0, 0, 0)), some (.bipush 43, 2, (0, 0, 0, 0)), none, some (.if_icmp .eq 27, 3, (0, 0, 0, 0)), none, none, some (.iload_n 2, 1, (0, 0, 0, 0)), some (.bipush 45, 2, (0, 0, 0, 0)), none, some (.if_icmp .eq 21, 3, (0, 0, 0, 0)), none, none, some (.iload_n 2, 1, (0, 0, 0, 0)), some (.bipush 42, 2, (0, 0, 0, 0)), none, some (.if_icmp .eq 15, 3, (0, 0, 0, 0)), none, none, some (.iload_n 2, 1, (0, 0, 0, 0)), some (.bipush 60, 2, (0, 0, 0, 0)), none, some (.if_icmp .eq 9, 3, (0, 0, 0, 0)), none, none, some (.iload_n 2, 1, (0, 0, 0, 0)), some (.bipush 61, 2, (0, 0, 0, 0)), none, some (.if_icmp .ne 7, 3, (0, 0, 0, 0)), none, none, some (.iconst 1, 1, (0, 0, 0, 0)), some (.goto 4, 3, (0, 0, 0, 0)), none, none, some (.iconst 0, 1, (0, 0, 0, 0)), some (.ireturn, 1, (0, 0, 0, 0))]
def q_86 : ak_Q := (yX10_isSign, cX10_isSign, 3, (some .boolean), k_86, 10)
set_option maxRecDepth 100000 in
def k_87 : List ak_I := [some (.aload_n 0, 1, (0, 0, 0, 0)), some (.getfield 76, 3, (1, 10, 8, 0)), none, none, some (.iload_n 1, 1, (0, 0, 0, 0)), some (.if_icmp .ne 10, 3, (0, 0, 0, 0)), none, none, some (.aload_n 0, 1, (0, 0, 0, 0)), some (.invokevirtual 64, 3, (8, 65, 0, 10)), none, none, some (.goto 7, 3, (0, 0, 0, 0)), none, none, some (.aload_n 0, 1, (0, 0, 0, 0)), some (.invokevirtual 79, 3, (8, 83, 0, 10)), none, none, some (.return_, 1, (0, 0, 0, 0))]
def q_87 : ak_Q := (yX10_take, cX10_take, 2, none, k_87, 10)
set_option maxRecDepth 100000 in
def k_88 : List ak_I := [some (.aload_n 0, 1, (0, 0, 0, 0)), some (.invokevirtual 82, 3, (8, 89, 0, 10)), none, none, some (.iconst 0, 1, (0, 0, 0, 0)), some (.istore_n 1, 1, (0, 0, 0, 0)), some (.iload_n 1, 1, (0, 0, 0, 0)), some (.sipush 160, 3, (0, 0, 0, 0)), none, none, some (.if_icmp .ge 33, 3, (0, 0, 0, 0)), none, none, some (.aload_n 0, 1, (0, 0, 0, 0)), some (.getfield 76, 3, (1, 10, 8, 0)), none, none, some (.sipush 259, 3, (0, 0, 0, 0)), none, none, some (.if_icmp .ne 23, 3, (0, 0, 0, 0)), none, none, some (.aload_n 0, 1, (0, 0, 0, 0)), some (.invokevirtual 64, 3, (8, 65, 0, 10)), none, none, some (.aload_n 0, 1, (0, 0, 0, 0)), some (.invokevirtual 82, 3, (8, 89, 0, 10)), none, none, some (.aload_n 0, 1, (0, 0, 0, 0)), some (.bipush (-15), 2, (0, 0, 0, 0)), none, some (.invokevirtual 25, 3, (8, 10, 1, 10)), none, none, some (.iinc 1 1, 3, (0, 0, 0, 0)), none, none, some (.goto (-34), 3, (0, 0, 0, 0)), none, none, some (.return_, 1, (0, 0, 0, 0))]
def q_88 : ak_Q := (yX10_readEither, cX10_readEither, 2, none, k_88, 10)
set_option maxRecDepth 100000 in
def k_89 : List ak_I := [some (.aload_n 0, 1, (0, 0, 0, 0)), some (.invokevirtual 85, 3, (8, 90, 0, 10)), none, none, some (.iconst 0, 1, (0, 0, 0, 0)), some (.istore_n 1, 1, (0, 0, 0, 0)), some (.iload_n 1, 1, (0, 0, 0, 0)), some (.sipush 160, 3, (0, 0, 0, 0)), none, none, some (.if_icmp .ge 33, 3, (0, 0, 0, 0)), none, none, some (.aload_n 0, 1, (0, 0, 0, 0)), some (.getfield 76, 3, (1, 10, 8, 0)), none, none, some (.sipush 260, 3, (0, 0, 0, 0)), none, none, some (.if_icmp .ne 23, 3, (0, 0, 0, 0)), none, none, some (.aload_n 0, 1, (0, 0, 0, 0)), some (.invokevirtual 64, 3, (8, 65, 0, 10)), none, none, some (.aload_n 0, 1, (0, 0, 0, 0)), some (.invokevirtual 85, 3, (8, 90, 0, 10)), none, none, some (.aload_n 0, 1, (0, 0, 0, 0)), some (.bipush (-14), 2, (0, 0, 0, 0)), none, some (.invokevirtual 25, 3, (8, 10, 1, 10)), none, none, some (.iinc 1 1, 3, (0, 0, 0, 0)), none, none, some (.goto (-34), 3, (0, 0, 0, 0)), none, none, some (.return_, 1, (0, 0, 0, 0))]
def q_89 : ak_Q := (yX10_readBoth, cX10_readBoth, 2, none, k_89, 10)
set_option maxRecDepth 100000 in
def k_90 : List ak_I := [some (.aload_n 0, 1, (0, 0, 0, 0)), some (.getfield 76, 3, (1, 10, 8, 0)), none, none, some (.sipush 261, 3, (0, 0, 0, 0)), none, none, some (.if_icmp .eq 10, 3, (0, 0, 0, 0)), none, none, some (.aload_n 0, 1, (0, 0, 0, 0)), some (.invokevirtual 88, 3, (8, 91, 0, 10)), none, none, some (.goto 30, 3, (0, 0, 0, 0)), none, none, some (.aload_n 0, 1, (0, 0, 0, 0)), some (.invokevirtual 91, 3, (8, 96, 0, 10)), none, none, some (.ifCond .eq 23, 3, (0, 0, 0, 0)), none, none, some (.aload_n 0, 1, (0, 0, 0, 0)), some (.invokevirtual 85, 3, (8, 90, 0, 10)), none, none, some (.aload_n 0, 1, (0, 0, 0, 0)), some (.dup, 1, (0, 0, 0, 0)), some (.getfield 58, 3, (1, 10, 10, 0)), none, none, some (.iconst 1, 1, (0, 0, 0, 0)), some (.isub, 1, (0, 0, 0, 0)), some (.putfield 58, 3, (1, 10, 10, 0)), none, none, some (.aload_n 0, 1, (0, 0, 0, 0)), some (.bipush (-8), 2, (0, 0, 0, 0)), none, some (.invokevirtual 25, 3, (8, 10, 1, 10)), none, none, some (.return_, 1, (0, 0, 0, 0))]
def q_90 : ak_Q := (yX10_readNot, cX10_readNot, 1, none, k_90, 10)
set_option maxRecDepth 100000 in
def k_91 : List ak_I := [some (.aload_n 0, 1, (0, 0, 0, 0)), some (.invokevirtual 95, 3, (8, 92, 0, 10)), none, none, some (.aload_n 0, 1, (0, 0, 0, 0)), some (.getfield 76, 3, (1, 10, 8, 0)), none, none, some (.bipush 60, 2, (0, 0, 0, 0)), none, some (.if_icmp .eq 12, 3, (0, 0, 0, 0)), none, none, some (.aload_n 0, 1, (0, 0, 0, 0)), some (.getfield 76, 3, (1, 10, 8, 0)), none, none, some (.bipush 61, 2, (0, 0, 0, 0)), none, some (.if_icmp .ne 33, 3, (0, 0, 0, 0)), none, none, some (.aload_n 0, 1, (0, 0, 0, 0)), some (.getfield 76, 3, (1, 10, 8, 0)), none, none, some (.bipush 60, 2, (0, 0, 0, 0)), none, some (.if_icmp .ne 8, 3, (0, 0, 0, 0)), none, none, some (.bipush (-12), 2, (0, 0, 0, 0)), none, some (.goto 5, 3, (0, 0, 0, 0)), none, none, some (.bipush (-13), 2, (0, 0, 0, 0)), none, some (.istore_n 1, 1, (0, 0, 0, 0)), some (.aload_n 0, 1, (0, 0, 0, 0)), some (.invokevirtual 64, 3, (8, 65, 0, 10)), none, none, some (.aload_n 0, 1, (0, 0, 0, 0)), some (.invokevirtual 95, 3, (8, 92, 0, 10)), none, none, some (.aload_n 0, 1, (0, 0, 0, 0)), some (.iload_n 1, 1, (0, 0, 0, 0)), some (.invokevirtual 25, 3, (8, 10, 1, 10)), none, none, some (.return_, 1, (0, 0, 0, 0))]
def q_91 : ak_Q := (yX10_readComparison, cX10_readComparison, 2, none, k_91, 10)
set_option maxRecDepth 100000 in
def k_92 : List ak_I := [some (.aload_n 0, 1, (0, 0, 0, 0)), some (.invokevirtual 98, 3, (8, 93, 0, 10)), none, none, some (.iconst 0, 1, (0, 0, 0, 0)), some (.istore_n 1, 1, (0, 0, 0, 0)), some (.iload_n 1, 1, (0, 0, 0, 0)), some (.sipush 160, 3, (0, 0, 0, 0)), none, none, some (.if_icmp .ge 57, 3, (0, 0, 0, 0)), none, none, some (.aload_n 0, 1, (0, 0, 0, 0)), some (.getfield 76, 3, (1, 10, 8, 0)), none, none, some (.bipush 43, 2, (0, 0, 0, 0)), none, some (.if_icmp .eq 12, 3, (0, 0, 0, 0)), none, none, some (.aload_n 0, 1, (0, 0, 0, 0)), some (.getfield 76, 3, (1, 10, 8, 0)), none, none, some (.bipush 45, 2, (0, 0, 0, 0)), none, some (.if_icmp .ne 39, 3, (0, 0, 0, 0)), none, none, some (.aload_n 0, 1, (0, 0, 0, 0)), some (.getfield 76, 3, (1, 10, 8, 0)), none, none, some (.bipush 43, 2, (0, 0, 0, 0)), none, some (.if_icmp .ne 8, 3, (0, 0, 0, 0)), none, none, some (.bipush (-9), 2, (0, 0, 0, 0)), none, some (.goto 5, 3, (0, 0, 0, 0)), none, none, some (.bipush (-10), 2, (0, 0, 0, 0)), none, some (.istore_n 2, 1, (0, 0, 0, 0)), some (.aload_n 0, 1, (0, 0, 0, 0)), some (.invokevirtual 64, 3, (8, 65, 0, 10)), none, none, some (.aload_n 0, 1, (0, 0, 0, 0)), some (.invokevirtual 98, 3, (8, 93, 0, 10)), none, none, some (.aload_n 0, 1, (0, 0, 0, 0)), some (.iload_n 2, 1, (0, 0, 0, 0)), some (.invokevirtual 25, 3, (8, 10, 1, 10)), none, none, some (.iinc 1 1, 3, (0, 0, 0, 0)), none, none, some (.goto (-58), 3, (0, 0, 0, 0)), none, none, some (.return_, 1, (0, 0, 0, 0))]
def q_92 : ak_Q := (yX10_readSum, cX10_readSum, 3, none, k_92, 10)
set_option maxRecDepth 100000 in
def k_93 : List ak_I := [some (.aload_n 0, 1, (0, 0, 0, 0)), some (.invokevirtual 101, 3, (8, 94, 0, 10)), none, none, some (.iconst 0, 1, (0, 0, 0, 0)), some (.istore_n 1, 1, (0, 0, 0, 0)), some (.iload_n 1, 1, (0, 0, 0, 0)), some (.sipush 160, 3, (0, 0, 0, 0)), none, none, some (.if_icmp .ge 32, 3, (0, 0, 0, 0)), none, none, some (.aload_n 0, 1, (0, 0, 0, 0)), some (.getfield 76, 3, (1, 10, 8, 0)), none, none, some (.bipush 42, 2, (0, 0, 0, 0)), none, some (.if_icmp .ne 23, 3, (0, 0, 0, 0)), none, none, some (.aload_n 0, 1, (0, 0, 0, 0)), some (.invokevirtual 64, 3, (8, 65, 0, 10)), none, none, some (.aload_n 0, 1, (0, 0, 0, 0)), some (.invokevirtual 101, 3, (8, 94, 0, 10)), none, none, some (.aload_n 0, 1, (0, 0, 0, 0)), some (.bipush (-11), 2, (0, 0, 0, 0)), none, some (.invokevirtual 25, 3, (8, 10, 1, 10)), none, none, some (.iinc 1 1, 3, (0, 0, 0, 0)), none, none, some (.goto (-33), 3, (0, 0, 0, 0)), none, none, some (.return_, 1, (0, 0, 0, 0))]
def q_93 : ak_Q := (yX10_readTerm, cX10_readTerm, 2, none, k_93, 10)
set_option maxRecDepth 100000 in
def k_94 : List ak_I := [some (.aload_n 0, 1, (0, 0, 0, 0)), some (.getfield 76, 3, (1, 10, 8, 0)), none, none, some (.sipush 263, 3, (0, 0, 0, 0)), none, none, some (.if_icmp .ne 18, 3, (0, 0, 0, 0)), none, none, some (.aload_n 0, 1, (0, 0, 0, 0)), some (.aload_n 0, 1, (0, 0, 0, 0)), some (.getfield 104, 3, (1, 10, 9, 0)), none, none, some (.invokevirtual 25, 3, (8, 10, 1, 10)), none, none, some (.aload_n 0, 1, (0, 0, 0, 0)), some (.invokevirtual 64, 3, (8, 65, 0, 10)), none, none, some (.goto 110, 3, (0, 0, 0, 0)), none, none, some (.aload_n 0, 1, (0, 0, 0, 0)), some (.getfield 76, 3, (1, 10, 8, 0)), none, none, some (.sipush 262, 3, (0, 0, 0, 0)), none, none, some (.if_icmp .ne 18, 3, (0, 0, 0, 0)), none, none, some (.aload_n 0, 1, (0, 0, 0, 0)), some (.aload_n 0, 1, (0, 0, 0, 0)), some (.getfield 104, 3, (1, 10, 9, 0)), none, none, some (.invokevirtual 107, 3, (8, 95, 1, 10)), none, none, some (.aload_n 0, 1, (0, 0, 0, 0)), some (.invokevirtual 64, 3, (8, 65, 0, 10)), none, none, some (.goto 85, 3, (0, 0, 0, 0)), none, none, some (.aload_n 0, 1, (0, 0, 0, 0)), some (.getfield 76, 3, (1, 10, 8, 0)), none, none, some (.bipush 45, 2, (0, 0, 0, 0)), none, some (.if_icmp .ne 33, 3, (0, 0, 0, 0)), none, none, some (.aload_n 0, 1, (0, 0, 0, 0)), some (.invokevirtual 91, 3, (8, 96, 0, 10)), none, none, some (.ifCond .eq 69, 3, (0, 0, 0, 0)), none, none, some (.aload_n 0, 1, (0, 0, 0, 0)), some (.invokevirtual 101, 3, (8, 94, 0, 10)), none, none, some (.aload_n 0, 1, (0, 0, 0, 0)), some (.dup, 1, (0, 0, 0, 0)), some (.getfield 58, 3, (1, 10, 10, 0)), none, none, some (.iconst 1, 1, (0, 0, 0, 0)), some (.isub, 1, (0, 0, 0, 0)), some (.putfield 58, 3, (1, 10, 10, 0)), none, none, some (.aload_n 0, 1, (0, 0, 0, 0)), some (.bipush (-7), 2, (0, 0, 0, 0)), none, some (.invokevirtual 25, 3, (8, 10, 1, 10)), none, none, some (.goto 46, 3, (0, 0, 0, 0)), none, none, some (.aload_n 0, 1, (0, 0, 0, 0)), some (.getfield 76, 3, (1, 10, 8, 0)), none, none, some (.bipush 40, 2, (0, 0, 0, 0)), none, some (.if_icmp .ne 33, 3, (0, 0, 0, 0)), none, none, some (.aload_n 0, 1, (0, 0, 0, 0)), some (.invokevirtual 91, 3, (8, 96, 0, 10)), none, none, some (.ifCond .eq 30, 3, (0, 0, 0, 0)), none, none, some (.aload_n 0, 1, (0, 0, 0, 0)), some (.invokevirtual 70, 3, (8, 88, 0, 10)), none, none, some (.aload_n 0, 1, (0, 0, 0, 0)), some (.bipush 41, 2, (0, 0, 0, 0)), none, some (.invokevirtual 67, 3, (8, 87, 1, 10)), none, none, some (.aload_n 0, 1, (0, 0, 0, 0)), some (.dup, 1, (0, 0, 0, 0)), some (.getfield 58, 3, (1, 10, 10, 0)), none, none, some (.iconst 1, 1, (0, 0, 0, 0)), some (.isub, 1, (0, 0, 0, 0)), some (.putfield 58, 3, (1, 10, 10, 0)), none, none, some (.goto 7, 3, (0, 0, 0, 0)), none, none, some (.aload_n 0, 1, (0, 0, 0, 0)), some (.invokevirtual 79, 3, (8, 83, 0, 10)), none, none, some (.return_, 1, (0, 0, 0, 0))]
def q_94 : ak_Q := (yX10_readOne, cX10_readOne, 1, none, k_94, 10)
set_option maxRecDepth 100000 in
def k_95 : List ak_I := [some (.aload_n 0, 1, (0, 0, 0, 0)), some (.iconst (-1), 1, (0, 0, 0, 0)), some (.iload_n 1, 1, (0, 0, 0, 0)), some (.isub, 1, (0, 0, 0, 0)), some (.invokevirtual 25, 3, (8, 10, 1, 10)), none, none, some (.return_, 1, (0, 0, 0, 0))]
def q_95 : ak_Q := (yX10_addName, cX10_addName, 2, none, k_95, 10)
set_option maxRecDepth 100000 in
def k_96 : List ak_I := [some (.aload_n 0, 1, (0, 0, 0, 0)), some (.getfield 58, 3, (1, 10, 10, 0)), none, none, some (.iconst 5, 1, (0, 0, 0, 0)), some (.if_icmp .lt 9, 3, (0, 0, 0, 0)), none, none, some (.aload_n 0, 1, (0, 0, 0, 0)), some (.invokevirtual 79, 3, (8, 83, 0, 10)), none, none, some (.iconst 0, 1, (0, 0, 0, 0)), some (.ireturn, 1, (0, 0, 0, 0)), some (.aload_n 0, 1, (0, 0, 0, 0)), some (.dup, 1, (0, 0, 0, 0)), some (.getfield 58, 3, (1, 10, 10, 0)), none, none, some (.iconst 1, 1, (0, 0, 0, 0)), some (.iadd, 1, (0, 0, 0, 0)), some (.putfield 58, 3, (1, 10, 10, 0)), none, none, some (.aload_n 0, 1, (0, 0, 0, 0)), some (.invokevirtual 64, 3, (8, 65, 0, 10)), none, none, some (.iconst 1, 1, (0, 0, 0, 0)), some (.ireturn, 1, (0, 0, 0, 0))]
def q_96 : ak_Q := (yX10_openOne, cX10_openOne, 1, (some .boolean), k_96, 10)
set_option maxRecDepth 100000 in
def k_97 : List ak_I := [some (.iload_n 1, 1, (0, 0, 0, 0)), some (.ifCond .lt 14, 3, (0, 0, 0, 0)), none, none, some (.iload_n 1, 1, (0, 0, 0, 0)), some (.aload_n 0, 1, (0, 0, 0, 0)), some (.getfield 31, 3, (1, 11, 6, 1)), none, none, some (.getfield 115, 3, (1, 6, 0, 0)), none, none, some (.if_icmp .lt 6, 3, (0, 0, 0, 0)), none, none, some (.bipush (-2), 2, (0, 0, 0, 0)), none, some (.ireturn, 1, (0, 0, 0, 0)), some (.aload_n 0, 1, (0, 0, 0, 0)), some (.getfield 12, 3, (1, 11, 0, 1)), none, none, some (.getfield 128, 3, (1, 8, 3, 0)), none, none, some (.istore_n 2, 1, (0, 0, 0, 0)), some (.aload_n 0, 1, (0, 0, 0, 0)), some (.getfield 12, 3, (1, 11, 0, 1)), none, none, some (.iload_n 1, 1, (0, 0, 0, 0)), some (.putfield 128, 3, (1, 8, 3, 0)), none, none, some (.iload_n 2, 1, (0, 0, 0, 0)), some (.ireturn, 1, (0, 0, 0, 0))]
def q_97 : ak_Q := (yX11_force, cX11_force, 3, (some .int), k_97, 11)
set_option maxRecDepth 100000 in
def k_98 : List ak_I := [some (.iload_n 1, 1, (0, 0, 0, 0)), some (.bipush 10, 2, (0, 0, 0, 0)), none, some (.if_icmp .lt 17, 3, (0, 0, 0, 0)), none, none, some (.iload_n 1, 1, (0, 0, 0, 0)), some (.bipush 10, 2, (0, 0, 0, 0)), none, some (.isub, 1, (0, 0, 0, 0)), some (.invokestatic 81, 3, (11, 26, 1, 0)), none, none, some (.ifCond .eq 7, 3, (0, 0, 0, 0)), none, none, some (.iconst 1, 1, (0, 0, 0, 0)), some (.goto 4, 3, (0, 0, 0, 0)), none, none, some (.iconst 0, 1, (0, 0, 0, 0)), some (.istore_n 2, 1, (0, 0, 0, 0)), some (.iload_n 1, 1, (0, 0, 0, 0)), some (.ifCond .eq 20, 3, (0, 0, 0, 0)), none, none, some (.iload_n 1, 1, (0, 0, 0, 0)), some (.iconst 1, 1, (0, 0, 0, 0)), some (.if_icmp .eq 15, 3, (0, 0, 0, 0)), none, none, some (.iload_n 1, 1, (0, 0, 0, 0)), some (.iconst 2, 1, (0, 0, 0, 0)), some (.if_icmp .eq 10, 3, (0, 0, 0, 0)), none, none, some (.iload_n 2, 1, (0, 0, 0, 0)), some (.ifCond .ne 6, 3, (0, 0, 0, 0)), none, none, some (.ldc 131, 2, (4, 0, 0, -100000)), none, some (.ireturn, 1, (0, 0, 0, 0)), some (.aload_n 0, 1, (0, 0, 0, 0)), some (.getfield 40, 3, (1, 11, 7, 1)), none, none, some (.aload_n 0, 1, (0, 0, 0, 0)), some (.getfield 12, 3, (1, 11, 0, 1)), none, none, some (.invokevirtual 132, 3, (8, 99, 1, 5)), none, none, some (.iload_n 2, 1, (0, 0, 0, 0)), some (.ifCond .eq 15, 3, (0, 0, 0, 0)), none, none, some (.aload_n 0, 1, (0, 0, 0, 0)), some (.getfield 40, 3, (1, 11, 7, 1)), none, none, some (.iload_n 1, 1, (0, 0, 0, 0)), some (.bipush 10, 2, (0, 0, 0, 0)), none, some (.isub, 1, (0, 0, 0, 0)), some (.invokevirtual 136, 3, (8, 105, 1, 5)), none, none, some (.ireturn, 1, (0, 0, 0, 0)), some (.iload_n 1, 1, (0, 0, 0, 0)), some (.ifCond .ne 19, 3, (0, 0, 0, 0)), none, none, some (.aload_n 0, 1, (0, 0, 0, 0)), some (.getfield 40, 3, (1, 11, 7, 1)), none, none, some (.invokevirtual 139, 3, (8, 107, 0, 5)), none, none, some (.ifCond .eq 7, 3, (0, 0, 0, 0)), none, none, some (.iconst 1, 1, (0, 0, 0, 0)), some (.goto 4, 3, (0, 0, 0, 0)), none, none, some (.iconst 0, 1, (0, 0, 0, 0)), some (.ireturn, 1, (0, 0, 0, 0)), some (.iload_n 1, 1, (0, 0, 0, 0)), some (.iconst 1, 1, (0, 0, 0, 0)), some (.if_icmp .ne 13, 3, (0, 0, 0, 0)), none, none, some (.aload_n 0, 1, (0, 0, 0, 0)), some (.getfield 40, 3, (1, 11, 7, 1)), none, none, some (.invokevirtual 143, 3, (8, 109, 0, 5)), none, none, some (.goto 10, 3, (0, 0, 0, 0)), none, none, some (.aload_n 0, 1, (0, 0, 0, 0)), some (.getfield 40, 3, (1, 11, 7, 1)), none, none, some (.invokevirtual 147, 3, (8, 108, 0, 5)), none, none, some (.ireturn, 1, (0, 0, 0, 0))]
def q_98 : ak_Q := (yX11_plan, cX11_plan, 3, (some .int), k_98, 11)
set_option maxRecDepth 100000 in
def k_99 : List ak_I := [some (.aload_n 0, 1, (0, 0, 0, 0)), some (.aload_n 1, 1, (0, 0, 0, 0)), some (.putfield 41, 3, (1, 5, 1, 0)), none, none, some (.iconst 0, 1, (0, 0, 0, 0)), some (.istore_n 2, 1, (0, 0, 0, 0)), some (.iload_n 2, 1, (0, 0, 0, 0)), some (.aload_n 0, 1, (0, 0, 0, 0)), some (.getfield 22, 3, (1, 5, 5, 1)), none, none, some (.arraylength, 1, (0, 0, 0, 0)), some (.if_icmp .ge 23, 3, (0, 0, 0, 0)), none, none, some (.aload_n 0, 1, (0, 0, 0, 0)), some (.getfield 22, 3, (1, 5, 5, 1)), none, none, some (.iload_n 2, 1, (0, 0, 0, 0)), some (.aload_n 0, 1, (0, 0, 0, 0)), some (.getfield 41, 3, (1, 5, 1, 0)), none, none, some (.iload_n 2, 1, (0, 0, 0, 0)), some (.invokevirtual 45, 3, (8, 100, 1, 8)), none, none, some (.bastore, 1, (0, 0, 0, 0)), some (.iinc 2 1, 3, (0, 0, 0, 0)), none, none, some (.goto (-26), 3, (0, 0, 0, 0)), none, none, some (.iconst 0, 1, (0, 0, 0, 0)), some (.istore_n 2, 1, (0, 0, 0, 0)), some (.iload_n 2, 1, (0, 0, 0, 0)), some (.aload_n 0, 1, (0, 0, 0, 0)), some (.getfield 41, 3, (1, 5, 1, 0)), none, none, some (.getfield 51, 3, (1, 8, 4, 0)), none, none, some (.if_icmp .ge 14, 3, (0, 0, 0, 0)), none, none, some (.aload_n 0, 1, (0, 0, 0, 0)), some (.iload_n 2, 1, (0, 0, 0, 0)), some (.invokevirtual 55, 3, (8, 102, 1, 5)), none, none, some (.iinc 2 1, 3, (0, 0, 0, 0)), none, none, some (.goto (-19), 3, (0, 0, 0, 0)), none, none, some (.aload_n 0, 1, (0, 0, 0, 0)), some (.invokevirtual 59, 3, (8, 104, 0, 5)), none, none, some (.return_, 1, (0, 0, 0, 0))]
def q_99 : ak_Q := (yX5_look, cX5_look, 3, none, k_99, 5)
set_option maxRecDepth 100000 in
def k_100 : List ak_I := [some (.iconst 1, 1, (0, 0, 0, 0)), some (.aload_n 0, 1, (0, 0, 0, 0)), some (.getfield 46, 3, (1, 8, 4, 0)), none, none, some (.ishl, 1, (0, 0, 0, 0)), some (.iconst 1, 1, (0, 0, 0, 0)), some (.isub, 1, (0, 0, 0, 0)), some (.istore_n 2, 1, (0, 0, 0, 0)), some (.iload_n 2, 1, (0, 0, 0, 0)), some (.iload_n 1, 1, (0, 0, 0, 0)), some (.iconst (-1), 1, (0, 0, 0, 0)), some (.ixor, 1, (0, 0, 0, 0)), some (.iand, 1, (0, 0, 0, 0)), some (.istore_n 3, 1, (0, 0, 0, 0)), some (.aload_n 0, 1, (0, 0, 0, 0)), some (.getfield 40, 3, (1, 8, 2, 0)), none, none, some (.iload_n 2, 1, (0, 0, 0, 0)), some (.iand, 1, (0, 0, 0, 0)), some (.istore 4, 2, (0, 0, 0, 0)), none, some (.iload_n 3, 1, (0, 0, 0, 0)), some (.invokestatic 70, 3, (11, 101, 1, 0)), none, none, some (.aload_n 0, 1, (0, 0, 0, 0)), some (.getfield 9, 3, (1, 8, 1, 0)), none, none, some (.aload_n 0, 1, (0, 0, 0, 0)), some (.getfield 46, 3, (1, 8, 4, 0)), none, none, some (.invokestatic 76, 3, (19, 0, 0, 0)), none, none, some (.if_icmp .lt 15, 3, (0, 0, 0, 0)), none, none, some (.iload 4, 2, (0, 0, 0, 0)), none, some (.ifCond .eq 12, 3, (0, 0, 0, 0)), none, none, some (.iload 4, 2, (0, 0, 0, 0)), none, some (.iload_n 3, 1, (0, 0, 0, 0)), some (.iand, 1, (0, 0, 0, 0)), some (.ifCond .ne 5, 3, (0, 0, 0, 0)), none, none, some (.iconst 0, 1, (0, 0, 0, 0)), some (.ireturn, 1, (0, 0, 0, 0)), some (.iconst 0, 1, (0, 0, 0, 0)), some (.istore 5, 2, (0, 0, 0, 0)), none, some (.iload 5, 2, (0, 0, 0, 0)), none, some (.aload_n 0, 1, (0, 0, 0, 0)), some (.getfield 46, 3, (1, 8, 4, 0)), none, none, some (.if_icmp .ge 32, 3, (0, 0, 0, 0)), none, none, some (.iload_n 1, 1, (0, 0, 0, 0)), some (.iload 5, 2, (0, 0, 0, 0)), none, some (.ishr, 1, (0, 0, 0, 0)), some (.iconst 1, 1, (0, 0, 0, 0)), some (.iand, 1, (0, 0, 0, 0)), some (.ifCond .eq 17, 3, (0, 0, 0, 0)), none, none, some (.aload_n 0, 1, (0, 0, 0, 0)), some (.getfield 34, 3, (1, 8, 11, 1)), none, none, some (.iload 5, 2, (0, 0, 0, 0)), none, some (.iaload, 1, (0, 0, 0, 0)), some (.iload_n 1, 1, (0, 0, 0, 0)), some (.iand, 1, (0, 0, 0, 0)), some (.ifCond .eq 5, 3, (0, 0, 0, 0)), none, none, some (.iconst 0, 1, (0, 0, 0, 0)), some (.ireturn, 1, (0, 0, 0, 0)), some (.iinc 5 1, 3, (0, 0, 0, 0)), none, none, some (.goto (-35), 3, (0, 0, 0, 0)), none, none, some (.iconst 1, 1, (0, 0, 0, 0)), some (.ireturn, 1, (0, 0, 0, 0))]
def q_100 : ak_Q := (yX8_allows, cX8_allows, 6, (some .boolean), k_100, 8)
set_option maxRecDepth 100000 in
def k_101 : List ak_I := [some (.iload_n 0, 1, (0, 0, 0, 0)), some (.iload_n 0, 1, (0, 0, 0, 0)), some (.iconst 1, 1, (0, 0, 0, 0)), some (.iushr, 1, (0, 0, 0, 0)), some (.ldc_w 265, 3, (4, 0, 0, 1431655765)), none, none, some (.iand, 1, (0, 0, 0, 0)), some (.isub, 1, (0, 0, 0, 0)), some (.istore_n 0, 1, (0, 0, 0, 0)), some (.iload_n 0, 1, (0, 0, 0, 0)), some (.ldc_w 266, 3, (4, 0, 0, 858993459)), none, none, some (.iand, 1, (0, 0, 0, 0)), some (.iload_n 0, 1, (0, 0, 0, 0)), some (.iconst 2, 1, (0, 0, 0, 0)), some (.iushr, 1, (0, 0, 0, 0)), some (.ldc_w 266, 3, (4, 0, 0, 858993459)), none, none, some (.iand, 1, (0, 0, 0, 0)), some (.iadd, 1, (0, 0, 0, 0)), some (.istore_n 0, 1, (0, 0, 0, 0)), some (.iload_n 0, 1, (0, 0, 0, 0)), some (.iload_n 0, 1, (0, 0, 0, 0)), some (.iconst 4, 1, (0, 0, 0, 0)), some (.iushr, 1, (0, 0, 0, 0)), some (.iadd, 1, (0, 0, 0, 0)), some (.ldc_w 267, 3, (4, 0, 0, 252645135)), none, none, some (.iand, 1, (0, 0, 0, 0)), some (.istore_n 0, 1, (0, 0, 0, 0)), some (.iload_n 0, 1, (0, 0, 0, 0)), some (.iload_n 0, 1, (0, 0, 0, 0)), some (.bipush 8, 2, (0, 0, 0, 0)), none, some (.iushr, 1, (0, 0, 0, 0)), some (.iadd, 1, (0, 0, 0, 0)), some (.istore_n 0, 1, (0, 0, 0, 0)), some (.iload_n 0, 1, (0, 0, 0, 0)), some (.iload_n 0, 1, (0, 0, 0, 0)), some (.bipush 16, 2, (0, 0, 0, 0)), none, some (.iushr, 1, (0, 0, 0, 0)), some (.iadd, 1, (0, 0, 0, 0)), some (.istore_n 0, 1, (0, 0, 0, 0)), some (.iload_n 0, 1, (0, 0, 0, 0)), some (.bipush 63, 2, (0, 0, 0, 0)), none, some (.iand, 1, (0, 0, 0, 0)), some (.ireturn, 1, (0, 0, 0, 0))]
def q_101 : ak_Q := (yJ6_bitCount_0f7a4, cJ6_bitCount_0f7a4, 1, (some .int), k_101, 26)
set_option maxRecDepth 100000 in
def k_102 : List ak_I := [some (.iconst 0, 1, (0, 0, 0, 0)), some (.istore_n 2, 1, (0, 0, 0, 0)), some (.iconst 0, 1, (0, 0, 0, 0)), some (.istore_n 3, 1, (0, 0, 0, 0)), some (.iload_n 3, 1, (0, 0, 0, 0)), some (.bipush 8, 2, (0, 0, 0, 0)), none, some (.if_icmp .ge 50, 3, (0, 0, 0, 0)), none, none, some (.aload_n 0, 1, (0, 0, 0, 0)), some (.getfield 25, 3, (1, 5, 6, 1)), none, none, some (.iload_n 3, 1, (0, 0, 0, 0)), some (.aload_n 0, 1, (0, 0, 0, 0)), some (.getfield 37, 3, (1, 5, 0, 1)), none, none, some (.aload_n 0, 1, (0, 0, 0, 0)), some (.getfield 41, 3, (1, 5, 1, 0)), none, none, some (.iload_n 1, 1, (0, 0, 0, 0)), some (.iload_n 3, 1, (0, 0, 0, 0)), some (.invokevirtual 62, 3, (8, 48, 3, 6)), none, none, some (.iastore, 1, (0, 0, 0, 0)), some (.aload_n 0, 1, (0, 0, 0, 0)), some (.getfield 37, 3, (1, 5, 0, 1)), none, none, some (.aload_n 0, 1, (0, 0, 0, 0)), some (.getfield 41, 3, (1, 5, 1, 0)), none, none, some (.iload_n 1, 1, (0, 0, 0, 0)), some (.iload_n 3, 1, (0, 0, 0, 0)), some (.invokevirtual 67, 3, (8, 29, 3, 6)), none, none, some (.ifCond .eq 9, 3, (0, 0, 0, 0)), none, none, some (.iload_n 2, 1, (0, 0, 0, 0)), some (.iconst 1, 1, (0, 0, 0, 0)), some (.iload_n 3, 1, (0, 0, 0, 0)), some (.ishl, 1, (0, 0, 0, 0)), some (.ior, 1, (0, 0, 0, 0)), some (.istore_n 2, 1, (0, 0, 0, 0)), some (.iinc 3 1, 3, (0, 0, 0, 0)), none, none, some (.goto (-50), 3, (0, 0, 0, 0)), none, none, some (.iconst 0, 1, (0, 0, 0, 0)), some (.istore_n 3, 1, (0, 0, 0, 0)), some (.iload_n 3, 1, (0, 0, 0, 0)), some (.bipush 9, 2, (0, 0, 0, 0)), none, some (.if_icmp .ge 79, 3, (0, 0, 0, 0)), none, none, some (.iload_n 1, 1, (0, 0, 0, 0)), some (.bipush 9, 2, (0, 0, 0, 0)), none, some (.imul, 1, (0, 0, 0, 0)), some (.iload_n 3, 1, (0, 0, 0, 0)), some (.iadd, 1, (0, 0, 0, 0)), some (.istore 4, 2, (0, 0, 0, 0)), none, some (.aload_n 0, 1, (0, 0, 0, 0)), some (.getfield 9, 3, (1, 5, 2, 1)), none, none, some (.iload 4, 2, (0, 0, 0, 0)), none, some (.aload_n 0, 1, (0, 0, 0, 0)), some (.getfield 41, 3, (1, 5, 1, 0)), none, none, some (.iload_n 1, 1, (0, 0, 0, 0)), some (.iload_n 3, 1, (0, 0, 0, 0)), some (.iconst 1, 1, (0, 0, 0, 0)), some (.isub, 1, (0, 0, 0, 0)), some (.invokevirtual 71, 3, (8, 28, 2, 8)), none, none, some (.iastore, 1, (0, 0, 0, 0)), some (.aload_n 0, 1, (0, 0, 0, 0)), some (.getfield 18, 3, (1, 5, 4, 1)), none, none, some (.iload 4, 2, (0, 0, 0, 0)), none, some (.aload_n 0, 1, (0, 0, 0, 0)), some (.getfield 9, 3, (1, 5, 2, 1)), none, none, some (.iload 4, 2, (0, 0, 0, 0)), none, some (.iaload, 1, (0, 0, 0, 0)), some (.iload_n 2, 1, (0, 0, 0, 0)), some (.iconst (-1), 1, (0, 0, 0, 0)), some (.ixor, 1, (0, 0, 0, 0)), some (.iand, 1, (0, 0, 0, 0)), some (.ifCond .ne 7, 3, (0, 0, 0, 0)), none, none, some (.iconst 1, 1, (0, 0, 0, 0)), some (.goto 4, 3, (0, 0, 0, 0)), none, none, some (.iconst 0, 1, (0, 0, 0, 0)), some (.bastore, 1, (0, 0, 0, 0)), some (.aload_n 0, 1, (0, 0, 0, 0)), some (.getfield 15, 3, (1, 5, 3, 1)), none, none, some (.iload 4, 2, (0, 0, 0, 0)), none, some (.aload_n 0, 1, (0, 0, 0, 0)), some (.aload_n 0, 1, (0, 0, 0, 0)), some (.getfield 9, 3, (1, 5, 2, 1)), none, none, some (.iload 4, 2, (0, 0, 0, 0)), none, some (.iaload, 1, (0, 0, 0, 0)), some (.invokevirtual 75, 3, (8, 103, 1, 5)), none, none, some (.iastore, 1, (0, 0, 0, 0)), some (.iinc 3 1, 3, (0, 0, 0, 0)), none, none, some (.goto (-79), 3, (0, 0, 0, 0)), none, none, some (.return_, 1, (0, 0, 0, 0))]
def q_102 : ak_Q := (yX5_lookAtOne, cX5_lookAtOne, 5, none, k_102, 5)
set_option maxRecDepth 100000 in
def k_103 : List ak_I := [some (.iconst 0, 1, (0, 0, 0, 0)), some (.istore_n 2, 1, (0, 0, 0, 0)), some (.iconst 0, 1, (0, 0, 0, 0)), some (.istore_n 3, 1, (0, 0, 0, 0)), some (.iload_n 3, 1, (0, 0, 0, 0)), some (.bipush 8, 2, (0, 0, 0, 0)), none, some (.if_icmp .ge 26, 3, (0, 0, 0, 0)), none, none, some (.iload_n 1, 1, (0, 0, 0, 0)), some (.iload_n 3, 1, (0, 0, 0, 0)), some (.ishr, 1, (0, 0, 0, 0)), some (.iconst 1, 1, (0, 0, 0, 0)), some (.iand, 1, (0, 0, 0, 0)), some (.ifCond .eq 12, 3, (0, 0, 0, 0)), none, none, some (.iload_n 2, 1, (0, 0, 0, 0)), some (.aload_n 0, 1, (0, 0, 0, 0)), some (.getfield 25, 3, (1, 5, 6, 1)), none, none, some (.iload_n 3, 1, (0, 0, 0, 0)), some (.iaload, 1, (0, 0, 0, 0)), some (.iadd, 1, (0, 0, 0, 0)), some (.istore_n 2, 1, (0, 0, 0, 0)), some (.iinc 3 1, 3, (0, 0, 0, 0)), none, none, some (.goto (-26), 3, (0, 0, 0, 0)), none, none, some (.iload_n 2, 1, (0, 0, 0, 0)), some (.ireturn, 1, (0, 0, 0, 0))]
def q_103 : ak_Q := (yX5_gladnessOf, cX5_gladnessOf, 4, (some .int), k_103, 5)
set_option maxRecDepth 100000 in
def k_104 : List ak_I := [some (.iconst 0, 1, (0, 0, 0, 0)), some (.istore_n 1, 1, (0, 0, 0, 0)), some (.iload_n 1, 1, (0, 0, 0, 0)), some (.aload_n 0, 1, (0, 0, 0, 0)), some (.getfield 41, 3, (1, 5, 1, 0)), none, none, some (.getfield 51, 3, (1, 8, 4, 0)), none, none, some (.if_icmp .ge 45, 3, (0, 0, 0, 0)), none, none, some (.aload_n 0, 1, (0, 0, 0, 0)), some (.getfield 28, 3, (1, 5, 7, 1)), none, none, some (.iload_n 1, 1, (0, 0, 0, 0)), some (.aload_n 0, 1, (0, 0, 0, 0)), some (.getfield 41, 3, (1, 5, 1, 0)), none, none, some (.getfield 79, 3, (1, 8, 10, 1)), none, none, some (.iload_n 1, 1, (0, 0, 0, 0)), some (.iaload, 1, (0, 0, 0, 0)), some (.invokestatic 82, 3, (12, 26, 1, 0)), none, none, some (.ifCond .eq 17, 3, (0, 0, 0, 0)), none, none, some (.aload_n 0, 1, (0, 0, 0, 0)), some (.getfield 41, 3, (1, 5, 1, 0)), none, none, some (.getfield 79, 3, (1, 8, 10, 1)), none, none, some (.iload_n 1, 1, (0, 0, 0, 0)), some (.iaload, 1, (0, 0, 0, 0)), some (.iconst 1, 1, (0, 0, 0, 0)), some (.iadd, 1, (0, 0, 0, 0)), some (.goto 4, 3, (0, 0, 0, 0)), none, none, some (.iconst 0, 1, (0, 0, 0, 0)), some (.iastore, 1, (0, 0, 0, 0)), some (.iinc 1 1, 3, (0, 0, 0, 0)), none, none, some (.goto (-50), 3, (0, 0, 0, 0)), none, none, some (.return_, 1, (0, 0, 0, 0))]
def q_104 : ak_Q := (yX5_takeBooked, cX5_takeBooked, 2, none, k_104, 5)
set_option maxRecDepth 100000 in
def k_105 : List ak_I := [some (.iconst 0, 1, (0, 0, 0, 0)), some (.istore_n 2, 1, (0, 0, 0, 0)), some (.iconst 0, 1, (0, 0, 0, 0)), some (.istore_n 3, 1, (0, 0, 0, 0)), some (.iload_n 3, 1, (0, 0, 0, 0)), some (.aload_n 0, 1, (0, 0, 0, 0)), some (.getfield 41, 3, (1, 5, 1, 0)), none, none, some (.getfield 51, 3, (1, 8, 4, 0)), none, none, some (.if_icmp .ge 28, 3, (0, 0, 0, 0)), none, none, some (.iload_n 2, 1, (0, 0, 0, 0)), some (.aload_n 0, 1, (0, 0, 0, 0)), some (.getfield 9, 3, (1, 5, 2, 1)), none, none, some (.aload_n 0, 1, (0, 0, 0, 0)), some (.iload_n 3, 1, (0, 0, 0, 0)), some (.invokevirtual 88, 3, (8, 106, 1, 5)), none, none, some (.iaload, 1, (0, 0, 0, 0)), some (.iload_n 1, 1, (0, 0, 0, 0)), some (.ishr, 1, (0, 0, 0, 0)), some (.iconst 1, 1, (0, 0, 0, 0)), some (.iand, 1, (0, 0, 0, 0)), some (.iload_n 3, 1, (0, 0, 0, 0)), some (.ishl, 1, (0, 0, 0, 0)), some (.ior, 1, (0, 0, 0, 0)), some (.istore_n 2, 1, (0, 0, 0, 0)), some (.iinc 3 1, 3, (0, 0, 0, 0)), none, none, some (.goto (-33), 3, (0, 0, 0, 0)), none, none, some (.iload_n 2, 1, (0, 0, 0, 0)), some (.ireturn, 1, (0, 0, 0, 0))]
def q_105 : ak_Q := (yX5_awayIn, cX5_awayIn, 4, (some .int), k_105, 5)
set_option maxRecDepth 100000 in
def k_106 : List ak_I := [some (.iload_n 1, 1, (0, 0, 0, 0)), some (.bipush 9, 2, (0, 0, 0, 0)), none, some (.imul, 1, (0, 0, 0, 0)), some (.aload_n 0, 1, (0, 0, 0, 0)), some (.getfield 28, 3, (1, 5, 7, 1)), none, none, some (.iload_n 1, 1, (0, 0, 0, 0)), some (.iaload, 1, (0, 0, 0, 0)), some (.iadd, 1, (0, 0, 0, 0)), some (.ireturn, 1, (0, 0, 0, 0))]
def q_106 : ak_Q := (yX5_place, cX5_place, 2, (some .int), k_106, 5)
set_option maxRecDepth 100000 in
def k_107 : List ak_I := [some (.iconst 0, 1, (0, 0, 0, 0)), some (.istore_n 1, 1, (0, 0, 0, 0)), some (.iload_n 1, 1, (0, 0, 0, 0)), some (.aload_n 0, 1, (0, 0, 0, 0)), some (.getfield 41, 3, (1, 5, 1, 0)), none, none, some (.getfield 51, 3, (1, 8, 4, 0)), none, none, some (.if_icmp .ge 24, 3, (0, 0, 0, 0)), none, none, some (.aload_n 0, 1, (0, 0, 0, 0)), some (.getfield 18, 3, (1, 5, 4, 1)), none, none, some (.aload_n 0, 1, (0, 0, 0, 0)), some (.iload_n 1, 1, (0, 0, 0, 0)), some (.invokevirtual 88, 3, (8, 106, 1, 5)), none, none, some (.baload, 1, (0, 0, 0, 0)), some (.ifCond .ne 5, 3, (0, 0, 0, 0)), none, none, some (.iconst 0, 1, (0, 0, 0, 0)), some (.ireturn, 1, (0, 0, 0, 0)), some (.iinc 1 1, 3, (0, 0, 0, 0)), none, none, some (.goto (-29), 3, (0, 0, 0, 0)), none, none, some (.aload_n 0, 1, (0, 0, 0, 0)), some (.invokevirtual 96, 3, (8, 108, 0, 5)), none, none, some (.iconst (-1), 1, (0, 0, 0, 0)), some (.if_icmp .ne 7, 3, (0, 0, 0, 0)), none, none, some (.iconst 1, 1, (0, 0, 0, 0)), some (.goto 4, 3, (0, 0, 0, 0)), none, none, some (.iconst 0, 1, (0, 0, 0, 0)), some (.ireturn, 1, (0, 0, 0, 0))]
def q_107 : ak_Q := (yX5_holds, cX5_holds, 2, (some .boolean), k_107, 5)
set_option maxRecDepth 100000 in
def k_108 : List ak_I := [some (.iconst 0, 1, (0, 0, 0, 0)), some (.istore_n 1, 1, (0, 0, 0, 0)), some (.iload_n 1, 1, (0, 0, 0, 0)), some (.bipush 8, 2, (0, 0, 0, 0)), none, some (.if_icmp .ge 24, 3, (0, 0, 0, 0)), none, none, some (.aload_n 0, 1, (0, 0, 0, 0)), some (.getfield 22, 3, (1, 5, 5, 1)), none, none, some (.aload_n 0, 1, (0, 0, 0, 0)), some (.iload_n 1, 1, (0, 0, 0, 0)), some (.invokevirtual 100, 3, (8, 105, 1, 5)), none, none, some (.baload, 1, (0, 0, 0, 0)), some (.ifCond .ne 5, 3, (0, 0, 0, 0)), none, none, some (.iload_n 1, 1, (0, 0, 0, 0)), some (.ireturn, 1, (0, 0, 0, 0)), some (.iinc 1 1, 3, (0, 0, 0, 0)), none, none, some (.goto (-24), 3, (0, 0, 0, 0)), none, none, some (.iconst (-1), 1, (0, 0, 0, 0)), some (.ireturn, 1, (0, 0, 0, 0))]
def q_108 : ak_Q := (yX5_firstWrongWeek, cX5_firstWrongWeek, 2, (some .int), k_108, 5)
set_option maxRecDepth 100000 in
def k_109 : List ak_I := [some (.iconst 0, 1, (0, 0, 0, 0)), some (.istore_n 1, 1, (0, 0, 0, 0)), some (.iconst 0, 1, (0, 0, 0, 0)), some (.istore_n 2, 1, (0, 0, 0, 0)), some (.iload_n 2, 1, (0, 0, 0, 0)), some (.aload_n 0, 1, (0, 0, 0, 0)), some (.getfield 41, 3, (1, 5, 1, 0)), none, none, some (.getfield 51, 3, (1, 8, 4, 0)), none, none, some (.if_icmp .ge 22, 3, (0, 0, 0, 0)), none, none, some (.iload_n 1, 1, (0, 0, 0, 0)), some (.aload_n 0, 1, (0, 0, 0, 0)), some (.getfield 15, 3, (1, 5, 3, 1)), none, none, some (.aload_n 0, 1, (0, 0, 0, 0)), some (.iload_n 2, 1, (0, 0, 0, 0)), some (.invokevirtual 88, 3, (8, 106, 1, 5)), none, none, some (.iaload, 1, (0, 0, 0, 0)), some (.iadd, 1, (0, 0, 0, 0)), some (.istore_n 1, 1, (0, 0, 0, 0)), some (.iinc 2 1, 3, (0, 0, 0, 0)), none, none, some (.goto (-27), 3, (0, 0, 0, 0)), none, none, some (.iload_n 1, 1, (0, 0, 0, 0)), some (.ireturn, 1, (0, 0, 0, 0))]
def q_109 : ak_Q := (yX5_all, cX5_all, 3, (some .int), k_109, 5)
set_option maxRecDepth 100000 in
def k_110 : List ak_I := [some (.aload_n 0, 1, (0, 0, 0, 0)), some (.getfield 12, 3, (1, 11, 0, 1)), none, none, some (.getfield 150, 3, (1, 8, 0, 0)), none, none, some (.sipush 999, 3, (0, 0, 0, 0)), none, none, some (.if_icmp .lt 6, 3, (0, 0, 0, 0)), none, none, some (.bipush (-3), 2, (0, 0, 0, 0)), none, some (.ireturn, 1, (0, 0, 0, 0)), some (.iconst 0, 1, (0, 0, 0, 0)), some (.istore_n 1, 1, (0, 0, 0, 0)), some (.iload_n 1, 1, (0, 0, 0, 0)), some (.aload_n 0, 1, (0, 0, 0, 0)), some (.getfield 12, 3, (1, 11, 0, 1)), none, none, some (.getfield 153, 3, (1, 8, 4, 0)), none, none, some (.if_icmp .ge 56, 3, (0, 0, 0, 0)), none, none, some (.aload_n 0, 1, (0, 0, 0, 0)), some (.getfield 12, 3, (1, 11, 0, 1)), none, none, some (.getfield 156, 3, (1, 8, 9, 1)), none, none, some (.iload_n 1, 1, (0, 0, 0, 0)), some (.sipush 999, 3, (0, 0, 0, 0)), none, none, some (.aload_n 0, 1, (0, 0, 0, 0)), some (.getfield 12, 3, (1, 11, 0, 1)), none, none, some (.getfield 156, 3, (1, 8, 9, 1)), none, none, some (.iload_n 1, 1, (0, 0, 0, 0)), some (.iaload, 1, (0, 0, 0, 0)), some (.aload_n 0, 1, (0, 0, 0, 0)), some (.getfield 31, 3, (1, 11, 6, 1)), none, none, some (.aload_n 0, 1, (0, 0, 0, 0)), some (.getfield 12, 3, (1, 11, 0, 1)), none, none, some (.iload_n 1, 1, (0, 0, 0, 0)), some (.invokevirtual 98, 3, (8, 55, 2, 6)), none, none, some (.iadd, 1, (0, 0, 0, 0)), some (.invokestatic 159, 3, (19, 0, 0, 0)), none, none, some (.iastore, 1, (0, 0, 0, 0)), some (.aload_n 0, 1, (0, 0, 0, 0)), some (.getfield 12, 3, (1, 11, 0, 1)), none, none, some (.getfield 88, 3, (1, 8, 10, 1)), none, none, some (.iload_n 1, 1, (0, 0, 0, 0)), some (.iconst (-1), 1, (0, 0, 0, 0)), some (.iastore, 1, (0, 0, 0, 0)), some (.iinc 1 1, 3, (0, 0, 0, 0)), none, none, some (.goto (-61), 3, (0, 0, 0, 0)), none, none, some (.aload_n 0, 1, (0, 0, 0, 0)), some (.getfield 12, 3, (1, 11, 0, 1)), none, none, some (.dup, 1, (0, 0, 0, 0)), some (.getfield 150, 3, (1, 8, 0, 0)), none, none, some (.iconst 1, 1, (0, 0, 0, 0)), some (.iadd, 1, (0, 0, 0, 0)), some (.putfield 150, 3, (1, 8, 0, 0)), none, none, some (.aload_n 0, 1, (0, 0, 0, 0)), some (.getfield 12, 3, (1, 11, 0, 1)), none, none, some (.invokevirtual 164, 3, (8, 111, 0, 8)), none, none, some (.ireturn, 1, (0, 0, 0, 0))]
def q_110 : ak_Q := (yX11_year, cX11_year, 2, (some .int), k_110, 11)
set_option maxRecDepth 100000 in
def k_111 : List ak_I := [some (.iconst 0, 1, (0, 0, 0, 0)), some (.istore_n 1, 1, (0, 0, 0, 0)), some (.iconst 0, 1, (0, 0, 0, 0)), some (.istore_n 2, 1, (0, 0, 0, 0)), some (.iload_n 2, 1, (0, 0, 0, 0)), some (.aload_n 0, 1, (0, 0, 0, 0)), some (.getfield 46, 3, (1, 8, 4, 0)), none, none, some (.if_icmp .ge 18, 3, (0, 0, 0, 0)), none, none, some (.iload_n 1, 1, (0, 0, 0, 0)), some (.aload_n 0, 1, (0, 0, 0, 0)), some (.getfield 28, 3, (1, 8, 9, 1)), none, none, some (.iload_n 2, 1, (0, 0, 0, 0)), some (.iaload, 1, (0, 0, 0, 0)), some (.iadd, 1, (0, 0, 0, 0)), some (.istore_n 1, 1, (0, 0, 0, 0)), some (.iinc 2 1, 3, (0, 0, 0, 0)), none, none, some (.goto (-20), 3, (0, 0, 0, 0)), none, none, some (.iload_n 1, 1, (0, 0, 0, 0)), some (.ireturn, 1, (0, 0, 0, 0))]
def q_111 : ak_Q := (yX8_pointsOfAll, cX8_pointsOfAll, 3, (some .int), k_111, 8)
set_option maxRecDepth 100000 in
def k_112 : List ak_I := [some (.iload_n 1, 1, (0, 0, 0, 0)), some (.ifCond .lt 8, 3, (0, 0, 0, 0)), none, none, some (.iload_n 1, 1, (0, 0, 0, 0)), some (.iconst 3, 1, (0, 0, 0, 0)), some (.if_icmp .le 6, 3, (0, 0, 0, 0)), none, none, some (.ldc 131, 2, (4, 0, 0, -100000)), none, some (.ireturn, 1, (0, 0, 0, 0)), some (.aload_n 0, 1, (0, 0, 0, 0)), some (.getfield 40, 3, (1, 11, 7, 1)), none, none, some (.aload_n 0, 1, (0, 0, 0, 0)), some (.getfield 12, 3, (1, 11, 0, 1)), none, none, some (.invokevirtual 132, 3, (8, 99, 1, 5)), none, none, some (.aload_n 0, 1, (0, 0, 0, 0)), some (.getfield 40, 3, (1, 11, 7, 1)), none, none, some (.iload_n 1, 1, (0, 0, 0, 0)), some (.iconst 2, 1, (0, 0, 0, 0)), some (.if_icmp .lt 7, 3, (0, 0, 0, 0)), none, none, some (.iconst 1, 1, (0, 0, 0, 0)), some (.goto 4, 3, (0, 0, 0, 0)), none, none, some (.iconst 0, 1, (0, 0, 0, 0)), some (.invokevirtual 167, 3, (8, 113, 1, 5)), none, none, some (.iload_n 1, 1, (0, 0, 0, 0)), some (.iconst 1, 1, (0, 0, 0, 0)), some (.if_icmp .ne 11, 3, (0, 0, 0, 0)), none, none, some (.aload_n 0, 1, (0, 0, 0, 0)), some (.getfield 40, 3, (1, 11, 7, 1)), none, none, some (.invokevirtual 143, 3, (8, 109, 0, 5)), none, none, some (.ireturn, 1, (0, 0, 0, 0)), some (.iload_n 1, 1, (0, 0, 0, 0)), some (.iconst 3, 1, (0, 0, 0, 0)), some (.if_icmp .ne 13, 3, (0, 0, 0, 0)), none, none, some (.aload_n 0, 1, (0, 0, 0, 0)), some (.getfield 40, 3, (1, 11, 7, 1)), none, none, some (.invokevirtual 171, 3, (8, 120, 0, 5)), none, none, some (.goto 10, 3, (0, 0, 0, 0)), none, none, some (.aload_n 0, 1, (0, 0, 0, 0)), some (.getfield 40, 3, (1, 11, 7, 1)), none, none, some (.invokevirtual 174, 3, (8, 121, 0, 5)), none, none, some (.ireturn, 1, (0, 0, 0, 0))]
def q_112 : ak_Q := (yX11_best, cX11_best, 2, (some .int), k_112, 11)
set_option maxRecDepth 100000 in
def k_113 : List ak_I := [some (.aload_n 0, 1, (0, 0, 0, 0)), some (.iload_n 1, 1, (0, 0, 0, 0)), some (.putfield 103, 3, (1, 5, 10, 0)), none, none, some (.aload_n 0, 1, (0, 0, 0, 0)), some (.iconst 0, 1, (0, 0, 0, 0)), some (.putfield 107, 3, (1, 5, 11, 0)), none, none, some (.iconst 0, 1, (0, 0, 0, 0)), some (.istore_n 2, 1, (0, 0, 0, 0)), some (.iload_n 2, 1, (0, 0, 0, 0)), some (.iconst 4, 1, (0, 0, 0, 0)), some (.if_icmp .ge 16, 3, (0, 0, 0, 0)), none, none, some (.aload_n 0, 1, (0, 0, 0, 0)), some (.getfield 31, 3, (1, 5, 8, 1)), none, none, some (.iload_n 2, 1, (0, 0, 0, 0)), some (.iconst 0, 1, (0, 0, 0, 0)), some (.iastore, 1, (0, 0, 0, 0)), some (.iinc 2 1, 3, (0, 0, 0, 0)), none, none, some (.goto (-15), 3, (0, 0, 0, 0)), none, none, some (.aload_n 0, 1, (0, 0, 0, 0)), some (.invokevirtual 110, 3, (8, 114, 0, 5)), none, none, some (.aload_n 0, 1, (0, 0, 0, 0)), some (.invokevirtual 113, 3, (8, 115, 0, 5)), none, none, some (.aload_n 0, 1, (0, 0, 0, 0)), some (.iconst 0, 1, (0, 0, 0, 0)), some (.iconst 0, 1, (0, 0, 0, 0)), some (.ldc 118, 2, (4, 0, 0, 2147483647)), none, some (.invokevirtual 119, 3, (8, 116, 3, 5)), none, none, some (.iconst 0, 1, (0, 0, 0, 0)), some (.istore_n 2, 1, (0, 0, 0, 0)), some (.iload_n 2, 1, (0, 0, 0, 0)), some (.iconst 4, 1, (0, 0, 0, 0)), some (.if_icmp .ge 21, 3, (0, 0, 0, 0)), none, none, some (.aload_n 0, 1, (0, 0, 0, 0)), some (.getfield 28, 3, (1, 5, 7, 1)), none, none, some (.iload_n 2, 1, (0, 0, 0, 0)), some (.aload_n 0, 1, (0, 0, 0, 0)), some (.getfield 31, 3, (1, 5, 8, 1)), none, none, some (.iload_n 2, 1, (0, 0, 0, 0)), some (.iaload, 1, (0, 0, 0, 0)), some (.iastore, 1, (0, 0, 0, 0)), some (.iinc 2 1, 3, (0, 0, 0, 0)), none, none, some (.goto (-20), 3, (0, 0, 0, 0)), none, none, some (.return_, 1, (0, 0, 0, 0))]
def q_113 : ak_Q := (yX5_search, cX5_search, 3, none, k_113, 5)
set_option maxRecDepth 100000 in
def k_114 : List ak_I := [some (.iconst 0, 1, (0, 0, 0, 0)), some (.istore_n 1, 1, (0, 0, 0, 0)), some (.iload_n 1, 1, (0, 0, 0, 0)), some (.iconst 4, 1, (0, 0, 0, 0)), some (.if_icmp .ge 16, 3, (0, 0, 0, 0)), none, none, some (.aload_n 0, 1, (0, 0, 0, 0)), some (.getfield 28, 3, (1, 5, 7, 1)), none, none, some (.iload_n 1, 1, (0, 0, 0, 0)), some (.iconst 0, 1, (0, 0, 0, 0)), some (.iastore, 1, (0, 0, 0, 0)), some (.iinc 1 1, 3, (0, 0, 0, 0)), none, none, some (.goto (-15), 3, (0, 0, 0, 0)), none, none, some (.return_, 1, (0, 0, 0, 0))]
def q_114 : ak_Q := (yX5_takeNone, cX5_takeNone, 2, none, k_114, 5)
set_option maxRecDepth 100000 in
def k_115 : List ak_I := [some (.aload_n 0, 1, (0, 0, 0, 0)), some (.getfield 34, 3, (1, 5, 9, 1)), none, none, some (.aload_n 0, 1, (0, 0, 0, 0)), some (.getfield 41, 3, (1, 5, 1, 0)), none, none, some (.getfield 51, 3, (1, 8, 4, 0)), none, none, some (.iconst 0, 1, (0, 0, 0, 0)), some (.iastore, 1, (0, 0, 0, 0)), some (.aload_n 0, 1, (0, 0, 0, 0)), some (.getfield 41, 3, (1, 5, 1, 0)), none, none, some (.getfield 51, 3, (1, 8, 4, 0)), none, none, some (.iconst 1, 1, (0, 0, 0, 0)), some (.isub, 1, (0, 0, 0, 0)), some (.istore_n 1, 1, (0, 0, 0, 0)), some (.iload_n 1, 1, (0, 0, 0, 0)), some (.ifCond .lt 72, 3, (0, 0, 0, 0)), none, none, some (.iconst 0, 1, (0, 0, 0, 0)), some (.istore_n 2, 1, (0, 0, 0, 0)), some (.iload_n 1, 1, (0, 0, 0, 0)), some (.bipush 9, 2, (0, 0, 0, 0)), none, some (.imul, 1, (0, 0, 0, 0)), some (.istore_n 3, 1, (0, 0, 0, 0)), some (.iload_n 3, 1, (0, 0, 0, 0)), some (.iload_n 1, 1, (0, 0, 0, 0)), some (.iconst 1, 1, (0, 0, 0, 0)), some (.iadd, 1, (0, 0, 0, 0)), some (.bipush 9, 2, (0, 0, 0, 0)), none, some (.imul, 1, (0, 0, 0, 0)), some (.if_icmp .ge 33, 3, (0, 0, 0, 0)), none, none, some (.aload_n 0, 1, (0, 0, 0, 0)), some (.getfield 18, 3, (1, 5, 4, 1)), none, none, some (.iload_n 3, 1, (0, 0, 0, 0)), some (.baload, 1, (0, 0, 0, 0)), some (.ifCond .eq 16, 3, (0, 0, 0, 0)), none, none, some (.iload_n 2, 1, (0, 0, 0, 0)), some (.aload_n 0, 1, (0, 0, 0, 0)), some (.getfield 15, 3, (1, 5, 3, 1)), none, none, some (.iload_n 3, 1, (0, 0, 0, 0)), some (.iaload, 1, (0, 0, 0, 0)), some (.invokestatic 123, 3, (20, 0, 0, 0)), none, none, some (.goto 4, 3, (0, 0, 0, 0)), none, none, some (.iload_n 2, 1, (0, 0, 0, 0)), some (.istore_n 2, 1, (0, 0, 0, 0)), some (.iinc 3 1, 3, (0, 0, 0, 0)), none, none, some (.goto (-37), 3, (0, 0, 0, 0)), none, none, some (.aload_n 0, 1, (0, 0, 0, 0)), some (.getfield 34, 3, (1, 5, 9, 1)), none, none, some (.iload_n 1, 1, (0, 0, 0, 0)), some (.aload_n 0, 1, (0, 0, 0, 0)), some (.getfield 34, 3, (1, 5, 9, 1)), none, none, some (.iload_n 1, 1, (0, 0, 0, 0)), some (.iconst 1, 1, (0, 0, 0, 0)), some (.iadd, 1, (0, 0, 0, 0)), some (.iaload, 1, (0, 0, 0, 0)), some (.iload_n 2, 1, (0, 0, 0, 0)), some (.iadd, 1, (0, 0, 0, 0)), some (.iastore, 1, (0, 0, 0, 0)), some (.iinc 1 (-1), 3, (0, 0, 0, 0)), none, none, some (.goto (-70), 3, (0, 0, 0, 0)), none, none, some (.return_, 1, (0, 0, 0, 0))]
def q_115 : ak_Q := (yX5_takeHopes, cX5_takeHopes, 4, none, k_115, 5)
set_option maxRecDepth 100000 in
def k_116 : List ak_I := [some (.iload_n 1, 1, (0, 0, 0, 0)), some (.iconst 4, 1, (0, 0, 0, 0)), some (.if_icmp .le 4, 3, (0, 0, 0, 0)), none, none, some (.return_, 1, (0, 0, 0, 0)), some (.aload_n 0, 1, (0, 0, 0, 0)), some (.getfield 103, 3, (1, 5, 10, 0)), none, none, some (.ifCond .eq 7, 3, (0, 0, 0, 0)), none, none, some (.iload_n 3, 1, (0, 0, 0, 0)), some (.goto 11, 3, (0, 0, 0, 0)), none, none, some (.iload_n 2, 1, (0, 0, 0, 0)), some (.aload_n 0, 1, (0, 0, 0, 0)), some (.getfield 34, 3, (1, 5, 9, 1)), none, none, some (.iload_n 1, 1, (0, 0, 0, 0)), some (.iaload, 1, (0, 0, 0, 0)), some (.iadd, 1, (0, 0, 0, 0)), some (.istore 4, 2, (0, 0, 0, 0)), none, some (.iload 4, 2, (0, 0, 0, 0)), none, some (.aload_n 0, 1, (0, 0, 0, 0)), some (.getfield 107, 3, (1, 5, 11, 0)), none, none, some (.if_icmp .gt 4, 3, (0, 0, 0, 0)), none, none, some (.return_, 1, (0, 0, 0, 0)), some (.iload_n 1, 1, (0, 0, 0, 0)), some (.aload_n 0, 1, (0, 0, 0, 0)), some (.getfield 41, 3, (1, 5, 1, 0)), none, none, some (.getfield 51, 3, (1, 8, 4, 0)), none, none, some (.if_icmp .ge 8, 3, (0, 0, 0, 0)), none, none, some (.iload_n 1, 1, (0, 0, 0, 0)), some (.iconst 4, 1, (0, 0, 0, 0)), some (.if_icmp .lt 10, 3, (0, 0, 0, 0)), none, none, some (.aload_n 0, 1, (0, 0, 0, 0)), some (.iload 4, 2, (0, 0, 0, 0)), none, some (.invokevirtual 126, 3, (8, 117, 1, 5)), none, none, some (.return_, 1, (0, 0, 0, 0)), some (.aload_n 0, 1, (0, 0, 0, 0)), some (.iload_n 1, 1, (0, 0, 0, 0)), some (.invokevirtual 129, 3, (8, 118, 1, 5)), none, none, some (.istore 5, 2, (0, 0, 0, 0)), none, some (.iconst 0, 1, (0, 0, 0, 0)), some (.istore 6, 2, (0, 0, 0, 0)), none, some (.iload 6, 2, (0, 0, 0, 0)), none, some (.bipush 9, 2, (0, 0, 0, 0)), none, some (.if_icmp .ge 64, 3, (0, 0, 0, 0)), none, none, some (.iload_n 1, 1, (0, 0, 0, 0)), some (.bipush 9, 2, (0, 0, 0, 0)), none, some (.imul, 1, (0, 0, 0, 0)), some (.iload 6, 2, (0, 0, 0, 0)), none, some (.iadd, 1, (0, 0, 0, 0)), some (.istore 7, 2, (0, 0, 0, 0)), none, some (.aload_n 0, 1, (0, 0, 0, 0)), some (.iload 7, 2, (0, 0, 0, 0)), none, some (.iload 5, 2, (0, 0, 0, 0)), none, some (.invokevirtual 132, 3, (8, 119, 2, 5)), none, none, some (.ifCond .eq 38, 3, (0, 0, 0, 0)), none, none, some (.aload_n 0, 1, (0, 0, 0, 0)), some (.getfield 28, 3, (1, 5, 7, 1)), none, none, some (.iload_n 1, 1, (0, 0, 0, 0)), some (.iload 6, 2, (0, 0, 0, 0)), none, some (.iastore, 1, (0, 0, 0, 0)), some (.aload_n 0, 1, (0, 0, 0, 0)), some (.iload_n 1, 1, (0, 0, 0, 0)), some (.iconst 1, 1, (0, 0, 0, 0)), some (.iadd, 1, (0, 0, 0, 0)), some (.iload_n 2, 1, (0, 0, 0, 0)), some (.aload_n 0, 1, (0, 0, 0, 0)), some (.getfield 15, 3, (1, 5, 3, 1)), none, none, some (.iload 7, 2, (0, 0, 0, 0)), none, some (.iaload, 1, (0, 0, 0, 0)), some (.iadd, 1, (0, 0, 0, 0)), some (.iload_n 3, 1, (0, 0, 0, 0)), some (.aload_n 0, 1, (0, 0, 0, 0)), some (.getfield 15, 3, (1, 5, 3, 1)), none, none, some (.iload 7, 2, (0, 0, 0, 0)), none, some (.iaload, 1, (0, 0, 0, 0)), some (.invokestatic 91, 3, (19, 0, 0, 0)), none, none, some (.invokevirtual 119, 3, (8, 116, 3, 5)), none, none, some (.iinc 6 1, 3, (0, 0, 0, 0)), none, none, some (.goto (-65), 3, (0, 0, 0, 0)), none, none, some (.aload_n 0, 1, (0, 0, 0, 0)), some (.getfield 28, 3, (1, 5, 7, 1)), none, none, some (.iload_n 1, 1, (0, 0, 0, 0)), some (.iconst 0, 1, (0, 0, 0, 0)), some (.iastore, 1, (0, 0, 0, 0)), some (.return_, 1, (0, 0, 0, 0))]
def q_116 : ak_Q := (yX5_extend, cX5_extend, 8, none, k_116, 5)
set_option maxRecDepth 100000 in
def k_117 : List ak_I := [some (.aload_n 0, 1, (0, 0, 0, 0)), some (.iload_n 1, 1, (0, 0, 0, 0)), some (.putfield 107, 3, (1, 5, 11, 0)), none, none, some (.iconst 0, 1, (0, 0, 0, 0)), some (.istore_n 2, 1, (0, 0, 0, 0)), some (.iload_n 2, 1, (0, 0, 0, 0)), some (.iconst 4, 1, (0, 0, 0, 0)), some (.if_icmp .ge 21, 3, (0, 0, 0, 0)), none, none, some (.aload_n 0, 1, (0, 0, 0, 0)), some (.getfield 31, 3, (1, 5, 8, 1)), none, none, some (.iload_n 2, 1, (0, 0, 0, 0)), some (.aload_n 0, 1, (0, 0, 0, 0)), some (.getfield 28, 3, (1, 5, 7, 1)), none, none, some (.iload_n 2, 1, (0, 0, 0, 0)), some (.iaload, 1, (0, 0, 0, 0)), some (.iastore, 1, (0, 0, 0, 0)), some (.iinc 2 1, 3, (0, 0, 0, 0)), none, none, some (.goto (-20), 3, (0, 0, 0, 0)), none, none, some (.return_, 1, (0, 0, 0, 0))]
def q_117 : ak_Q := (yX5_keep, cX5_keep, 3, none, k_117, 5)
set_option maxRecDepth 100000 in
def k_118 : List ak_I := [some (.iconst 0, 1, (0, 0, 0, 0)), some (.istore_n 2, 1, (0, 0, 0, 0)), some (.iconst 0, 1, (0, 0, 0, 0)), some (.istore_n 3, 1, (0, 0, 0, 0)), some (.iload_n 3, 1, (0, 0, 0, 0)), some (.bipush 8, 2, (0, 0, 0, 0)), none, some (.if_icmp .ge 32, 3, (0, 0, 0, 0)), none, none, some (.aload_n 0, 1, (0, 0, 0, 0)), some (.getfield 22, 3, (1, 5, 5, 1)), none, none, some (.aload_n 0, 1, (0, 0, 0, 0)), some (.iload_n 3, 1, (0, 0, 0, 0)), some (.invokevirtual 100, 3, (8, 105, 1, 5)), none, none, some (.iconst 1, 1, (0, 0, 0, 0)), some (.iload_n 1, 1, (0, 0, 0, 0)), some (.ishl, 1, (0, 0, 0, 0)), some (.ior, 1, (0, 0, 0, 0)), some (.baload, 1, (0, 0, 0, 0)), some (.ifCond .ne 9, 3, (0, 0, 0, 0)), none, none, some (.iload_n 2, 1, (0, 0, 0, 0)), some (.iconst 1, 1, (0, 0, 0, 0)), some (.iload_n 3, 1, (0, 0, 0, 0)), some (.ishl, 1, (0, 0, 0, 0)), some (.ior, 1, (0, 0, 0, 0)), some (.istore_n 2, 1, (0, 0, 0, 0)), some (.iinc 3 1, 3, (0, 0, 0, 0)), none, none, some (.goto (-32), 3, (0, 0, 0, 0)), none, none, some (.iload_n 2, 1, (0, 0, 0, 0)), some (.ireturn, 1, (0, 0, 0, 0))]
def q_118 : ak_Q := (yX5_weeksClosedTo, cX5_weeksClosedTo, 4, (some .int), k_118, 5)
set_option maxRecDepth 100000 in
def k_119 : List ak_I := [some (.aload_n 0, 1, (0, 0, 0, 0)), some (.getfield 18, 3, (1, 5, 4, 1)), none, none, some (.iload_n 1, 1, (0, 0, 0, 0)), some (.baload, 1, (0, 0, 0, 0)), some (.ifCond .eq 18, 3, (0, 0, 0, 0)), none, none, some (.aload_n 0, 1, (0, 0, 0, 0)), some (.getfield 9, 3, (1, 5, 2, 1)), none, none, some (.iload_n 1, 1, (0, 0, 0, 0)), some (.iaload, 1, (0, 0, 0, 0)), some (.iload_n 2, 1, (0, 0, 0, 0)), some (.iand, 1, (0, 0, 0, 0)), some (.ifCond .ne 7, 3, (0, 0, 0, 0)), none, none, some (.iconst 1, 1, (0, 0, 0, 0)), some (.goto 4, 3, (0, 0, 0, 0)), none, none, some (.iconst 0, 1, (0, 0, 0, 0)), some (.ireturn, 1, (0, 0, 0, 0))]
def q_119 : ak_Q := (yX5_canAdd, cX5_canAdd, 3, (some .boolean), k_119, 5)
set_option maxRecDepth 100000 in
def k_120 : List ak_I := [some (.aload_n 0, 1, (0, 0, 0, 0)), some (.getfield 41, 3, (1, 5, 1, 0)), none, none, some (.getfield 51, 3, (1, 8, 4, 0)), none, none, some (.ifCond .le 16, 3, (0, 0, 0, 0)), none, none, some (.aload_n 0, 1, (0, 0, 0, 0)), some (.getfield 15, 3, (1, 5, 3, 1)), none, none, some (.aload_n 0, 1, (0, 0, 0, 0)), some (.iconst 0, 1, (0, 0, 0, 0)), some (.invokevirtual 88, 3, (8, 106, 1, 5)), none, none, some (.iaload, 1, (0, 0, 0, 0)), some (.goto 4, 3, (0, 0, 0, 0)), none, none, some (.iconst 0, 1, (0, 0, 0, 0)), some (.istore_n 1, 1, (0, 0, 0, 0)), some (.iconst 1, 1, (0, 0, 0, 0)), some (.istore_n 2, 1, (0, 0, 0, 0)), some (.iload_n 2, 1, (0, 0, 0, 0)), some (.aload_n 0, 1, (0, 0, 0, 0)), some (.getfield 41, 3, (1, 5, 1, 0)), none, none, some (.getfield 51, 3, (1, 8, 4, 0)), none, none, some (.if_icmp .ge 24, 3, (0, 0, 0, 0)), none, none, some (.iload_n 1, 1, (0, 0, 0, 0)), some (.aload_n 0, 1, (0, 0, 0, 0)), some (.getfield 15, 3, (1, 5, 3, 1)), none, none, some (.aload_n 0, 1, (0, 0, 0, 0)), some (.iload_n 2, 1, (0, 0, 0, 0)), some (.invokevirtual 88, 3, (8, 106, 1, 5)), none, none, some (.iaload, 1, (0, 0, 0, 0)), some (.invokestatic 91, 3, (19, 0, 0, 0)), none, none, some (.istore_n 1, 1, (0, 0, 0, 0)), some (.iinc 2 1, 3, (0, 0, 0, 0)), none, none, some (.goto (-29), 3, (0, 0, 0, 0)), none, none, some (.iload_n 1, 1, (0, 0, 0, 0)), some (.ireturn, 1, (0, 0, 0, 0))]
def q_120 : ak_Q := (yX5_least, cX5_least, 3, (some .int), k_120, 5)
set_option maxRecDepth 100000 in
def k_121 : List ak_I := [some (.iconst 0, 1, (0, 0, 0, 0)), some (.istore_n 1, 1, (0, 0, 0, 0)), some (.iconst 0, 1, (0, 0, 0, 0)), some (.istore_n 2, 1, (0, 0, 0, 0)), some (.iload_n 2, 1, (0, 0, 0, 0)), some (.aload_n 0, 1, (0, 0, 0, 0)), some (.getfield 41, 3, (1, 5, 1, 0)), none, none, some (.getfield 51, 3, (1, 8, 4, 0)), none, none, some (.if_icmp .ge 21, 3, (0, 0, 0, 0)), none, none, some (.bipush 10, 2, (0, 0, 0, 0)), none, some (.iload_n 1, 1, (0, 0, 0, 0)), some (.imul, 1, (0, 0, 0, 0)), some (.aload_n 0, 1, (0, 0, 0, 0)), some (.getfield 28, 3, (1, 5, 7, 1)), none, none, some (.iload_n 2, 1, (0, 0, 0, 0)), some (.iaload, 1, (0, 0, 0, 0)), some (.iadd, 1, (0, 0, 0, 0)), some (.istore_n 1, 1, (0, 0, 0, 0)), some (.iinc 2 1, 3, (0, 0, 0, 0)), none, none, some (.goto (-26), 3, (0, 0, 0, 0)), none, none, some (.iload_n 1, 1, (0, 0, 0, 0)), some (.ireturn, 1, (0, 0, 0, 0))]
def q_121 : ak_Q := (yX5_inDigits, cX5_inDigits, 3, (some .int), k_121, 5)
set_option maxRecDepth 100000 in
def k_122 : List ak_I := [some (.iload_n 1, 1, (0, 0, 0, 0)), some (.ifCond .lt 8, 3, (0, 0, 0, 0)), none, none, some (.iload_n 1, 1, (0, 0, 0, 0)), some (.iconst 2, 1, (0, 0, 0, 0)), some (.if_icmp .le 6, 3, (0, 0, 0, 0)), none, none, some (.ldc 131, 2, (4, 0, 0, -100000)), none, some (.ireturn, 1, (0, 0, 0, 0)), some (.aload_n 0, 1, (0, 0, 0, 0)), some (.getfield 40, 3, (1, 11, 7, 1)), none, none, some (.aload_n 0, 1, (0, 0, 0, 0)), some (.getfield 12, 3, (1, 11, 0, 1)), none, none, some (.invokevirtual 132, 3, (8, 99, 1, 5)), none, none, some (.aload_n 0, 1, (0, 0, 0, 0)), some (.getfield 40, 3, (1, 11, 7, 1)), none, none, some (.invokevirtual 177, 3, (8, 123, 0, 5)), none, none, some (.iload_n 1, 1, (0, 0, 0, 0)), some (.ifCond .ne 11, 3, (0, 0, 0, 0)), none, none, some (.aload_n 0, 1, (0, 0, 0, 0)), some (.getfield 40, 3, (1, 11, 7, 1)), none, none, some (.invokevirtual 174, 3, (8, 121, 0, 5)), none, none, some (.ireturn, 1, (0, 0, 0, 0)), some (.iload_n 1, 1, (0, 0, 0, 0)), some (.iconst 1, 1, (0, 0, 0, 0)), some (.if_icmp .ne 13, 3, (0, 0, 0, 0)), none, none, some (.aload_n 0, 1, (0, 0, 0, 0)), some (.getfield 40, 3, (1, 11, 7, 1)), none, none, some (.invokevirtual 143, 3, (8, 109, 0, 5)), none, none, some (.goto 10, 3, (0, 0, 0, 0)), none, none, some (.aload_n 0, 1, (0, 0, 0, 0)), some (.getfield 40, 3, (1, 11, 7, 1)), none, none, some (.invokevirtual 180, 3, (8, 126, 0, 5)), none, none, some (.ireturn, 1, (0, 0, 0, 0))]
def q_122 : ak_Q := (yX11_inTurn, cX11_inTurn, 2, (some .int), k_122, 11)
set_option maxRecDepth 100000 in
def k_123 : List ak_I := [some (.aload_n 0, 1, (0, 0, 0, 0)), some (.invokevirtual 110, 3, (8, 114, 0, 5)), none, none, some (.iconst 0, 1, (0, 0, 0, 0)), some (.istore_n 1, 1, (0, 0, 0, 0)), some (.iconst 0, 1, (0, 0, 0, 0)), some (.istore_n 2, 1, (0, 0, 0, 0)), some (.iload_n 2, 1, (0, 0, 0, 0)), some (.aload_n 0, 1, (0, 0, 0, 0)), some (.getfield 41, 3, (1, 5, 1, 0)), none, none, some (.getfield 51, 3, (1, 8, 4, 0)), none, none, some (.if_icmp .ge 43, 3, (0, 0, 0, 0)), none, none, some (.aload_n 0, 1, (0, 0, 0, 0)), some (.iload_n 1, 1, (0, 0, 0, 0)), some (.invokevirtual 136, 3, (8, 124, 1, 5)), none, none, some (.istore_n 3, 1, (0, 0, 0, 0)), some (.aload_n 0, 1, (0, 0, 0, 0)), some (.getfield 41, 3, (1, 5, 1, 0)), none, none, some (.iload_n 3, 1, (0, 0, 0, 0)), some (.invokevirtual 85, 3, (8, 16, 1, 8)), none, none, some (.ifCond .eq 20, 3, (0, 0, 0, 0)), none, none, some (.aload_n 0, 1, (0, 0, 0, 0)), some (.getfield 28, 3, (1, 5, 7, 1)), none, none, some (.iload_n 3, 1, (0, 0, 0, 0)), some (.aload_n 0, 1, (0, 0, 0, 0)), some (.iload_n 3, 1, (0, 0, 0, 0)), some (.invokevirtual 139, 3, (8, 125, 1, 5)), none, none, some (.iastore, 1, (0, 0, 0, 0)), some (.iload_n 1, 1, (0, 0, 0, 0)), some (.iconst 1, 1, (0, 0, 0, 0)), some (.iload_n 3, 1, (0, 0, 0, 0)), some (.ishl, 1, (0, 0, 0, 0)), some (.ior, 1, (0, 0, 0, 0)), some (.istore_n 1, 1, (0, 0, 0, 0)), some (.iinc 2 1, 3, (0, 0, 0, 0)), none, none, some (.goto (-48), 3, (0, 0, 0, 0)), none, none, some (.return_, 1, (0, 0, 0, 0))]
def q_123 : ak_Q := (yX5_takeTurns, cX5_takeTurns, 4, none, k_123, 5)
set_option maxRecDepth 100000 in
def k_124 : List ak_I := [some (.iconst (-1), 1, (0, 0, 0, 0)), some (.istore_n 2, 1, (0, 0, 0, 0)), some (.iconst 0, 1, (0, 0, 0, 0)), some (.istore_n 3, 1, (0, 0, 0, 0)), some (.iload_n 3, 1, (0, 0, 0, 0)), some (.aload_n 0, 1, (0, 0, 0, 0)), some (.getfield 41, 3, (1, 5, 1, 0)), none, none, some (.getfield 51, 3, (1, 8, 4, 0)), none, none, some (.if_icmp .ge 57, 3, (0, 0, 0, 0)), none, none, some (.iload_n 1, 1, (0, 0, 0, 0)), some (.iload_n 3, 1, (0, 0, 0, 0)), some (.ishr, 1, (0, 0, 0, 0)), some (.iconst 1, 1, (0, 0, 0, 0)), some (.iand, 1, (0, 0, 0, 0)), some (.ifCond .ne 7, 3, (0, 0, 0, 0)), none, none, some (.iconst 1, 1, (0, 0, 0, 0)), some (.goto 4, 3, (0, 0, 0, 0)), none, none, some (.iconst 0, 1, (0, 0, 0, 0)), some (.istore 4, 2, (0, 0, 0, 0)), none, some (.iload 4, 2, (0, 0, 0, 0)), none, some (.ifCond .eq 31, 3, (0, 0, 0, 0)), none, none, some (.iload_n 2, 1, (0, 0, 0, 0)), some (.iconst (-1), 1, (0, 0, 0, 0)), some (.if_icmp .eq 24, 3, (0, 0, 0, 0)), none, none, some (.aload_n 0, 1, (0, 0, 0, 0)), some (.getfield 41, 3, (1, 5, 1, 0)), none, none, some (.getfield 142, 3, (1, 8, 9, 1)), none, none, some (.iload_n 3, 1, (0, 0, 0, 0)), some (.iaload, 1, (0, 0, 0, 0)), some (.aload_n 0, 1, (0, 0, 0, 0)), some (.getfield 41, 3, (1, 5, 1, 0)), none, none, some (.getfield 142, 3, (1, 8, 9, 1)), none, none, some (.iload_n 2, 1, (0, 0, 0, 0)), some (.iaload, 1, (0, 0, 0, 0)), some (.if_icmp .le 5, 3, (0, 0, 0, 0)), none, none, some (.iload_n 3, 1, (0, 0, 0, 0)), some (.istore_n 2, 1, (0, 0, 0, 0)), some (.iinc 3 1, 3, (0, 0, 0, 0)), none, none, some (.goto (-62), 3, (0, 0, 0, 0)), none, none, some (.iload_n 2, 1, (0, 0, 0, 0)), some (.ireturn, 1, (0, 0, 0, 0))]
def q_124 : ak_Q := (yX5_nextInTurn, cX5_nextInTurn, 5, (some .int), k_124, 5)
set_option maxRecDepth 100000 in
def k_125 : List ak_I := [some (.aload_n 0, 1, (0, 0, 0, 0)), some (.iload_n 1, 1, (0, 0, 0, 0)), some (.invokevirtual 129, 3, (8, 118, 1, 5)), none, none, some (.istore_n 2, 1, (0, 0, 0, 0)), some (.iload_n 1, 1, (0, 0, 0, 0)), some (.bipush 9, 2, (0, 0, 0, 0)), none, some (.imul, 1, (0, 0, 0, 0)), some (.istore_n 3, 1, (0, 0, 0, 0)), some (.iconst 0, 1, (0, 0, 0, 0)), some (.istore 4, 2, (0, 0, 0, 0)), none, some (.iconst 1, 1, (0, 0, 0, 0)), some (.istore 5, 2, (0, 0, 0, 0)), none, some (.iload 5, 2, (0, 0, 0, 0)), none, some (.bipush 9, 2, (0, 0, 0, 0)), none, some (.if_icmp .ge 46, 3, (0, 0, 0, 0)), none, none, some (.aload_n 0, 1, (0, 0, 0, 0)), some (.iload_n 3, 1, (0, 0, 0, 0)), some (.iload 5, 2, (0, 0, 0, 0)), none, some (.iadd, 1, (0, 0, 0, 0)), some (.iload_n 2, 1, (0, 0, 0, 0)), some (.invokevirtual 132, 3, (8, 119, 2, 5)), none, none, some (.ifCond .eq 28, 3, (0, 0, 0, 0)), none, none, some (.aload_n 0, 1, (0, 0, 0, 0)), some (.getfield 15, 3, (1, 5, 3, 1)), none, none, some (.iload_n 3, 1, (0, 0, 0, 0)), some (.iload 5, 2, (0, 0, 0, 0)), none, some (.iadd, 1, (0, 0, 0, 0)), some (.iaload, 1, (0, 0, 0, 0)), some (.aload_n 0, 1, (0, 0, 0, 0)), some (.getfield 15, 3, (1, 5, 3, 1)), none, none, some (.iload_n 3, 1, (0, 0, 0, 0)), some (.iload 4, 2, (0, 0, 0, 0)), none, some (.iadd, 1, (0, 0, 0, 0)), some (.iaload, 1, (0, 0, 0, 0)), some (.if_icmp .le 7, 3, (0, 0, 0, 0)), none, none, some (.iload 5, 2, (0, 0, 0, 0)), none, some (.istore 4, 2, (0, 0, 0, 0)), none, some (.iinc 5 1, 3, (0, 0, 0, 0)), none, none, some (.goto (-47), 3, (0, 0, 0, 0)), none, none, some (.iload 4, 2, (0, 0, 0, 0)), none, some (.ireturn, 1, (0, 0, 0, 0))]
def q_125 : ak_Q := (yX5_gladdest, cX5_gladdest, 6, (some .int), k_125, 5)
set_option maxRecDepth 100000 in
def k_126 : List ak_I := [some (.iconst 0, 1, (0, 0, 0, 0)), some (.istore_n 1, 1, (0, 0, 0, 0)), some (.iconst 0, 1, (0, 0, 0, 0)), some (.istore_n 2, 1, (0, 0, 0, 0)), some (.iload_n 2, 1, (0, 0, 0, 0)), some (.aload_n 0, 1, (0, 0, 0, 0)), some (.getfield 41, 3, (1, 5, 1, 0)), none, none, some (.getfield 51, 3, (1, 8, 4, 0)), none, none, some (.if_icmp .ge 26, 3, (0, 0, 0, 0)), none, none, some (.iload_n 1, 1, (0, 0, 0, 0)), some (.aload_n 0, 1, (0, 0, 0, 0)), some (.getfield 28, 3, (1, 5, 7, 1)), none, none, some (.iload_n 2, 1, (0, 0, 0, 0)), some (.iaload, 1, (0, 0, 0, 0)), some (.ifCond .ne 7, 3, (0, 0, 0, 0)), none, none, some (.iconst 1, 1, (0, 0, 0, 0)), some (.goto 4, 3, (0, 0, 0, 0)), none, none, some (.iconst 0, 1, (0, 0, 0, 0)), some (.iadd, 1, (0, 0, 0, 0)), some (.istore_n 1, 1, (0, 0, 0, 0)), some (.iinc 2 1, 3, (0, 0, 0, 0)), none, none, some (.goto (-31), 3, (0, 0, 0, 0)), none, none, some (.iload_n 1, 1, (0, 0, 0, 0)), some (.ireturn, 1, (0, 0, 0, 0))]
def q_126 : ak_Q := (yX5_withNone, cX5_withNone, 3, (some .int), k_126, 5)
set_option maxRecDepth 100000 in
def k_127 : List ak_I := [some (.iload_n 1, 1, (0, 0, 0, 0)), some (.ifCond .lt 8, 3, (0, 0, 0, 0)), none, none, some (.iload_n 1, 1, (0, 0, 0, 0)), some (.iconst 1, 1, (0, 0, 0, 0)), some (.if_icmp .le 6, 3, (0, 0, 0, 0)), none, none, some (.ldc 131, 2, (4, 0, 0, -100000)), none, some (.ireturn, 1, (0, 0, 0, 0)), some (.aload_n 0, 1, (0, 0, 0, 0)), some (.getfield 40, 3, (1, 11, 7, 1)), none, none, some (.aload_n 0, 1, (0, 0, 0, 0)), some (.getfield 12, 3, (1, 11, 0, 1)), none, none, some (.invokevirtual 132, 3, (8, 99, 1, 5)), none, none, some (.aload_n 0, 1, (0, 0, 0, 0)), some (.getfield 40, 3, (1, 11, 7, 1)), none, none, some (.invokevirtual 183, 3, (8, 128, 0, 5)), none, none, some (.istore_n 2, 1, (0, 0, 0, 0)), some (.iload_n 1, 1, (0, 0, 0, 0)), some (.ifCond .ne 7, 3, (0, 0, 0, 0)), none, none, some (.iload_n 2, 1, (0, 0, 0, 0)), some (.goto 10, 3, (0, 0, 0, 0)), none, none, some (.aload_n 0, 1, (0, 0, 0, 0)), some (.getfield 40, 3, (1, 11, 7, 1)), none, none, some (.invokevirtual 143, 3, (8, 109, 0, 5)), none, none, some (.ireturn, 1, (0, 0, 0, 0))]
def q_127 : ak_Q := (yX11_change, cX11_change, 3, (some .int), k_127, 11)
set_option maxRecDepth 100000 in
def k_128 : List ak_I := [some (.aload_n 0, 1, (0, 0, 0, 0)), some (.invokevirtual 145, 3, (8, 109, 0, 5)), none, none, some (.istore_n 1, 1, (0, 0, 0, 0)), some (.iconst (-1), 1, (0, 0, 0, 0)), some (.istore_n 2, 1, (0, 0, 0, 0)), some (.iconst 0, 1, (0, 0, 0, 0)), some (.istore_n 3, 1, (0, 0, 0, 0)), some (.iload_n 3, 1, (0, 0, 0, 0)), some (.aload_n 0, 1, (0, 0, 0, 0)), some (.getfield 41, 3, (1, 5, 1, 0)), none, none, some (.getfield 51, 3, (1, 8, 4, 0)), none, none, some (.if_icmp .ge 74, 3, (0, 0, 0, 0)), none, none, some (.iload_n 3, 1, (0, 0, 0, 0)), some (.iconst 1, 1, (0, 0, 0, 0)), some (.iadd, 1, (0, 0, 0, 0)), some (.istore 4, 2, (0, 0, 0, 0)), none, some (.iload 4, 2, (0, 0, 0, 0)), none, some (.aload_n 0, 1, (0, 0, 0, 0)), some (.getfield 41, 3, (1, 5, 1, 0)), none, none, some (.getfield 51, 3, (1, 8, 4, 0)), none, none, some (.if_icmp .ge 51, 3, (0, 0, 0, 0)), none, none, some (.aload_n 0, 1, (0, 0, 0, 0)), some (.iload_n 3, 1, (0, 0, 0, 0)), some (.iload 4, 2, (0, 0, 0, 0)), none, some (.invokevirtual 148, 3, (8, 129, 2, 5)), none, none, some (.aload_n 0, 1, (0, 0, 0, 0)), some (.invokevirtual 145, 3, (8, 109, 0, 5)), none, none, some (.iload_n 1, 1, (0, 0, 0, 0)), some (.if_icmp .le 23, 3, (0, 0, 0, 0)), none, none, some (.aload_n 0, 1, (0, 0, 0, 0)), some (.invokevirtual 152, 3, (8, 107, 0, 5)), none, none, some (.ifCond .eq 16, 3, (0, 0, 0, 0)), none, none, some (.aload_n 0, 1, (0, 0, 0, 0)), some (.invokevirtual 145, 3, (8, 109, 0, 5)), none, none, some (.istore_n 1, 1, (0, 0, 0, 0)), some (.bipush 10, 2, (0, 0, 0, 0)), none, some (.iload_n 3, 1, (0, 0, 0, 0)), some (.imul, 1, (0, 0, 0, 0)), some (.iload 4, 2, (0, 0, 0, 0)), none, some (.iadd, 1, (0, 0, 0, 0)), some (.istore_n 2, 1, (0, 0, 0, 0)), some (.aload_n 0, 1, (0, 0, 0, 0)), some (.iload_n 3, 1, (0, 0, 0, 0)), some (.iload 4, 2, (0, 0, 0, 0)), none, some (.invokevirtual 148, 3, (8, 129, 2, 5)), none, none, some (.iinc 4 1, 3, (0, 0, 0, 0)), none, none, some (.goto (-57), 3, (0, 0, 0, 0)), none, none, some (.iinc 3 1, 3, (0, 0, 0, 0)), none, none, some (.goto (-79), 3, (0, 0, 0, 0)), none, none, some (.iload_n 2, 1, (0, 0, 0, 0)), some (.iconst (-1), 1, (0, 0, 0, 0)), some (.if_icmp .eq 15, 3, (0, 0, 0, 0)), none, none, some (.aload_n 0, 1, (0, 0, 0, 0)), some (.iload_n 2, 1, (0, 0, 0, 0)), some (.bipush 10, 2, (0, 0, 0, 0)), none, some (.idiv, 1, (0, 0, 0, 0)), some (.iload_n 2, 1, (0, 0, 0, 0)), some (.bipush 10, 2, (0, 0, 0, 0)), none, some (.irem, 1, (0, 0, 0, 0)), some (.invokevirtual 148, 3, (8, 129, 2, 5)), none, none, some (.iload_n 2, 1, (0, 0, 0, 0)), some (.ireturn, 1, (0, 0, 0, 0))]
def q_128 : ak_Q := (yX5_changeTwo, cX5_changeTwo, 5, (some .int), k_128, 5)
set_option maxRecDepth 100000 in
def k_129 : List ak_I := [some (.aload_n 0, 1, (0, 0, 0, 0)), some (.getfield 41, 3, (1, 5, 1, 0)), none, none, some (.iload_n 1, 1, (0, 0, 0, 0)), some (.invokevirtual 85, 3, (8, 16, 1, 8)), none, none, some (.ifCond .eq 40, 3, (0, 0, 0, 0)), none, none, some (.aload_n 0, 1, (0, 0, 0, 0)), some (.getfield 41, 3, (1, 5, 1, 0)), none, none, some (.iload_n 2, 1, (0, 0, 0, 0)), some (.invokevirtual 85, 3, (8, 16, 1, 8)), none, none, some (.ifCond .eq 29, 3, (0, 0, 0, 0)), none, none, some (.aload_n 0, 1, (0, 0, 0, 0)), some (.getfield 28, 3, (1, 5, 7, 1)), none, none, some (.iload_n 1, 1, (0, 0, 0, 0)), some (.iaload, 1, (0, 0, 0, 0)), some (.istore_n 3, 1, (0, 0, 0, 0)), some (.aload_n 0, 1, (0, 0, 0, 0)), some (.getfield 28, 3, (1, 5, 7, 1)), none, none, some (.iload_n 1, 1, (0, 0, 0, 0)), some (.aload_n 0, 1, (0, 0, 0, 0)), some (.getfield 28, 3, (1, 5, 7, 1)), none, none, some (.iload_n 2, 1, (0, 0, 0, 0)), some (.iaload, 1, (0, 0, 0, 0)), some (.iastore, 1, (0, 0, 0, 0)), some (.aload_n 0, 1, (0, 0, 0, 0)), some (.getfield 28, 3, (1, 5, 7, 1)), none, none, some (.iload_n 2, 1, (0, 0, 0, 0)), some (.iload_n 3, 1, (0, 0, 0, 0)), some (.iastore, 1, (0, 0, 0, 0)), some (.return_, 1, (0, 0, 0, 0))]
def q_129 : ak_Q := (yX5_swap, cX5_swap, 4, none, k_129, 5)
set_option maxRecDepth 100000 in
def k_130 : List ak_I := [some (.aload_n 0, 1, (0, 0, 0, 0)), some (.getfield 12, 3, (1, 11, 0, 1)), none, none, some (.iload_n 1, 1, (0, 0, 0, 0)), some (.invokevirtual 70, 3, (8, 16, 1, 8)), none, none, some (.ifCond .eq 10, 3, (0, 0, 0, 0)), none, none, some (.iload_n 2, 1, (0, 0, 0, 0)), some (.invokestatic 81, 3, (11, 26, 1, 0)), none, none, some (.ifCond .ne 6, 3, (0, 0, 0, 0)), none, none, some (.bipush (-2), 2, (0, 0, 0, 0)), none, some (.ireturn, 1, (0, 0, 0, 0)), some (.aload_n 0, 1, (0, 0, 0, 0)), some (.getfield 40, 3, (1, 11, 7, 1)), none, none, some (.aload_n 0, 1, (0, 0, 0, 0)), some (.getfield 12, 3, (1, 11, 0, 1)), none, none, some (.invokevirtual 132, 3, (8, 99, 1, 5)), none, none, some (.aload_n 0, 1, (0, 0, 0, 0)), some (.getfield 40, 3, (1, 11, 7, 1)), none, none, some (.iload_n 1, 1, (0, 0, 0, 0)), some (.iload_n 2, 1, (0, 0, 0, 0)), some (.invokevirtual 186, 3, (8, 131, 2, 5)), none, none, some (.ireturn, 1, (0, 0, 0, 0))]
def q_130 : ak_Q := (yX11_bars, cX11_bars, 3, (some .int), k_130, 11)
set_option maxRecDepth 100000 in
def k_131 : List ak_I := [some (.aload_n 0, 1, (0, 0, 0, 0)), some (.getfield 41, 3, (1, 5, 1, 0)), none, none, some (.iload_n 1, 1, (0, 0, 0, 0)), some (.invokevirtual 85, 3, (8, 16, 1, 8)), none, none, some (.ifCond .eq 10, 3, (0, 0, 0, 0)), none, none, some (.iload_n 2, 1, (0, 0, 0, 0)), some (.invokestatic 82, 3, (12, 26, 1, 0)), none, none, some (.ifCond .ne 5, 3, (0, 0, 0, 0)), none, none, some (.iconst (-1), 1, (0, 0, 0, 0)), some (.ireturn, 1, (0, 0, 0, 0)), some (.aload_n 0, 1, (0, 0, 0, 0)), some (.getfield 28, 3, (1, 5, 7, 1)), none, none, some (.iload_n 1, 1, (0, 0, 0, 0)), some (.iload_n 2, 1, (0, 0, 0, 0)), some (.iconst 1, 1, (0, 0, 0, 0)), some (.iadd, 1, (0, 0, 0, 0)), some (.iastore, 1, (0, 0, 0, 0)), some (.aload_n 0, 1, (0, 0, 0, 0)), some (.invokevirtual 152, 3, (8, 107, 0, 5)), none, none, some (.ifCond .eq 5, 3, (0, 0, 0, 0)), none, none, some (.iconst (-1), 1, (0, 0, 0, 0)), some (.ireturn, 1, (0, 0, 0, 0)), some (.iconst 0, 1, (0, 0, 0, 0)), some (.istore_n 3, 1, (0, 0, 0, 0)), some (.iload_n 3, 1, (0, 0, 0, 0)), some (.aload_n 0, 1, (0, 0, 0, 0)), some (.getfield 41, 3, (1, 5, 1, 0)), none, none, some (.getfield 51, 3, (1, 8, 4, 0)), none, none, some (.if_icmp .ge 33, 3, (0, 0, 0, 0)), none, none, some (.iload_n 3, 1, (0, 0, 0, 0)), some (.iload_n 1, 1, (0, 0, 0, 0)), some (.if_icmp .eq 22, 3, (0, 0, 0, 0)), none, none, some (.aload_n 0, 1, (0, 0, 0, 0)), some (.getfield 28, 3, (1, 5, 7, 1)), none, none, some (.iload_n 3, 1, (0, 0, 0, 0)), some (.iaload, 1, (0, 0, 0, 0)), some (.ifCond .eq 13, 3, (0, 0, 0, 0)), none, none, some (.aload_n 0, 1, (0, 0, 0, 0)), some (.iload_n 3, 1, (0, 0, 0, 0)), some (.invokevirtual 156, 3, (8, 132, 1, 5)), none, none, some (.ifCond .eq 5, 3, (0, 0, 0, 0)), none, none, some (.iload_n 3, 1, (0, 0, 0, 0)), some (.ireturn, 1, (0, 0, 0, 0)), some (.iinc 3 1, 3, (0, 0, 0, 0)), none, none, some (.goto (-38), 3, (0, 0, 0, 0)), none, none, some (.iconst (-1), 1, (0, 0, 0, 0)), some (.ireturn, 1, (0, 0, 0, 0))]
def q_131 : ak_Q := (yX5_barring, cX5_barring, 4, (some .int), k_131, 5)
set_option maxRecDepth 100000 in
def k_132 : List ak_I := [some (.aload_n 0, 1, (0, 0, 0, 0)), some (.getfield 28, 3, (1, 5, 7, 1)), none, none, some (.iload_n 1, 1, (0, 0, 0, 0)), some (.iaload, 1, (0, 0, 0, 0)), some (.istore_n 2, 1, (0, 0, 0, 0)), some (.aload_n 0, 1, (0, 0, 0, 0)), some (.getfield 28, 3, (1, 5, 7, 1)), none, none, some (.iload_n 1, 1, (0, 0, 0, 0)), some (.iconst 0, 1, (0, 0, 0, 0)), some (.iastore, 1, (0, 0, 0, 0)), some (.aload_n 0, 1, (0, 0, 0, 0)), some (.invokevirtual 152, 3, (8, 107, 0, 5)), none, none, some (.istore_n 3, 1, (0, 0, 0, 0)), some (.aload_n 0, 1, (0, 0, 0, 0)), some (.getfield 28, 3, (1, 5, 7, 1)), none, none, some (.iload_n 1, 1, (0, 0, 0, 0)), some (.iload_n 2, 1, (0, 0, 0, 0)), some (.iastore, 1, (0, 0, 0, 0)), some (.iload_n 3, 1, (0, 0, 0, 0)), some (.ireturn, 1, (0, 0, 0, 0))]
def q_132 : ak_Q := (yX5_holdsWithout, cX5_holdsWithout, 4, (some .boolean), k_132, 5)
set_option maxRecDepth 100000 in
def k_133 : List ak_I := [some (.aload_n 0, 1, (0, 0, 0, 0)), some (.getfield 40, 3, (1, 11, 7, 1)), none, none, some (.aload_n 0, 1, (0, 0, 0, 0)), some (.getfield 12, 3, (1, 11, 0, 1)), none, none, some (.invokevirtual 132, 3, (8, 99, 1, 5)), none, none, some (.aload_n 0, 1, (0, 0, 0, 0)), some (.getfield 40, 3, (1, 11, 7, 1)), none, none, some (.invokevirtual 177, 3, (8, 123, 0, 5)), none, none, some (.iconst 0, 1, (0, 0, 0, 0)), some (.istore_n 1, 1, (0, 0, 0, 0)), some (.iload_n 1, 1, (0, 0, 0, 0)), some (.aload_n 0, 1, (0, 0, 0, 0)), some (.getfield 12, 3, (1, 11, 0, 1)), none, none, some (.getfield 153, 3, (1, 8, 4, 0)), none, none, some (.if_icmp .ge 26, 3, (0, 0, 0, 0)), none, none, some (.aload_n 0, 1, (0, 0, 0, 0)), some (.getfield 12, 3, (1, 11, 0, 1)), none, none, some (.getfield 88, 3, (1, 8, 10, 1)), none, none, some (.iload_n 1, 1, (0, 0, 0, 0)), some (.aload_n 0, 1, (0, 0, 0, 0)), some (.getfield 40, 3, (1, 11, 7, 1)), none, none, some (.iload_n 1, 1, (0, 0, 0, 0)), some (.invokevirtual 189, 3, (8, 134, 1, 5)), none, none, some (.iastore, 1, (0, 0, 0, 0)), some (.iinc 1 1, 3, (0, 0, 0, 0)), none, none, some (.goto (-31), 3, (0, 0, 0, 0)), none, none, some (.aload_n 0, 1, (0, 0, 0, 0)), some (.getfield 40, 3, (1, 11, 7, 1)), none, none, some (.invokevirtual 143, 3, (8, 109, 0, 5)), none, none, some (.ireturn, 1, (0, 0, 0, 0))]
def q_133 : ak_Q := (yX11_settle, cX11_settle, 2, (some .int), k_133, 11)
set_option maxRecDepth 100000 in
def k_134 : List ak_I := [some (.aload_n 0, 1, (0, 0, 0, 0)), some (.getfield 41, 3, (1, 5, 1, 0)), none, none, some (.iload_n 1, 1, (0, 0, 0, 0)), some (.invokevirtual 85, 3, (8, 16, 1, 8)), none, none, some (.ifCond .eq 14, 3, (0, 0, 0, 0)), none, none, some (.aload_n 0, 1, (0, 0, 0, 0)), some (.getfield 28, 3, (1, 5, 7, 1)), none, none, some (.iload_n 1, 1, (0, 0, 0, 0)), some (.iaload, 1, (0, 0, 0, 0)), some (.iconst 1, 1, (0, 0, 0, 0)), some (.isub, 1, (0, 0, 0, 0)), some (.goto 4, 3, (0, 0, 0, 0)), none, none, some (.iconst (-1), 1, (0, 0, 0, 0)), some (.ireturn, 1, (0, 0, 0, 0))]
def q_134 : ak_Q := (yX5_blockOf, cX5_blockOf, 2, (some .int), k_134, 5)
set_option maxRecDepth 100000 in
def k_135 : List ak_I := [some (.iload_n 1, 1, (0, 0, 0, 0)), some (.invokestatic 192, 3, (11, 136, 1, 0)), none, none, some (.ifCond .eq 23, 3, (0, 0, 0, 0)), none, none, some (.aload_n 0, 1, (0, 0, 0, 0)), some (.getfield 12, 3, (1, 11, 0, 1)), none, none, some (.iload_n 2, 1, (0, 0, 0, 0)), some (.invokevirtual 70, 3, (8, 16, 1, 8)), none, none, some (.ifCond .eq 12, 3, (0, 0, 0, 0)), none, none, some (.iload_n 3, 1, (0, 0, 0, 0)), some (.ifCond .lt 8, 3, (0, 0, 0, 0)), none, none, some (.iload_n 3, 1, (0, 0, 0, 0)), some (.iconst 5, 1, (0, 0, 0, 0)), some (.if_icmp .le 6, 3, (0, 0, 0, 0)), none, none, some (.bipush (-2), 2, (0, 0, 0, 0)), none, some (.ireturn, 1, (0, 0, 0, 0)), some (.aload_n 0, 1, (0, 0, 0, 0)), some (.getfield 46, 3, (1, 11, 8, 1)), none, none, some (.iload_n 1, 1, (0, 0, 0, 0)), some (.aaload, 1, (0, 0, 0, 0)), some (.astore 4, 2, (0, 0, 0, 0)), none, some (.aload 4, 2, (0, 0, 0, 0)), none, some (.invokevirtual 195, 3, (8, 137, 0, 7)), none, none, some (.ifCond .eq 6, 3, (0, 0, 0, 0)), none, none, some (.bipush (-11), 2, (0, 0, 0, 0)), none, some (.ireturn, 1, (0, 0, 0, 0)), some (.aload 4, 2, (0, 0, 0, 0)), none, some (.getfield 198, 3, (1, 7, 1, 0)), none, none, some (.bipush 8, 2, (0, 0, 0, 0)), none, some (.if_icmp .eq 6, 3, (0, 0, 0, 0)), none, none, some (.bipush (-2), 2, (0, 0, 0, 0)), none, some (.ireturn, 1, (0, 0, 0, 0)), some (.aload_n 0, 1, (0, 0, 0, 0)), some (.getfield 19, 3, (1, 11, 2, 1)), none, none, some (.aload_n 0, 1, (0, 0, 0, 0)), some (.getfield 12, 3, (1, 11, 0, 1)), none, none, some (.invokevirtual 199, 3, (8, 138, 1, 8)), none, none, some (.iload_n 3, 1, (0, 0, 0, 0)), some (.tableswitch 74 0 4 #[34, 42, 50, 58, 66], 34, (0, 0, 0, 0)), none, none, none, none, none, none, none, none, none, none, none, none, none, none, none, none, none, none, none, none, none, none, none, none, none, none, none, none, none, none, none, none, none, some (.aload_n 0, 1, (0, 0, 0, 0)), some (.aload 4, 2, (0, 0, 0, 0)), none, some (.iload_n 2, 1, (0, 0, 0, 0)), some (.invokevirtual 202, 3, (8, 139, 2, 11)), none, none, some (.ireturn, 1, (0, 0, 0, 0)), some (.aload_n 0, 1, (0, 0, 0, 0)), some (.aload 4, 2, (0, 0, 0, 0)), none, some (.iload_n 2, 1, (0, 0, 0, 0)), some (.invokevirtual 206, 3, (8, 140, 2, 11)), none, none, some (.ireturn, 1, (0, 0, 0, 0)), some (.aload_n 0, 1, (0, 0, 0, 0)), some (.aload 4, 2, (0, 0, 0, 0)), none, some (.iload_n 2, 1, (0, 0, 0, 0)), some (.invokevirtual 209, 3, (8, 141, 2, 11)), none, none, some (.ireturn, 1, (0, 0, 0, 0)), some (.aload_n 0, 1, (0, 0, 0, 0)), some (.aload 4, 2, (0, 0, 0, 0)), none, some (.iload_n 2, 1, (0, 0, 0, 0)), some (.invokevirtual 212, 3, (8, 142, 2, 11)), none, none, some (.ireturn, 1, (0, 0, 0, 0)), some (.aload_n 0, 1, (0, 0, 0, 0)), some (.aload 4, 2, (0, 0, 0, 0)), none, some (.iload_n 2, 1, (0, 0, 0, 0)), some (.invokevirtual 215, 3, (8, 144, 2, 11)), none, none, some (.ireturn, 1, (0, 0, 0, 0)), some (.aload_n 0, 1, (0, 0, 0, 0)), some (.aload 4, 2, (0, 0, 0, 0)), none, some (.iload_n 2, 1, (0, 0, 0, 0)), some (.invokevirtual 218, 3, (8, 145, 2, 11)), none, none, some (.ireturn, 1, (0, 0, 0, 0))]
def q_135 : ak_Q := (yX11_tells, cX11_tells, 5, (some .int), k_135, 11)
set_option maxRecDepth 100000 in
def k_136 : List ak_I := [some (.iload_n 0, 1, (0, 0, 0, 0)), some (.ifCond .lt 12, 3, (0, 0, 0, 0)), none, none, some (.iload_n 0, 1, (0, 0, 0, 0)), some (.iconst 4, 1, (0, 0, 0, 0)), some (.if_icmp .ge 7, 3, (0, 0, 0, 0)), none, none, some (.iconst 1, 1, (0, 0, 0, 0)), some (.goto 4, 3, (0, 0, 0, 0)), none, none, some (.iconst 0, 1, (0, 0, 0, 0)), some (.ireturn, 1, (0, 0, 0, 0))]
def q_136 : ak_Q := (yX11_isSheet, cX11_isSheet, 1, (some .boolean), k_136, 11)
set_option maxRecDepth 100000 in
def k_137 : List ak_I := [some (.aload_n 0, 1, (0, 0, 0, 0)), some (.getfield 9, 3, (1, 7, 0, 0)), none, none, some (.iconst (-1), 1, (0, 0, 0, 0)), some (.if_icmp .ne 7, 3, (0, 0, 0, 0)), none, none, some (.iconst 1, 1, (0, 0, 0, 0)), some (.goto 4, 3, (0, 0, 0, 0)), none, none, some (.iconst 0, 1, (0, 0, 0, 0)), some (.ireturn, 1, (0, 0, 0, 0))]
def q_137 : ak_Q := (yX7_isMissing, cX7_isMissing, 1, (some .boolean), k_137, 7)
set_option maxRecDepth 100000 in
def k_138 : List ak_I := [some (.aload_n 0, 1, (0, 0, 0, 0)), some (.aload_n 1, 1, (0, 0, 0, 0)), some (.getfield 37, 3, (1, 8, 0, 0)), none, none, some (.putfield 37, 3, (1, 8, 0, 0)), none, none, some (.aload_n 0, 1, (0, 0, 0, 0)), some (.aload_n 1, 1, (0, 0, 0, 0)), some (.getfield 9, 3, (1, 8, 1, 0)), none, none, some (.putfield 9, 3, (1, 8, 1, 0)), none, none, some (.aload_n 0, 1, (0, 0, 0, 0)), some (.aload_n 1, 1, (0, 0, 0, 0)), some (.getfield 40, 3, (1, 8, 2, 0)), none, none, some (.putfield 40, 3, (1, 8, 2, 0)), none, none, some (.aload_n 0, 1, (0, 0, 0, 0)), some (.aload_n 1, 1, (0, 0, 0, 0)), some (.getfield 43, 3, (1, 8, 3, 0)), none, none, some (.putfield 43, 3, (1, 8, 3, 0)), none, none, some (.aload_n 0, 1, (0, 0, 0, 0)), some (.aload_n 1, 1, (0, 0, 0, 0)), some (.getfield 46, 3, (1, 8, 4, 0)), none, none, some (.putfield 46, 3, (1, 8, 4, 0)), none, none, some (.iconst 0, 1, (0, 0, 0, 0)), some (.istore_n 2, 1, (0, 0, 0, 0)), some (.iload_n 2, 1, (0, 0, 0, 0)), some (.iconst 4, 1, (0, 0, 0, 0)), some (.if_icmp .ge 93, 3, (0, 0, 0, 0)), none, none, some (.aload_n 0, 1, (0, 0, 0, 0)), some (.getfield 15, 3, (1, 8, 5, 1)), none, none, some (.iload_n 2, 1, (0, 0, 0, 0)), some (.aload_n 1, 1, (0, 0, 0, 0)), some (.getfield 15, 3, (1, 8, 5, 1)), none, none, some (.iload_n 2, 1, (0, 0, 0, 0)), some (.iaload, 1, (0, 0, 0, 0)), some (.iastore, 1, (0, 0, 0, 0)), some (.aload_n 0, 1, (0, 0, 0, 0)), some (.getfield 19, 3, (1, 8, 6, 1)), none, none, some (.iload_n 2, 1, (0, 0, 0, 0)), some (.aload_n 1, 1, (0, 0, 0, 0)), some (.getfield 19, 3, (1, 8, 6, 1)), none, none, some (.iload_n 2, 1, (0, 0, 0, 0)), some (.iaload, 1, (0, 0, 0, 0)), some (.iastore, 1, (0, 0, 0, 0)), some (.aload_n 0, 1, (0, 0, 0, 0)), some (.getfield 22, 3, (1, 8, 7, 1)), none, none, some (.iload_n 2, 1, (0, 0, 0, 0)), some (.aload_n 1, 1, (0, 0, 0, 0)), some (.getfield 22, 3, (1, 8, 7, 1)), none, none, some (.iload_n 2, 1, (0, 0, 0, 0)), some (.iaload, 1, (0, 0, 0, 0)), some (.iastore, 1, (0, 0, 0, 0)), some (.aload_n 0, 1, (0, 0, 0, 0)), some (.getfield 25, 3, (1, 8, 8, 1)), none, none, some (.iload_n 2, 1, (0, 0, 0, 0)), some (.aload_n 1, 1, (0, 0, 0, 0)), some (.getfield 25, 3, (1, 8, 8, 1)), none, none, some (.iload_n 2, 1, (0, 0, 0, 0)), some (.iaload, 1, (0, 0, 0, 0)), some (.iastore, 1, (0, 0, 0, 0)), some (.aload_n 0, 1, (0, 0, 0, 0)), some (.getfield 28, 3, (1, 8, 9, 1)), none, none, some (.iload_n 2, 1, (0, 0, 0, 0)), some (.aload_n 1, 1, (0, 0, 0, 0)), some (.getfield 28, 3, (1, 8, 9, 1)), none, none, some (.iload_n 2, 1, (0, 0, 0, 0)), some (.iaload, 1, (0, 0, 0, 0)), some (.iastore, 1, (0, 0, 0, 0)), some (.aload_n 0, 1, (0, 0, 0, 0)), some (.getfield 31, 3, (1, 8, 10, 1)), none, none, some (.iload_n 2, 1, (0, 0, 0, 0)), some (.aload_n 1, 1, (0, 0, 0, 0)), some (.getfield 31, 3, (1, 8, 10, 1)), none, none, some (.iload_n 2, 1, (0, 0, 0, 0)), some (.iaload, 1, (0, 0, 0, 0)), some (.iastore, 1, (0, 0, 0, 0)), some (.aload_n 0, 1, (0, 0, 0, 0)), some (.getfield 34, 3, (1, 8, 11, 1)), none, none, some (.iload_n 2, 1, (0, 0, 0, 0)), some (.aload_n 1, 1, (0, 0, 0, 0)), some (.getfield 34, 3, (1, 8, 11, 1)), none, none, some (.iload_n 2, 1, (0, 0, 0, 0)), some (.iaload, 1, (0, 0, 0, 0)), some (.iastore, 1, (0, 0, 0, 0)), some (.iinc 2 1, 3, (0, 0, 0, 0)), none, none, some (.goto (-92), 3, (0, 0, 0, 0)), none, none, some (.return_, 1, (0, 0, 0, 0))]
def q_138 : ak_Q := (yX8_become, cX8_become, 3, none, k_138, 8)
set_option maxRecDepth 100000 in
def k_139 : List ak_I := [some (.iconst 0, 1, (0, 0, 0, 0)), some (.istore_n 3, 1, (0, 0, 0, 0)), some (.iload_n 3, 1, (0, 0, 0, 0)), some (.bipush 8, 2, (0, 0, 0, 0)), none, some (.if_icmp .ge 33, 3, (0, 0, 0, 0)), none, none, some (.aload_n 0, 1, (0, 0, 0, 0)), some (.getfield 31, 3, (1, 11, 6, 1)), none, none, some (.aload_n 0, 1, (0, 0, 0, 0)), some (.getfield 19, 3, (1, 11, 2, 1)), none, none, some (.iload_n 2, 1, (0, 0, 0, 0)), some (.iload_n 3, 1, (0, 0, 0, 0)), some (.invokevirtual 104, 3, (8, 48, 3, 6)), none, none, some (.aload_n 1, 1, (0, 0, 0, 0)), some (.getfield 250, 3, (1, 7, 2, 1)), none, none, some (.iload_n 3, 1, (0, 0, 0, 0)), some (.iaload, 1, (0, 0, 0, 0)), some (.if_icmp .eq 5, 3, (0, 0, 0, 0)), none, none, some (.iload_n 3, 1, (0, 0, 0, 0)), some (.ireturn, 1, (0, 0, 0, 0)), some (.iinc 3 1, 3, (0, 0, 0, 0)), none, none, some (.goto (-33), 3, (0, 0, 0, 0)), none, none, some (.iconst (-1), 1, (0, 0, 0, 0)), some (.ireturn, 1, (0, 0, 0, 0))]
def q_139 : ak_Q := (yX11_firstOtherwise, cX11_firstOtherwise, 4, (some .int), k_139, 11)
set_option maxRecDepth 100000 in
def k_140 : List ak_I := [some (.iconst 0, 1, (0, 0, 0, 0)), some (.istore_n 3, 1, (0, 0, 0, 0)), some (.iconst 0, 1, (0, 0, 0, 0)), some (.istore 4, 2, (0, 0, 0, 0)), none, some (.iload 4, 2, (0, 0, 0, 0)), none, some (.bipush 6, 2, (0, 0, 0, 0)), none, some (.if_icmp .ge 37, 3, (0, 0, 0, 0)), none, none, some (.aload_n 0, 1, (0, 0, 0, 0)), some (.getfield 19, 3, (1, 11, 2, 1)), none, none, some (.getfield 91, 3, (1, 8, 5, 1)), none, none, some (.iload_n 2, 1, (0, 0, 0, 0)), some (.iload 4, 2, (0, 0, 0, 0)), none, some (.iastore, 1, (0, 0, 0, 0)), some (.aload_n 0, 1, (0, 0, 0, 0)), some (.aload_n 1, 1, (0, 0, 0, 0)), some (.iload_n 2, 1, (0, 0, 0, 0)), some (.invokevirtual 202, 3, (8, 139, 2, 11)), none, none, some (.iconst (-1), 1, (0, 0, 0, 0)), some (.if_icmp .ne 10, 3, (0, 0, 0, 0)), none, none, some (.iload_n 3, 1, (0, 0, 0, 0)), some (.iconst 1, 1, (0, 0, 0, 0)), some (.iload 4, 2, (0, 0, 0, 0)), none, some (.ishl, 1, (0, 0, 0, 0)), some (.ior, 1, (0, 0, 0, 0)), some (.istore_n 3, 1, (0, 0, 0, 0)), some (.iinc 4 1, 3, (0, 0, 0, 0)), none, none, some (.goto (-38), 3, (0, 0, 0, 0)), none, none, some (.iload_n 3, 1, (0, 0, 0, 0)), some (.ireturn, 1, (0, 0, 0, 0))]
def q_140 : ak_Q := (yX11_kindsTold, cX11_kindsTold, 5, (some .int), k_140, 11)
set_option maxRecDepth 100000 in
def k_141 : List ak_I := [some (.iconst 0, 1, (0, 0, 0, 0)), some (.istore_n 3, 1, (0, 0, 0, 0)), some (.iconst 0, 1, (0, 0, 0, 0)), some (.istore 4, 2, (0, 0, 0, 0)), none, some (.iload 4, 2, (0, 0, 0, 0)), none, some (.bipush 10, 2, (0, 0, 0, 0)), none, some (.if_icmp .ge 37, 3, (0, 0, 0, 0)), none, none, some (.aload_n 0, 1, (0, 0, 0, 0)), some (.getfield 19, 3, (1, 11, 2, 1)), none, none, some (.getfield 253, 3, (1, 8, 6, 1)), none, none, some (.iload_n 2, 1, (0, 0, 0, 0)), some (.iload 4, 2, (0, 0, 0, 0)), none, some (.iastore, 1, (0, 0, 0, 0)), some (.aload_n 0, 1, (0, 0, 0, 0)), some (.aload_n 1, 1, (0, 0, 0, 0)), some (.iload_n 2, 1, (0, 0, 0, 0)), some (.invokevirtual 202, 3, (8, 139, 2, 11)), none, none, some (.iconst (-1), 1, (0, 0, 0, 0)), some (.if_icmp .ne 10, 3, (0, 0, 0, 0)), none, none, some (.iload_n 3, 1, (0, 0, 0, 0)), some (.iconst 1, 1, (0, 0, 0, 0)), some (.iload 4, 2, (0, 0, 0, 0)), none, some (.ishl, 1, (0, 0, 0, 0)), some (.ior, 1, (0, 0, 0, 0)), some (.istore_n 3, 1, (0, 0, 0, 0)), some (.iinc 4 1, 3, (0, 0, 0, 0)), none, none, some (.goto (-38), 3, (0, 0, 0, 0)), none, none, some (.iload_n 3, 1, (0, 0, 0, 0)), some (.ireturn, 1, (0, 0, 0, 0))]
def q_141 : ak_Q := (yX11_numbersTold, cX11_numbersTold, 5, (some .int), k_141, 11)
set_option maxRecDepth 100000 in
def k_142 : List ak_I := [some (.iconst 1, 1, (0, 0, 0, 0)), some (.istore_n 3, 1, (0, 0, 0, 0)), some (.iconst 0, 1, (0, 0, 0, 0)), some (.istore 4, 2, (0, 0, 0, 0)), none, some (.iload 4, 2, (0, 0, 0, 0)), none, some (.bipush 8, 2, (0, 0, 0, 0)), none, some (.if_icmp .ge 61, 3, (0, 0, 0, 0)), none, none, some (.iconst 0, 1, (0, 0, 0, 0)), some (.istore 5, 2, (0, 0, 0, 0)), none, some (.iload 5, 2, (0, 0, 0, 0)), none, some (.aload_n 0, 1, (0, 0, 0, 0)), some (.aload_n 1, 1, (0, 0, 0, 0)), some (.iload_n 2, 1, (0, 0, 0, 0)), some (.iload 4, 2, (0, 0, 0, 0)), none, some (.iconst 0, 1, (0, 0, 0, 0)), some (.invokevirtual 256, 3, (8, 143, 4, 11)), none, none, some (.ifCond .eq 7, 3, (0, 0, 0, 0)), none, none, some (.iconst 1, 1, (0, 0, 0, 0)), some (.goto 4, 3, (0, 0, 0, 0)), none, none, some (.iconst 0, 1, (0, 0, 0, 0)), some (.iadd, 1, (0, 0, 0, 0)), some (.istore 5, 2, (0, 0, 0, 0)), none, some (.iload 5, 2, (0, 0, 0, 0)), none, some (.aload_n 0, 1, (0, 0, 0, 0)), some (.aload_n 1, 1, (0, 0, 0, 0)), some (.iload_n 2, 1, (0, 0, 0, 0)), some (.iload 4, 2, (0, 0, 0, 0)), none, some (.iconst 1, 1, (0, 0, 0, 0)), some (.invokevirtual 256, 3, (8, 143, 4, 11)), none, none, some (.ifCond .eq 7, 3, (0, 0, 0, 0)), none, none, some (.iconst 1, 1, (0, 0, 0, 0)), some (.goto 4, 3, (0, 0, 0, 0)), none, none, some (.iconst 0, 1, (0, 0, 0, 0)), some (.iadd, 1, (0, 0, 0, 0)), some (.istore 5, 2, (0, 0, 0, 0)), none, some (.iload_n 3, 1, (0, 0, 0, 0)), some (.iload 5, 2, (0, 0, 0, 0)), none, some (.imul, 1, (0, 0, 0, 0)), some (.istore_n 3, 1, (0, 0, 0, 0)), some (.iinc 4 1, 3, (0, 0, 0, 0)), none, none, some (.goto (-62), 3, (0, 0, 0, 0)), none, none, some (.iload_n 3, 1, (0, 0, 0, 0)), some (.ireturn, 1, (0, 0, 0, 0))]
def q_142 : ak_Q := (yX11_wishesTold, cX11_wishesTold, 6, (some .int), k_142, 11)
set_option maxRecDepth 100000 in
def k_143 : List ak_I := [some (.aload_n 0, 1, (0, 0, 0, 0)), some (.getfield 19, 3, (1, 11, 2, 1)), none, none, some (.getfield 247, 3, (1, 8, 8, 1)), none, none, some (.iload_n 2, 1, (0, 0, 0, 0)), some (.iload 4, 2, (0, 0, 0, 0)), none, some (.ifCond .eq 9, 3, (0, 0, 0, 0)), none, none, some (.iconst 1, 1, (0, 0, 0, 0)), some (.iload_n 3, 1, (0, 0, 0, 0)), some (.ishl, 1, (0, 0, 0, 0)), some (.goto 4, 3, (0, 0, 0, 0)), none, none, some (.iconst 0, 1, (0, 0, 0, 0)), some (.iastore, 1, (0, 0, 0, 0)), some (.aload_n 0, 1, (0, 0, 0, 0)), some (.getfield 31, 3, (1, 11, 6, 1)), none, none, some (.aload_n 0, 1, (0, 0, 0, 0)), some (.getfield 19, 3, (1, 11, 2, 1)), none, none, some (.iload_n 2, 1, (0, 0, 0, 0)), some (.iload_n 3, 1, (0, 0, 0, 0)), some (.invokevirtual 104, 3, (8, 48, 3, 6)), none, none, some (.aload_n 1, 1, (0, 0, 0, 0)), some (.getfield 250, 3, (1, 7, 2, 1)), none, none, some (.iload_n 3, 1, (0, 0, 0, 0)), some (.iaload, 1, (0, 0, 0, 0)), some (.if_icmp .ne 7, 3, (0, 0, 0, 0)), none, none, some (.iconst 1, 1, (0, 0, 0, 0)), some (.goto 4, 3, (0, 0, 0, 0)), none, none, some (.iconst 0, 1, (0, 0, 0, 0)), some (.ireturn, 1, (0, 0, 0, 0))]
def q_143 : ak_Q := (yX11_isSoIfWished, cX11_isSoIfWished, 5, (some .boolean), k_143, 11)
set_option maxRecDepth 100000 in
def k_144 : List ak_I := [some (.iconst 0, 1, (0, 0, 0, 0)), some (.istore_n 3, 1, (0, 0, 0, 0)), some (.iconst 0, 1, (0, 0, 0, 0)), some (.istore 4, 2, (0, 0, 0, 0)), none, some (.iload 4, 2, (0, 0, 0, 0)), none, some (.bipush 8, 2, (0, 0, 0, 0)), none, some (.if_icmp .ge 45, 3, (0, 0, 0, 0)), none, none, some (.aload_n 0, 1, (0, 0, 0, 0)), some (.aload_n 1, 1, (0, 0, 0, 0)), some (.iload_n 2, 1, (0, 0, 0, 0)), some (.iload 4, 2, (0, 0, 0, 0)), none, some (.iconst 0, 1, (0, 0, 0, 0)), some (.invokevirtual 256, 3, (8, 143, 4, 11)), none, none, some (.ifCond .eq 6, 3, (0, 0, 0, 0)), none, none, some (.goto 24, 3, (0, 0, 0, 0)), none, none, some (.aload_n 0, 1, (0, 0, 0, 0)), some (.aload_n 1, 1, (0, 0, 0, 0)), some (.iload_n 2, 1, (0, 0, 0, 0)), some (.iload 4, 2, (0, 0, 0, 0)), none, some (.iconst 1, 1, (0, 0, 0, 0)), some (.invokevirtual 256, 3, (8, 143, 4, 11)), none, none, some (.ifCond .ne 5, 3, (0, 0, 0, 0)), none, none, some (.iconst (-1), 1, (0, 0, 0, 0)), some (.ireturn, 1, (0, 0, 0, 0)), some (.iload_n 3, 1, (0, 0, 0, 0)), some (.iconst 1, 1, (0, 0, 0, 0)), some (.iload 4, 2, (0, 0, 0, 0)), none, some (.ishl, 1, (0, 0, 0, 0)), some (.ior, 1, (0, 0, 0, 0)), some (.istore_n 3, 1, (0, 0, 0, 0)), some (.iinc 4 1, 3, (0, 0, 0, 0)), none, none, some (.goto (-46), 3, (0, 0, 0, 0)), none, none, some (.iload_n 3, 1, (0, 0, 0, 0)), some (.ireturn, 1, (0, 0, 0, 0))]
def q_144 : ak_Q := (yX11_leastWishesTold, cX11_leastWishesTold, 5, (some .int), k_144, 11)
set_option maxRecDepth 100000 in
def k_145 : List ak_I := [some (.iconst 0, 1, (0, 0, 0, 0)), some (.istore_n 3, 1, (0, 0, 0, 0)), some (.iconst 0, 1, (0, 0, 0, 0)), some (.istore 4, 2, (0, 0, 0, 0)), none, some (.iload 4, 2, (0, 0, 0, 0)), none, some (.aload_n 0, 1, (0, 0, 0, 0)), some (.getfield 31, 3, (1, 11, 6, 1)), none, none, some (.getfield 115, 3, (1, 6, 0, 0)), none, none, some (.if_icmp .ge 35, 3, (0, 0, 0, 0)), none, none, some (.aload_n 0, 1, (0, 0, 0, 0)), some (.getfield 19, 3, (1, 11, 2, 1)), none, none, some (.iload 4, 2, (0, 0, 0, 0)), none, some (.putfield 128, 3, (1, 8, 3, 0)), none, none, some (.aload_n 0, 1, (0, 0, 0, 0)), some (.aload_n 1, 1, (0, 0, 0, 0)), some (.iload_n 2, 1, (0, 0, 0, 0)), some (.invokevirtual 202, 3, (8, 139, 2, 11)), none, none, some (.iconst (-1), 1, (0, 0, 0, 0)), some (.if_icmp .ne 10, 3, (0, 0, 0, 0)), none, none, some (.iload_n 3, 1, (0, 0, 0, 0)), some (.iconst 1, 1, (0, 0, 0, 0)), some (.iload 4, 2, (0, 0, 0, 0)), none, some (.ishl, 1, (0, 0, 0, 0)), some (.ior, 1, (0, 0, 0, 0)), some (.istore_n 3, 1, (0, 0, 0, 0)), some (.iinc 4 1, 3, (0, 0, 0, 0)), none, none, some (.goto (-41), 3, (0, 0, 0, 0)), none, none, some (.iload_n 3, 1, (0, 0, 0, 0)), some (.ireturn, 1, (0, 0, 0, 0))]
def q_145 : ak_Q := (yX11_textsTold, cX11_textsTold, 5, (some .int), k_145, 11)
set_option maxRecDepth 100000 in
def k_146 : List ak_I := [some (.iload_n 1, 1, (0, 0, 0, 0)), some (.invokestatic 192, 3, (11, 136, 1, 0)), none, none, some (.ifCond .eq 14, 3, (0, 0, 0, 0)), none, none, some (.aload_n 0, 1, (0, 0, 0, 0)), some (.getfield 12, 3, (1, 11, 0, 1)), none, none, some (.iload_n 2, 1, (0, 0, 0, 0)), some (.invokevirtual 70, 3, (8, 16, 1, 8)), none, none, some (.ifCond .ne 6, 3, (0, 0, 0, 0)), none, none, some (.bipush (-2), 2, (0, 0, 0, 0)), none, some (.ireturn, 1, (0, 0, 0, 0)), some (.aload_n 0, 1, (0, 0, 0, 0)), some (.getfield 46, 3, (1, 11, 8, 1)), none, none, some (.iload_n 1, 1, (0, 0, 0, 0)), some (.aaload, 1, (0, 0, 0, 0)), some (.astore_n 3, 1, (0, 0, 0, 0)), some (.aload_n 3, 1, (0, 0, 0, 0)), some (.iconst 1, 1, (0, 0, 0, 0)), some (.bipush 8, 2, (0, 0, 0, 0)), none, some (.invokevirtual 221, 3, (8, 147, 2, 7)), none, none, some (.iconst 0, 1, (0, 0, 0, 0)), some (.istore 4, 2, (0, 0, 0, 0)), none, some (.iload 4, 2, (0, 0, 0, 0)), none, some (.bipush 8, 2, (0, 0, 0, 0)), none, some (.if_icmp .ge 29, 3, (0, 0, 0, 0)), none, none, some (.aload_n 3, 1, (0, 0, 0, 0)), some (.iload 4, 2, (0, 0, 0, 0)), none, some (.aload_n 0, 1, (0, 0, 0, 0)), some (.getfield 31, 3, (1, 11, 6, 1)), none, none, some (.aload_n 0, 1, (0, 0, 0, 0)), some (.getfield 12, 3, (1, 11, 0, 1)), none, none, some (.iload_n 2, 1, (0, 0, 0, 0)), some (.iload 4, 2, (0, 0, 0, 0)), none, some (.invokevirtual 104, 3, (8, 48, 3, 6)), none, none, some (.invokevirtual 225, 3, (8, 148, 2, 7)), none, none, some (.iinc 4 1, 3, (0, 0, 0, 0)), none, none, some (.goto (-30), 3, (0, 0, 0, 0)), none, none, some (.bipush 8, 2, (0, 0, 0, 0)), none, some (.ireturn, 1, (0, 0, 0, 0))]
def q_146 : ak_Q := (yX11_film, cX11_film, 5, (some .int), k_146, 11)
set_option maxRecDepth 100000 in
def k_147 : List ak_I := [some (.aload_n 0, 1, (0, 0, 0, 0)), some (.iload_n 1, 1, (0, 0, 0, 0)), some (.putfield 9, 3, (1, 7, 0, 0)), none, none, some (.aload_n 0, 1, (0, 0, 0, 0)), some (.iconst 0, 1, (0, 0, 0, 0)), some (.iload_n 2, 1, (0, 0, 0, 0)), some (.bipush 40, 2, (0, 0, 0, 0)), none, some (.invokestatic 19, 3, (19, 0, 0, 0)), none, none, some (.invokestatic 25, 3, (20, 0, 0, 0)), none, none, some (.putfield 28, 3, (1, 7, 1, 0)), none, none, some (.iconst 0, 1, (0, 0, 0, 0)), some (.istore_n 3, 1, (0, 0, 0, 0)), some (.iload_n 3, 1, (0, 0, 0, 0)), some (.bipush 40, 2, (0, 0, 0, 0)), none, some (.if_icmp .ge 16, 3, (0, 0, 0, 0)), none, none, some (.aload_n 0, 1, (0, 0, 0, 0)), some (.getfield 15, 3, (1, 7, 2, 1)), none, none, some (.iload_n 3, 1, (0, 0, 0, 0)), some (.iconst 0, 1, (0, 0, 0, 0)), some (.iastore, 1, (0, 0, 0, 0)), some (.iinc 3 1, 3, (0, 0, 0, 0)), none, none, some (.goto (-16), 3, (0, 0, 0, 0)), none, none, some (.return_, 1, (0, 0, 0, 0))]
def q_147 : ak_Q := (yX7_lay, cX7_lay, 4, none, k_147, 7)
set_option maxRecDepth 100000 in
def k_148 : List ak_I := [some (.aload_n 0, 1, (0, 0, 0, 0)), some (.iload_n 1, 1, (0, 0, 0, 0)), some (.iconst 1, 1, (0, 0, 0, 0)), some (.invokevirtual 31, 3, (8, 149, 2, 7)), none, none, some (.ifCond .ne 4, 3, (0, 0, 0, 0)), none, none, some (.return_, 1, (0, 0, 0, 0)), some (.aload_n 0, 1, (0, 0, 0, 0)), some (.getfield 9, 3, (1, 7, 0, 0)), none, none, some (.ifCond .ne 14, 3, (0, 0, 0, 0)), none, none, some (.aload_n 0, 1, (0, 0, 0, 0)), some (.getfield 15, 3, (1, 7, 2, 1)), none, none, some (.iload_n 1, 1, (0, 0, 0, 0)), some (.iload_n 2, 1, (0, 0, 0, 0)), some (.i2b, 1, (0, 0, 0, 0)), some (.iastore, 1, (0, 0, 0, 0)), some (.goto 23, 3, (0, 0, 0, 0)), none, none, some (.aload_n 0, 1, (0, 0, 0, 0)), some (.getfield 15, 3, (1, 7, 2, 1)), none, none, some (.iload_n 1, 1, (0, 0, 0, 0)), some (.aload_n 0, 1, (0, 0, 0, 0)), some (.getfield 9, 3, (1, 7, 0, 0)), none, none, some (.iconst 1, 1, (0, 0, 0, 0)), some (.if_icmp .ne 8, 3, (0, 0, 0, 0)), none, none, some (.iload_n 2, 1, (0, 0, 0, 0)), some (.i2s, 1, (0, 0, 0, 0)), some (.goto 4, 3, (0, 0, 0, 0)), none, none, some (.iload_n 2, 1, (0, 0, 0, 0)), some (.iastore, 1, (0, 0, 0, 0)), some (.return_, 1, (0, 0, 0, 0))]
def q_148 : ak_Q := (yX7_put, cX7_put, 3, none, k_148, 7)
set_option maxRecDepth 100000 in
def k_149 : List ak_I := [some (.iload_n 1, 1, (0, 0, 0, 0)), some (.ifCond .lt 29, 3, (0, 0, 0, 0)), none, none, some (.iload_n 2, 1, (0, 0, 0, 0)), some (.ifCond .lt 25, 3, (0, 0, 0, 0)), none, none, some (.iload_n 1, 1, (0, 0, 0, 0)), some (.aload_n 0, 1, (0, 0, 0, 0)), some (.getfield 28, 3, (1, 7, 1, 0)), none, none, some (.if_icmp .gt 17, 3, (0, 0, 0, 0)), none, none, some (.iload_n 2, 1, (0, 0, 0, 0)), some (.aload_n 0, 1, (0, 0, 0, 0)), some (.getfield 28, 3, (1, 7, 1, 0)), none, none, some (.iload_n 1, 1, (0, 0, 0, 0)), some (.isub, 1, (0, 0, 0, 0)), some (.if_icmp .gt 7, 3, (0, 0, 0, 0)), none, none, some (.iconst 1, 1, (0, 0, 0, 0)), some (.goto 4, 3, (0, 0, 0, 0)), none, none, some (.iconst 0, 1, (0, 0, 0, 0)), some (.ireturn, 1, (0, 0, 0, 0))]
def q_149 : ak_Q := (yX7_reaches, cX7_reaches, 3, (some .boolean), k_149, 7)
set_option maxRecDepth 100000 in
def k_150 : List ak_I := [some (.aload_n 0, 1, (0, 0, 0, 0)), some (.iload_n 1, 1, (0, 0, 0, 0)), some (.invokevirtual 227, 3, (8, 151, 1, 11)), none, none, some (.aload_n 0, 1, (0, 0, 0, 0)), some (.getfield 40, 3, (1, 11, 7, 1)), none, none, some (.aload_n 0, 1, (0, 0, 0, 0)), some (.getfield 19, 3, (1, 11, 2, 1)), none, none, some (.invokevirtual 132, 3, (8, 99, 1, 5)), none, none, some (.aload_n 0, 1, (0, 0, 0, 0)), some (.getfield 40, 3, (1, 11, 7, 1)), none, none, some (.invokevirtual 177, 3, (8, 123, 0, 5)), none, none, some (.aload_n 0, 1, (0, 0, 0, 0)), some (.getfield 40, 3, (1, 11, 7, 1)), none, none, some (.invokevirtual 143, 3, (8, 109, 0, 5)), none, none, some (.ireturn, 1, (0, 0, 0, 0))]
def q_150 : ak_Q := (yX11_drawn, cX11_drawn, 2, (some .int), k_150, 11)
set_option maxRecDepth 100000 in
def k_151 : List ak_I := [some (.aload_n 0, 1, (0, 0, 0, 0)), some (.getfield 19, 3, (1, 11, 2, 1)), none, none, some (.aload_n 0, 1, (0, 0, 0, 0)), some (.getfield 12, 3, (1, 11, 0, 1)), none, none, some (.invokevirtual 199, 3, (8, 138, 1, 8)), none, none, some (.iload_n 1, 1, (0, 0, 0, 0)), some (.istore_n 2, 1, (0, 0, 0, 0)), some (.iconst 0, 1, (0, 0, 0, 0)), some (.istore_n 3, 1, (0, 0, 0, 0)), some (.iload_n 3, 1, (0, 0, 0, 0)), some (.aload_n 0, 1, (0, 0, 0, 0)), some (.getfield 19, 3, (1, 11, 2, 1)), none, none, some (.getfield 153, 3, (1, 8, 4, 0)), none, none, some (.if_icmp .ge 35, 3, (0, 0, 0, 0)), none, none, some (.iload_n 2, 1, (0, 0, 0, 0)), some (.ldc 246, 2, (4, 0, 0, 1103515245)), none, some (.imul, 1, (0, 0, 0, 0)), some (.sipush 12345, 3, (0, 0, 0, 0)), none, none, some (.iadd, 1, (0, 0, 0, 0)), some (.istore_n 2, 1, (0, 0, 0, 0)), some (.aload_n 0, 1, (0, 0, 0, 0)), some (.getfield 19, 3, (1, 11, 2, 1)), none, none, some (.getfield 247, 3, (1, 8, 8, 1)), none, none, some (.iload_n 3, 1, (0, 0, 0, 0)), some (.iload_n 2, 1, (0, 0, 0, 0)), some (.bipush 9, 2, (0, 0, 0, 0)), none, some (.iushr, 1, (0, 0, 0, 0)), some (.sipush 256, 3, (0, 0, 0, 0)), none, none, some (.irem, 1, (0, 0, 0, 0)), some (.iastore, 1, (0, 0, 0, 0)), some (.iinc 3 1, 3, (0, 0, 0, 0)), none, none, some (.goto (-40), 3, (0, 0, 0, 0)), none, none, some (.return_, 1, (0, 0, 0, 0))]
def q_151 : ak_Q := (yX11_drawWishes, cX11_drawWishes, 4, none, k_151, 11)
set_option maxRecDepth 100000 in
def k_152 : List ak_I := [some (.iload_n 2, 1, (0, 0, 0, 0)), some (.iconst 1, 1, (0, 0, 0, 0)), some (.if_icmp .lt 18, 3, (0, 0, 0, 0)), none, none, some (.iload_n 2, 1, (0, 0, 0, 0)), some (.bipush 20, 2, (0, 0, 0, 0)), none, some (.if_icmp .gt 12, 3, (0, 0, 0, 0)), none, none, some (.iload_n 3, 1, (0, 0, 0, 0)), some (.ifCond .lt 8, 3, (0, 0, 0, 0)), none, none, some (.iload_n 3, 1, (0, 0, 0, 0)), some (.iconst 1, 1, (0, 0, 0, 0)), some (.if_icmp .le 7, 3, (0, 0, 0, 0)), none, none, some (.ldc2_w 231, 3, (6, 0, 0, -4611686018427387904)), none, none, some (.lreturn, 1, (0, 0, 0, 0)), some (.iconst 0, 1, (0, 0, 0, 0)), some (.istore 4, 2, (0, 0, 0, 0)), none, some (.iconst 0, 1, (0, 0, 0, 0)), some (.istore 5, 2, (0, 0, 0, 0)), none, some (.iload 5, 2, (0, 0, 0, 0)), none, some (.iload_n 2, 1, (0, 0, 0, 0)), some (.if_icmp .ge 48, 3, (0, 0, 0, 0)), none, none, some (.aload_n 0, 1, (0, 0, 0, 0)), some (.iload_n 1, 1, (0, 0, 0, 0)), some (.iload 5, 2, (0, 0, 0, 0)), none, some (.iadd, 1, (0, 0, 0, 0)), some (.invokevirtual 227, 3, (8, 151, 1, 11)), none, none, some (.aload_n 0, 1, (0, 0, 0, 0)), some (.getfield 40, 3, (1, 11, 7, 1)), none, none, some (.aload_n 0, 1, (0, 0, 0, 0)), some (.getfield 19, 3, (1, 11, 2, 1)), none, none, some (.invokevirtual 132, 3, (8, 99, 1, 5)), none, none, some (.aload_n 0, 1, (0, 0, 0, 0)), some (.getfield 40, 3, (1, 11, 7, 1)), none, none, some (.invokevirtual 177, 3, (8, 123, 0, 5)), none, none, some (.aload_n 0, 1, (0, 0, 0, 0)), some (.getfield 40, 3, (1, 11, 7, 1)), none, none, some (.invokevirtual 180, 3, (8, 126, 0, 5)), none, none, some (.ifCond .ne 6, 3, (0, 0, 0, 0)), none, none, some (.iinc 4 1, 3, (0, 0, 0, 0)), none, none, some (.iinc 5 1, 3, (0, 0, 0, 0)), none, none, some (.goto (-48), 3, (0, 0, 0, 0)), none, none, some (.iload_n 2, 1, (0, 0, 0, 0)), some (.iload 4, 2, (0, 0, 0, 0)), none, some (.invokestatic 233, 3, (11, 153, 2, 0)), none, none, some (.istore 5, 2, (0, 0, 0, 0)), none, some (.iload_n 3, 1, (0, 0, 0, 0)), some (.ifCond .ne 8, 3, (0, 0, 0, 0)), none, none, some (.iload 4, 2, (0, 0, 0, 0)), none, some (.goto 4, 3, (0, 0, 0, 0)), none, none, some (.iload_n 2, 1, (0, 0, 0, 0)), some (.istore 6, 2, (0, 0, 0, 0)), none, some (.iload 5, 2, (0, 0, 0, 0)), none, some (.ifCond .le 12, 3, (0, 0, 0, 0)), none, none, some (.iload 6, 2, (0, 0, 0, 0)), none, some (.iload 5, 2, (0, 0, 0, 0)), none, some (.idiv, 1, (0, 0, 0, 0)), some (.i2l, 1, (0, 0, 0, 0)), some (.goto 6, 3, (0, 0, 0, 0)), none, none, some (.ldc2_w 231, 3, (6, 0, 0, -4611686018427387904)), none, none, some (.lreturn, 1, (0, 0, 0, 0))]
def q_152 : ak_Q := (yX11_chance, cX11_chance, 7, (some .long), k_152, 11)
set_option maxRecDepth 100000 in
def k_153 : List ak_I := [some (.iload_n 0, 1, (0, 0, 0, 0)), some (.istore_n 2, 1, (0, 0, 0, 0)), some (.iload_n 1, 1, (0, 0, 0, 0)), some (.istore_n 3, 1, (0, 0, 0, 0)), some (.iconst 0, 1, (0, 0, 0, 0)), some (.istore 4, 2, (0, 0, 0, 0)), none, some (.iload 4, 2, (0, 0, 0, 0)), none, some (.bipush 100, 2, (0, 0, 0, 0)), none, some (.if_icmp .ge 23, 3, (0, 0, 0, 0)), none, none, some (.iload_n 3, 1, (0, 0, 0, 0)), some (.ifCond .eq 19, 3, (0, 0, 0, 0)), none, none, some (.iload_n 2, 1, (0, 0, 0, 0)), some (.iload_n 3, 1, (0, 0, 0, 0)), some (.irem, 1, (0, 0, 0, 0)), some (.istore 5, 2, (0, 0, 0, 0)), none, some (.iload_n 3, 1, (0, 0, 0, 0)), some (.istore_n 2, 1, (0, 0, 0, 0)), some (.iload 5, 2, (0, 0, 0, 0)), none, some (.istore_n 3, 1, (0, 0, 0, 0)), some (.iinc 4 1, 3, (0, 0, 0, 0)), none, none, some (.goto (-24), 3, (0, 0, 0, 0)), none, none, some (.iload_n 2, 1, (0, 0, 0, 0)), some (.ireturn, 1, (0, 0, 0, 0))]
def q_153 : ak_Q := (yX11_commonDivisor, cX11_commonDivisor, 6, (some .int), k_153, 11)
set_option maxRecDepth 100000 in
def k_154 : List ak_I := [some (.aload_n 0, 1, (0, 0, 0, 0)), some (.getfield 16, 3, (1, 11, 1, 1)), none, none, some (.aload_n 0, 1, (0, 0, 0, 0)), some (.getfield 12, 3, (1, 11, 0, 1)), none, none, some (.invokevirtual 199, 3, (8, 138, 1, 8)), none, none, some (.aload_n 0, 1, (0, 0, 0, 0)), some (.iconst 1, 1, (0, 0, 0, 0)), some (.putfield 236, 3, (1, 11, 3, 0)), none, none, some (.aload_n 0, 1, (0, 0, 0, 0)), some (.getfield 12, 3, (1, 11, 0, 1)), none, none, some (.getfield 153, 3, (1, 8, 4, 0)), none, none, some (.ireturn, 1, (0, 0, 0, 0))]
def q_154 : ak_Q := (yX11_image, cX11_image, 1, (some .int), k_154, 11)
set_option maxRecDepth 100000 in
def k_155 : List ak_I := [some (.aload_n 0, 1, (0, 0, 0, 0)), some (.getfield 236, 3, (1, 11, 3, 0)), none, none, some (.ifCond .ne 6, 3, (0, 0, 0, 0)), none, none, some (.bipush (-3), 2, (0, 0, 0, 0)), none, some (.ireturn, 1, (0, 0, 0, 0)), some (.aload_n 0, 1, (0, 0, 0, 0)), some (.getfield 12, 3, (1, 11, 0, 1)), none, none, some (.aload_n 0, 1, (0, 0, 0, 0)), some (.getfield 16, 3, (1, 11, 1, 1)), none, none, some (.invokevirtual 199, 3, (8, 138, 1, 8)), none, none, some (.aload_n 0, 1, (0, 0, 0, 0)), some (.getfield 12, 3, (1, 11, 0, 1)), none, none, some (.getfield 153, 3, (1, 8, 4, 0)), none, none, some (.ireturn, 1, (0, 0, 0, 0))]
def q_155 : ak_Q := (yX11_back, cX11_back, 1, (some .int), k_155, 11)
set_option maxRecDepth 100000 in
def k_156 : List ak_I := [some (.iload_n 1, 1, (0, 0, 0, 0)), some (.tableswitch 96 0 6 #[43, 51, 59, 67, 75, 83, 88], 43, (0, 0, 0, 0)), none, none, none, none, none, none, none, none, none, none, none, none, none, none, none, none, none, none, none, none, none, none, none, none, none, none, none, none, none, none, none, none, none, none, none, none, none, none, none, none, none, none, some (.aload_n 0, 1, (0, 0, 0, 0)), some (.getfield 12, 3, (1, 11, 0, 1)), none, none, some (.getfield 153, 3, (1, 8, 4, 0)), none, none, some (.ireturn, 1, (0, 0, 0, 0)), some (.aload_n 0, 1, (0, 0, 0, 0)), some (.getfield 12, 3, (1, 11, 0, 1)), none, none, some (.invokevirtual 240, 3, (8, 157, 0, 8)), none, none, some (.ireturn, 1, (0, 0, 0, 0)), some (.aload_n 0, 1, (0, 0, 0, 0)), some (.getfield 12, 3, (1, 11, 0, 1)), none, none, some (.invokevirtual 243, 3, (8, 158, 0, 8)), none, none, some (.ireturn, 1, (0, 0, 0, 0)), some (.aload_n 0, 1, (0, 0, 0, 0)), some (.getfield 12, 3, (1, 11, 0, 1)), none, none, some (.invokevirtual 164, 3, (8, 111, 0, 8)), none, none, some (.ireturn, 1, (0, 0, 0, 0)), some (.aload_n 0, 1, (0, 0, 0, 0)), some (.getfield 31, 3, (1, 11, 6, 1)), none, none, some (.getfield 115, 3, (1, 6, 0, 0)), none, none, some (.ireturn, 1, (0, 0, 0, 0)), some (.aload_n 0, 1, (0, 0, 0, 0)), some (.getfield 111, 3, (1, 11, 5, 0)), none, none, some (.ireturn, 1, (0, 0, 0, 0)), some (.aload_n 0, 1, (0, 0, 0, 0)), some (.getfield 12, 3, (1, 11, 0, 1)), none, none, some (.getfield 128, 3, (1, 8, 3, 0)), none, none, some (.ireturn, 1, (0, 0, 0, 0)), some (.bipush (-2), 2, (0, 0, 0, 0)), none, some (.ireturn, 1, (0, 0, 0, 0))]
def q_156 : ak_Q := (yX11_count, cX11_count, 2, (some .int), k_156, 11)
set_option maxRecDepth 100000 in
def k_157 : List ak_I := [some (.iconst 0, 1, (0, 0, 0, 0)), some (.istore_n 1, 1, (0, 0, 0, 0)), some (.iconst 0, 1, (0, 0, 0, 0)), some (.istore_n 2, 1, (0, 0, 0, 0)), some (.iload_n 2, 1, (0, 0, 0, 0)), some (.aload_n 0, 1, (0, 0, 0, 0)), some (.getfield 46, 3, (1, 8, 4, 0)), none, none, some (.if_icmp .ge 27, 3, (0, 0, 0, 0)), none, none, some (.iload_n 1, 1, (0, 0, 0, 0)), some (.aload_n 0, 1, (0, 0, 0, 0)), some (.getfield 31, 3, (1, 8, 10, 1)), none, none, some (.iload_n 2, 1, (0, 0, 0, 0)), some (.iaload, 1, (0, 0, 0, 0)), some (.iconst (-1), 1, (0, 0, 0, 0)), some (.if_icmp .eq 7, 3, (0, 0, 0, 0)), none, none, some (.iconst 1, 1, (0, 0, 0, 0)), some (.goto 4, 3, (0, 0, 0, 0)), none, none, some (.iconst 0, 1, (0, 0, 0, 0)), some (.iadd, 1, (0, 0, 0, 0)), some (.istore_n 1, 1, (0, 0, 0, 0)), some (.iinc 2 1, 3, (0, 0, 0, 0)), none, none, some (.goto (-29), 3, (0, 0, 0, 0)), none, none, some (.iload_n 1, 1, (0, 0, 0, 0)), some (.ireturn, 1, (0, 0, 0, 0))]
def q_157 : ak_Q := (yX8_booked, cX8_booked, 3, (some .int), k_157, 8)
set_option maxRecDepth 100000 in
def k_158 : List ak_I := [some (.iconst 0, 1, (0, 0, 0, 0)), some (.istore_n 1, 1, (0, 0, 0, 0)), some (.iconst 0, 1, (0, 0, 0, 0)), some (.istore_n 2, 1, (0, 0, 0, 0)), some (.iload_n 2, 1, (0, 0, 0, 0)), some (.aload_n 0, 1, (0, 0, 0, 0)), some (.getfield 46, 3, (1, 8, 4, 0)), none, none, some (.if_icmp .ge 21, 3, (0, 0, 0, 0)), none, none, some (.iload_n 1, 1, (0, 0, 0, 0)), some (.aload_n 0, 1, (0, 0, 0, 0)), some (.getfield 34, 3, (1, 8, 11, 1)), none, none, some (.iload_n 2, 1, (0, 0, 0, 0)), some (.iaload, 1, (0, 0, 0, 0)), some (.invokestatic 70, 3, (11, 101, 1, 0)), none, none, some (.iadd, 1, (0, 0, 0, 0)), some (.istore_n 1, 1, (0, 0, 0, 0)), some (.iinc 2 1, 3, (0, 0, 0, 0)), none, none, some (.goto (-23), 3, (0, 0, 0, 0)), none, none, some (.iload_n 1, 1, (0, 0, 0, 0)), some (.iconst 2, 1, (0, 0, 0, 0)), some (.idiv, 1, (0, 0, 0, 0)), some (.ireturn, 1, (0, 0, 0, 0))]
def q_158 : ak_Q := (yX8_twosApart, cX8_twosApart, 3, (some .int), k_158, 8)
set_option maxRecDepth 100000 in
def k_159 : List ak_I := [some (.iload_n 1, 1, (0, 0, 0, 0)), some (.invokestatic 192, 3, (11, 136, 1, 0)), none, none, some (.ifCond .eq 15, 3, (0, 0, 0, 0)), none, none, some (.iload_n 2, 1, (0, 0, 0, 0)), some (.iconst (-1), 1, (0, 0, 0, 0)), some (.if_icmp .eq 13, 3, (0, 0, 0, 0)), none, none, some (.iload_n 2, 1, (0, 0, 0, 0)), some (.invokestatic 260, 3, (11, 160, 1, 0)), none, none, some (.ifCond .ne 6, 3, (0, 0, 0, 0)), none, none, some (.bipush (-2), 2, (0, 0, 0, 0)), none, some (.ireturn, 1, (0, 0, 0, 0)), some (.iload_n 2, 1, (0, 0, 0, 0)), some (.iconst (-1), 1, (0, 0, 0, 0)), some (.if_icmp .ne 16, 3, (0, 0, 0, 0)), none, none, some (.aload_n 0, 1, (0, 0, 0, 0)), some (.getfield 46, 3, (1, 11, 8, 1)), none, none, some (.iload_n 1, 1, (0, 0, 0, 0)), some (.aaload, 1, (0, 0, 0, 0)), some (.iconst (-1), 1, (0, 0, 0, 0)), some (.iconst 0, 1, (0, 0, 0, 0)), some (.invokevirtual 221, 3, (8, 147, 2, 7)), none, none, some (.iconst 1, 1, (0, 0, 0, 0)), some (.ireturn, 1, (0, 0, 0, 0)), some (.iload_n 3, 1, (0, 0, 0, 0)), some (.bipush 40, 2, (0, 0, 0, 0)), none, some (.if_icmp .le 6, 3, (0, 0, 0, 0)), none, none, some (.bipush (-2), 2, (0, 0, 0, 0)), none, some (.ireturn, 1, (0, 0, 0, 0)), some (.iload_n 3, 1, (0, 0, 0, 0)), some (.ifCond .ge 6, 3, (0, 0, 0, 0)), none, none, some (.bipush (-14), 2, (0, 0, 0, 0)), none, some (.ireturn, 1, (0, 0, 0, 0)), some (.aload_n 0, 1, (0, 0, 0, 0)), some (.getfield 46, 3, (1, 11, 8, 1)), none, none, some (.iload_n 1, 1, (0, 0, 0, 0)), some (.aaload, 1, (0, 0, 0, 0)), some (.iload_n 2, 1, (0, 0, 0, 0)), some (.iload_n 3, 1, (0, 0, 0, 0)), some (.invokevirtual 221, 3, (8, 147, 2, 7)), none, none, some (.iconst 1, 1, (0, 0, 0, 0)), some (.ireturn, 1, (0, 0, 0, 0))]
def q_159 : ak_Q := (yX11_sheet, cX11_sheet, 4, (some .int), k_159, 11)
set_option maxRecDepth 100000 in
def k_160 : List ak_I := [some (.iload_n 0, 1, (0, 0, 0, 0)), some (.ifCond .lt 12, 3, (0, 0, 0, 0)), none, none, some (.iload_n 0, 1, (0, 0, 0, 0)), some (.iconst 2, 1, (0, 0, 0, 0)), some (.if_icmp .gt 7, 3, (0, 0, 0, 0)), none, none, some (.iconst 1, 1, (0, 0, 0, 0)), some (.goto 4, 3, (0, 0, 0, 0)), none, none, some (.iconst 0, 1, (0, 0, 0, 0)), some (.ireturn, 1, (0, 0, 0, 0))]
def q_160 : ak_Q := (yX7_isSort, cX7_isSort, 1, (some .boolean), k_160, 7)
set_option maxRecDepth 100000 in
def k_161 : List ak_I := [some (.iload_n 1, 1, (0, 0, 0, 0)), some (.invokestatic 192, 3, (11, 136, 1, 0)), none, none, some (.ifCond .ne 6, 3, (0, 0, 0, 0)), none, none, some (.bipush (-2), 2, (0, 0, 0, 0)), none, some (.ireturn, 1, (0, 0, 0, 0)), some (.aload_n 0, 1, (0, 0, 0, 0)), some (.getfield 46, 3, (1, 11, 8, 1)), none, none, some (.iload_n 1, 1, (0, 0, 0, 0)), some (.aaload, 1, (0, 0, 0, 0)), some (.astore 4, 2, (0, 0, 0, 0)), none, some (.aload 4, 2, (0, 0, 0, 0)), none, some (.invokevirtual 195, 3, (8, 137, 0, 7)), none, none, some (.ifCond .eq 6, 3, (0, 0, 0, 0)), none, none, some (.bipush (-11), 2, (0, 0, 0, 0)), none, some (.ireturn, 1, (0, 0, 0, 0)), some (.aload 4, 2, (0, 0, 0, 0)), none, some (.iload_n 2, 1, (0, 0, 0, 0)), some (.iconst 1, 1, (0, 0, 0, 0)), some (.invokevirtual 263, 3, (8, 149, 2, 7)), none, none, some (.ifCond .ne 6, 3, (0, 0, 0, 0)), none, none, some (.bipush (-12), 2, (0, 0, 0, 0)), none, some (.ireturn, 1, (0, 0, 0, 0)), some (.aload 4, 2, (0, 0, 0, 0)), none, some (.iload_n 2, 1, (0, 0, 0, 0)), some (.iload_n 3, 1, (0, 0, 0, 0)), some (.invokevirtual 225, 3, (8, 148, 2, 7)), none, none, some (.iconst 1, 1, (0, 0, 0, 0)), some (.ireturn, 1, (0, 0, 0, 0))]
def q_161 : ak_Q := (yX11_cell, cX11_cell, 5, (some .int), k_161, 11)
set_option maxRecDepth 100000 in
def k_162 : List ak_I := [some (.iload_n 1, 1, (0, 0, 0, 0)), some (.invokestatic 192, 3, (11, 136, 1, 0)), none, none, some (.ifCond .eq 10, 3, (0, 0, 0, 0)), none, none, some (.iload_n 3, 1, (0, 0, 0, 0)), some (.invokestatic 192, 3, (11, 136, 1, 0)), none, none, some (.ifCond .ne 6, 3, (0, 0, 0, 0)), none, none, some (.bipush (-2), 2, (0, 0, 0, 0)), none, some (.ireturn, 1, (0, 0, 0, 0)), some (.aload_n 0, 1, (0, 0, 0, 0)), some (.getfield 46, 3, (1, 11, 8, 1)), none, none, some (.iload_n 1, 1, (0, 0, 0, 0)), some (.aaload, 1, (0, 0, 0, 0)), some (.astore 6, 2, (0, 0, 0, 0)), none, some (.aload_n 0, 1, (0, 0, 0, 0)), some (.getfield 46, 3, (1, 11, 8, 1)), none, none, some (.iload_n 3, 1, (0, 0, 0, 0)), some (.aaload, 1, (0, 0, 0, 0)), some (.astore 7, 2, (0, 0, 0, 0)), none, some (.aload 6, 2, (0, 0, 0, 0)), none, some (.invokevirtual 195, 3, (8, 137, 0, 7)), none, none, some (.ifCond .ne 11, 3, (0, 0, 0, 0)), none, none, some (.aload 7, 2, (0, 0, 0, 0)), none, some (.invokevirtual 195, 3, (8, 137, 0, 7)), none, none, some (.ifCond .eq 6, 3, (0, 0, 0, 0)), none, none, some (.bipush (-11), 2, (0, 0, 0, 0)), none, some (.ireturn, 1, (0, 0, 0, 0)), some (.aload 6, 2, (0, 0, 0, 0)), none, some (.getfield 266, 3, (1, 7, 0, 0)), none, none, some (.aload 7, 2, (0, 0, 0, 0)), none, some (.getfield 266, 3, (1, 7, 0, 0)), none, none, some (.if_icmp .eq 6, 3, (0, 0, 0, 0)), none, none, some (.bipush (-13), 2, (0, 0, 0, 0)), none, some (.ireturn, 1, (0, 0, 0, 0)), some (.aload 6, 2, (0, 0, 0, 0)), none, some (.iload_n 2, 1, (0, 0, 0, 0)), some (.iload 5, 2, (0, 0, 0, 0)), none, some (.invokevirtual 263, 3, (8, 149, 2, 7)), none, none, some (.ifCond .eq 15, 3, (0, 0, 0, 0)), none, none, some (.aload 7, 2, (0, 0, 0, 0)), none, some (.iload 4, 2, (0, 0, 0, 0)), none, some (.iload 5, 2, (0, 0, 0, 0)), none, some (.invokevirtual 263, 3, (8, 149, 2, 7)), none, none, some (.ifCond .ne 6, 3, (0, 0, 0, 0)), none, none, some (.bipush (-12), 2, (0, 0, 0, 0)), none, some (.ireturn, 1, (0, 0, 0, 0)), some (.aload 6, 2, (0, 0, 0, 0)), none, some (.getfield 250, 3, (1, 7, 2, 1)), none, none, some (.iload_n 2, 1, (0, 0, 0, 0)), some (.aload 7, 2, (0, 0, 0, 0)), none, some (.getfield 250, 3, (1, 7, 2, 1)), none, none, some (.iload 4, 2, (0, 0, 0, 0)), none, some (.iload 5, 2, (0, 0, 0, 0)), none, some (.invokestatic 269, 3, (17, 0, 0, 0)), none, none, some (.iload 5, 2, (0, 0, 0, 0)), none, some (.ireturn, 1, (0, 0, 0, 0))]
def q_162 : ak_Q := (yX11_copy, cX11_copy, 8, (some .int), k_162, 11)
set_option maxRecDepth 100000 in
def k_163 : List ak_I := [some (.iload_n 1, 1, (0, 0, 0, 0)), some (.invokestatic 192, 3, (11, 136, 1, 0)), none, none, some (.ifCond .eq 21, 3, (0, 0, 0, 0)), none, none, some (.iload_n 2, 1, (0, 0, 0, 0)), some (.invokestatic 260, 3, (11, 160, 1, 0)), none, none, some (.ifCond .eq 14, 3, (0, 0, 0, 0)), none, none, some (.iload 4, 2, (0, 0, 0, 0)), none, some (.ifCond .lt 9, 3, (0, 0, 0, 0)), none, none, some (.iload 4, 2, (0, 0, 0, 0)), none, some (.iconst 4, 1, (0, 0, 0, 0)), some (.if_icmp .le 6, 3, (0, 0, 0, 0)), none, none, some (.bipush (-2), 2, (0, 0, 0, 0)), none, some (.ireturn, 1, (0, 0, 0, 0)), some (.aload_n 0, 1, (0, 0, 0, 0)), some (.getfield 46, 3, (1, 11, 8, 1)), none, none, some (.iload_n 1, 1, (0, 0, 0, 0)), some (.aaload, 1, (0, 0, 0, 0)), some (.astore 5, 2, (0, 0, 0, 0)), none, some (.aload 5, 2, (0, 0, 0, 0)), none, some (.invokevirtual 195, 3, (8, 137, 0, 7)), none, none, some (.ifCond .ne 15, 3, (0, 0, 0, 0)), none, none, some (.aload 5, 2, (0, 0, 0, 0)), none, some (.getfield 266, 3, (1, 7, 0, 0)), none, none, some (.iload_n 2, 1, (0, 0, 0, 0)), some (.if_icmp .eq 6, 3, (0, 0, 0, 0)), none, none, some (.bipush (-13), 2, (0, 0, 0, 0)), none, some (.ireturn, 1, (0, 0, 0, 0)), some (.aload 5, 2, (0, 0, 0, 0)), none, some (.invokevirtual 195, 3, (8, 137, 0, 7)), none, none, some (.ifCond .eq 6, 3, (0, 0, 0, 0)), none, none, some (.bipush (-11), 2, (0, 0, 0, 0)), none, some (.ireturn, 1, (0, 0, 0, 0)), some (.iconst 0, 1, (0, 0, 0, 0)), some (.istore 6, 2, (0, 0, 0, 0)), none, some (.iconst 0, 1, (0, 0, 0, 0)), some (.istore 7, 2, (0, 0, 0, 0)), none, some (.iload 7, 2, (0, 0, 0, 0)), none, some (.iload 4, 2, (0, 0, 0, 0)), none, some (.if_icmp .ge 69, 3, (0, 0, 0, 0)), none, none, some (.iload_n 3, 1, (0, 0, 0, 0)), some (.iconst 3, 1, (0, 0, 0, 0)), some (.iload 7, 2, (0, 0, 0, 0)), none, some (.imul, 1, (0, 0, 0, 0)), some (.iadd, 1, (0, 0, 0, 0)), some (.istore 8, 2, (0, 0, 0, 0)), none, some (.aload 5, 2, (0, 0, 0, 0)), none, some (.iload 8, 2, (0, 0, 0, 0)), none, some (.iconst 3, 1, (0, 0, 0, 0)), some (.invokevirtual 263, 3, (8, 149, 2, 7)), none, none, some (.ifCond .ne 6, 3, (0, 0, 0, 0)), none, none, some (.bipush (-12), 2, (0, 0, 0, 0)), none, some (.ireturn, 1, (0, 0, 0, 0)), some (.aload_n 0, 1, (0, 0, 0, 0)), some (.aload 5, 2, (0, 0, 0, 0)), none, some (.getfield 250, 3, (1, 7, 2, 1)), none, none, some (.iload 8, 2, (0, 0, 0, 0)), none, some (.iaload, 1, (0, 0, 0, 0)), some (.aload 5, 2, (0, 0, 0, 0)), none, some (.getfield 250, 3, (1, 7, 2, 1)), none, none, some (.iload 8, 2, (0, 0, 0, 0)), none, some (.iconst 1, 1, (0, 0, 0, 0)), some (.iadd, 1, (0, 0, 0, 0)), some (.iaload, 1, (0, 0, 0, 0)), some (.aload 5, 2, (0, 0, 0, 0)), none, some (.getfield 250, 3, (1, 7, 2, 1)), none, none, some (.iload 8, 2, (0, 0, 0, 0)), none, some (.iconst 2, 1, (0, 0, 0, 0)), some (.iadd, 1, (0, 0, 0, 0)), some (.iaload, 1, (0, 0, 0, 0)), some (.invokevirtual 275, 3, (8, 21, 3, 11)), none, none, some (.ifCond .lt 6, 3, (0, 0, 0, 0)), none, none, some (.iinc 6 1, 3, (0, 0, 0, 0)), none, none, some (.iinc 7 1, 3, (0, 0, 0, 0)), none, none, some (.goto (-70), 3, (0, 0, 0, 0)), none, none, some (.iload 6, 2, (0, 0, 0, 0)), none, some (.ireturn, 1, (0, 0, 0, 0))]
def q_163 : ak_Q := (yX11_clerks, cX11_clerks, 9, (some .int), k_163, 11)
set_option maxRecDepth 100000 in
def k_164 : List ak_I := [some (.iload_n 2, 1, (0, 0, 0, 0)), some (.ifCond .lt 9, 3, (0, 0, 0, 0)), none, none, some (.iload_n 2, 1, (0, 0, 0, 0)), some (.bipush 6, 2, (0, 0, 0, 0)), none, some (.if_icmp .lt 6, 3, (0, 0, 0, 0)), none, none, some (.bipush (-2), 2, (0, 0, 0, 0)), none, some (.ireturn, 1, (0, 0, 0, 0)), some (.aload_n 0, 1, (0, 0, 0, 0)), some (.getfield 12, 3, (1, 11, 0, 1)), none, none, some (.iload_n 1, 1, (0, 0, 0, 0)), some (.invokevirtual 70, 3, (8, 16, 1, 8)), none, none, some (.ifCond .ne 6, 3, (0, 0, 0, 0)), none, none, some (.bipush (-11), 2, (0, 0, 0, 0)), none, some (.ireturn, 1, (0, 0, 0, 0)), some (.aload_n 0, 1, (0, 0, 0, 0)), some (.getfield 31, 3, (1, 11, 6, 1)), none, none, some (.aload_n 0, 1, (0, 0, 0, 0)), some (.getfield 12, 3, (1, 11, 0, 1)), none, none, some (.getfield 91, 3, (1, 8, 5, 1)), none, none, some (.iload_n 1, 1, (0, 0, 0, 0)), some (.iaload, 1, (0, 0, 0, 0)), some (.iload_n 2, 1, (0, 0, 0, 0)), some (.invokevirtual 278, 3, (8, 165, 2, 6)), none, none, some (.ifCond .eq 15, 3, (0, 0, 0, 0)), none, none, some (.aload_n 0, 1, (0, 0, 0, 0)), some (.getfield 12, 3, (1, 11, 0, 1)), none, none, some (.getfield 253, 3, (1, 8, 6, 1)), none, none, some (.iload_n 1, 1, (0, 0, 0, 0)), some (.iaload, 1, (0, 0, 0, 0)), some (.goto 5, 3, (0, 0, 0, 0)), none, none, some (.bipush (-13), 2, (0, 0, 0, 0)), none, some (.ireturn, 1, (0, 0, 0, 0))]
def q_164 : ak_Q := (yX11_taken, cX11_taken, 3, (some .int), k_164, 11)
set_option maxRecDepth 100000 in
def k_165 : List ak_I := [some (.aload_n 0, 1, (0, 0, 0, 0)), some (.iload_n 1, 1, (0, 0, 0, 0)), some (.invokevirtual 60, 3, (8, 39, 1, 6)), none, none, some (.astore_n 3, 1, (0, 0, 0, 0)), some (.iload_n 2, 1, (0, 0, 0, 0)), some (.tableswitch 55 0 4 #[33, 35, 40, 45, 50], 33, (0, 0, 0, 0)), none, none, none, none, none, none, none, none, none, none, none, none, none, none, none, none, none, none, none, none, none, none, none, none, none, none, none, none, none, none, none, none, some (.iconst 1, 1, (0, 0, 0, 0)), some (.ireturn, 1, (0, 0, 0, 0)), some (.aload_n 3, 1, (0, 0, 0, 0)), some (.instanceof 24, 3, (7, 4, 0, 0)), none, none, some (.ireturn, 1, (0, 0, 0, 0)), some (.aload_n 3, 1, (0, 0, 0, 0)), some (.instanceof 27, 3, (7, 9, 0, 0)), none, none, some (.ireturn, 1, (0, 0, 0, 0)), some (.aload_n 3, 1, (0, 0, 0, 0)), some (.instanceof 30, 3, (7, 2, 0, 0)), none, none, some (.ireturn, 1, (0, 0, 0, 0)), some (.aload_n 3, 1, (0, 0, 0, 0)), some (.instanceof 33, 3, (7, 1, 0, 0)), none, none, some (.ireturn, 1, (0, 0, 0, 0)), some (.aload_n 3, 1, (0, 0, 0, 0)), some (.instanceof 36, 3, (7, 0, 0, 0)), none, none, some (.ireturn, 1, (0, 0, 0, 0))]
def q_165 : ak_Q := (yX6_isKind, cX6_isKind, 4, (some .boolean), k_165, 6)
set_option maxRecDepth 100000 in
def k_166 : List ak_I := [some (.aload_n 0, 1, (0, 0, 0, 0)), some (.invokespecial 7, 3, (16, 0, 0, 0)), none, none, some (.aload_n 0, 1, (0, 0, 0, 0)), some (.sipush 960, 3, (0, 0, 0, 0)), none, none, some (.newarray .int, 2, (0, 0, 0, 0)), none, some (.putfield 13, 3, (1, 12, 1, 1)), none, none, some (.aload_n 0, 1, (0, 0, 0, 0)), some (.bipush 6, 2, (0, 0, 0, 0)), none, some (.newarray .int, 2, (0, 0, 0, 0)), none, some (.putfield 17, 3, (1, 12, 2, 1)), none, none, some (.aload_n 0, 1, (0, 0, 0, 0)), some (.sipush 160, 3, (0, 0, 0, 0)), none, none, some (.newarray .int, 2, (0, 0, 0, 0)), none, some (.putfield 20, 3, (1, 12, 5, 1)), none, none, some (.aload_n 0, 1, (0, 0, 0, 0)), some (.iconst 3, 1, (0, 0, 0, 0)), some (.newarray .int, 2, (0, 0, 0, 0)), none, some (.putfield 23, 3, (1, 12, 7, 1)), none, none, some (.aload_n 0, 1, (0, 0, 0, 0)), some (.iconst 4, 1, (0, 0, 0, 0)), some (.newarray .int, 2, (0, 0, 0, 0)), none, some (.putfield 26, 3, (1, 12, 8, 1)), none, none, some (.aload_n 0, 1, (0, 0, 0, 0)), some (.bipush 20, 2, (0, 0, 0, 0)), none, some (.newarray .int, 2, (0, 0, 0, 0)), none, some (.putfield 29, 3, (1, 12, 9, 1)), none, none, some (.aload_n 0, 1, (0, 0, 0, 0)), some (.iconst 4, 1, (0, 0, 0, 0)), some (.newarray .int, 2, (0, 0, 0, 0)), none, some (.putfield 32, 3, (1, 12, 10, 1)), none, none, some (.aload_n 0, 1, (0, 0, 0, 0)), some (.bipush 36, 2, (0, 0, 0, 0)), none, some (.newarray .boolean, 2, (0, 0, 0, 0)), none, some (.putfield 35, 3, (1, 12, 27, 1)), none, none, some (.aload_n 0, 1, (0, 0, 0, 0)), some (.bipush 36, 2, (0, 0, 0, 0)), none, some (.newarray .int, 2, (0, 0, 0, 0)), none, some (.putfield 39, 3, (1, 12, 28, 1)), none, none, some (.aload_n 0, 1, (0, 0, 0, 0)), some (.bipush 36, 2, (0, 0, 0, 0)), none, some (.newarray .int, 2, (0, 0, 0, 0)), none, some (.putfield 42, 3, (1, 12, 29, 1)), none, none, some (.aload_n 0, 1, (0, 0, 0, 0)), some (.iconst 4, 1, (0, 0, 0, 0)), some (.newarray .int, 2, (0, 0, 0, 0)), none, some (.putfield 45, 3, (1, 12, 30, 1)), none, none, some (.aload_n 0, 1, (0, 0, 0, 0)), some (.iconst 4, 1, (0, 0, 0, 0)), some (.newarray .int, 2, (0, 0, 0, 0)), none, some (.putfield 48, 3, (1, 12, 34, 1)), none, none, some (.aload_n 0, 1, (0, 0, 0, 0)), some (.iconst 3, 1, (0, 0, 0, 0)), some (.newarray .int, 2, (0, 0, 0, 0)), none, some (.putfield 51, 3, (1, 12, 35, 1)), none, none, some (.aload_n 0, 1, (0, 0, 0, 0)), some (.bipush 20, 2, (0, 0, 0, 0)), none, some (.newarray .int, 2, (0, 0, 0, 0)), none, some (.putfield 54, 3, (1, 12, 36, 1)), none, none, some (.aload_n 0, 1, (0, 0, 0, 0)), some (.iconst 4, 1, (0, 0, 0, 0)), some (.newarray .int, 2, (0, 0, 0, 0)), none, some (.putfield 57, 3, (1, 12, 37, 1)), none, none, some (.aload_n 0, 1, (0, 0, 0, 0)), some (.iconst (-1), 1, (0, 0, 0, 0)), some (.putfield 60, 3, (1, 12, 38, 0)), none, none, some (.aload_n 0, 1, (0, 0, 0, 0)), some (.iconst 4, 1, (0, 0, 0, 0)), some (.newarray .boolean, 2, (0, 0, 0, 0)), none, some (.putfield 63, 3, (1, 12, 40, 1)), none, none, some (.aload_n 0, 1, (0, 0, 0, 0)), some (.iconst 4, 1, (0, 0, 0, 0)), some (.newarray .int, 2, (0, 0, 0, 0)), none, some (.putfield 66, 3, (1, 12, 41, 1)), none, none, some (.aload_n 0, 1, (0, 0, 0, 0)), some (.iconst 4, 1, (0, 0, 0, 0)), some (.newarray .int, 2, (0, 0, 0, 0)), none, some (.putfield 69, 3, (1, 12, 42, 1)), none, none, some (.aload_n 0, 1, (0, 0, 0, 0)), some (.sipush 160, 3, (0, 0, 0, 0)), none, none, some (.newarray .int, 2, (0, 0, 0, 0)), none, some (.putfield 72, 3, (1, 12, 43, 1)), none, none, some (.aload_n 0, 1, (0, 0, 0, 0)), some (.getfield 23, 3, (1, 12, 7, 1)), none, none, some (.iconst 1, 1, (0, 0, 0, 0)), some (.iconst 2, 1, (0, 0, 0, 0)), some (.iastore, 1, (0, 0, 0, 0)), some (.aload_n 0, 1, (0, 0, 0, 0)), some (.iconst 0, 1, (0, 0, 0, 0)), some (.bipush 106, 2, (0, 0, 0, 0)), none, some (.bipush 111, 2, (0, 0, 0, 0)), none, some (.bipush 121, 2, (0, 0, 0, 0)), none, some (.bipush 115, 2, (0, 0, 0, 0)), none, some (.bipush 32, 2, (0, 0, 0, 0)), none, some (.bipush 49, 2, (0, 0, 0, 0)), none, some (.bipush 48, 2, (0, 0, 0, 0)), none, some (.bipush 32, 2, (0, 0, 0, 0)), none, some (.invokevirtual 75, 3, (8, 167, 9, 12)), none, none, some (.aload_n 0, 1, (0, 0, 0, 0)), some (.bipush 8, 2, (0, 0, 0, 0)), none, some (.bipush 59, 2, (0, 0, 0, 0)), none, some (.bipush 32, 2, (0, 0, 0, 0)), none, some (.bipush 101, 2, (0, 0, 0, 0)), none, some (.bipush 97, 2, (0, 0, 0, 0)), none, some (.bipush 114, 2, (0, 0, 0, 0)), none, some (.bipush 110, 2, (0, 0, 0, 0)), none, some (.bipush 115, 2, (0, 0, 0, 0)), none, some (.bipush 32, 2, (0, 0, 0, 0)), none, some (.invokevirtual 75, 3, (8, 167, 9, 12)), none, none, some (.aload_n 0, 1, (0, 0, 0, 0)), some (.bipush 16, 2, (0, 0, 0, 0)), none, some (.bipush 51, 2, (0, 0, 0, 0)), none, some (.bipush 32, 2, (0, 0, 0, 0)), none, some (.bipush 59, 2, (0, 0, 0, 0)), none, some (.bipush 32, 2, (0, 0, 0, 0)), none, some (.bipush 109, 2, (0, 0, 0, 0)), none, some (.bipush 97, 2, (0, 0, 0, 0)), none, some (.bipush 121, 2, (0, 0, 0, 0)), none, some (.bipush 32, 2, (0, 0, 0, 0)), none, some (.invokevirtual 75, 3, (8, 167, 9, 12)), none, none, some (.aload_n 0, 1, (0, 0, 0, 0)), some (.bipush 24, 2, (0, 0, 0, 0)), none, some (.bipush 49, 2, (0, 0, 0, 0)), none, some (.bipush 32, 2, (0, 0, 0, 0)), none, some (.bipush 59, 2, (0, 0, 0, 0)), none, some (.bipush 32, 2, (0, 0, 0, 0)), none, some (.bipush 32, 2, (0, 0, 0, 0)), none, some (.bipush 32, 2, (0, 0, 0, 0)), none, some (.bipush 32, 2, (0, 0, 0, 0)), none, some (.bipush 32, 2, (0, 0, 0, 0)), none, some (.invokevirtual 75, 3, (8, 167, 9, 12)), none, none, some (.aload_n 0, 1, (0, 0, 0, 0)), some (.getfield 17, 3, (1, 12, 2, 1)), none, none, some (.iconst 0, 1, (0, 0, 0, 0)), some (.bipush 32, 2, (0, 0, 0, 0)), none, some (.iastore, 1, (0, 0, 0, 0)), some (.aload_n 0, 1, (0, 0, 0, 0)), some (.iconst 1, 1, (0, 0, 0, 0)), some (.putfield 79, 3, (1, 12, 3, 0)), none, none, some (.return_, 1, (0, 0, 0, 0))]
def q_166 : ak_Q := (yX12_init, cX12_init, 1, none, k_166, 12)
set_option maxRecDepth 100000 in
def k_167 : List ak_I := [some (.aload_n 0, 1, (0, 0, 0, 0)), some (.getfield 13, 3, (1, 12, 1, 1)), none, none, some (.iload_n 1, 1, (0, 0, 0, 0)), some (.iload_n 2, 1, (0, 0, 0, 0)), some (.iastore, 1, (0, 0, 0, 0)), some (.aload_n 0, 1, (0, 0, 0, 0)), some (.getfield 13, 3, (1, 12, 1, 1)), none, none, some (.iload_n 1, 1, (0, 0, 0, 0)), some (.iconst 1, 1, (0, 0, 0, 0)), some (.iadd, 1, (0, 0, 0, 0)), some (.iload_n 3, 1, (0, 0, 0, 0)), some (.iastore, 1, (0, 0, 0, 0)), some (.aload_n 0, 1, (0, 0, 0, 0)), some (.getfield 13, 3, (1, 12, 1, 1)), none, none, some (.iload_n 1, 1, (0, 0, 0, 0)), some (.iconst 2, 1, (0, 0, 0, 0)), some (.iadd, 1, (0, 0, 0, 0)), some (.iload 4, 2, (0, 0, 0, 0)), none, some (.iastore, 1, (0, 0, 0, 0)), some (.aload_n 0, 1, (0, 0, 0, 0)), some (.getfield 13, 3, (1, 12, 1, 1)), none, none, some (.iload_n 1, 1, (0, 0, 0, 0)), some (.iconst 3, 1, (0, 0, 0, 0)), some (.iadd, 1, (0, 0, 0, 0)), some (.iload 5, 2, (0, 0, 0, 0)), none, some (.iastore, 1, (0, 0, 0, 0)), some (.aload_n 0, 1, (0, 0, 0, 0)), some (.getfield 13, 3, (1, 12, 1, 1)), none, none, some (.iload_n 1, 1, (0, 0, 0, 0)), some (.iconst 4, 1, (0, 0, 0, 0)), some (.iadd, 1, (0, 0, 0, 0)), some (.iload 6, 2, (0, 0, 0, 0)), none, some (.iastore, 1, (0, 0, 0, 0)), some (.aload_n 0, 1, (0, 0, 0, 0)), some (.getfield 13, 3, (1, 12, 1, 1)), none, none, some (.iload_n 1, 1, (0, 0, 0, 0)), some (.iconst 5, 1, (0, 0, 0, 0)), some (.iadd, 1, (0, 0, 0, 0)), some (.iload 7, 2, (0, 0, 0, 0)), none, some (.iastore, 1, (0, 0, 0, 0)), some (.aload_n 0, 1, (0, 0, 0, 0)), some (.getfield 13, 3, (1, 12, 1, 1)), none, none, some (.iload_n 1, 1, (0, 0, 0, 0)), some (.bipush 6, 2, (0, 0, 0, 0)), none, some (.iadd, 1, (0, 0, 0, 0)), some (.iload 8, 2, (0, 0, 0, 0)), none, some (.iastore, 1, (0, 0, 0, 0)), some (.aload_n 0, 1, (0, 0, 0, 0)), some (.getfield 13, 3, (1, 12, 1, 1)), none, none, some (.iload_n 1, 1, (0, 0, 0, 0)), some (.bipush 7, 2, (0, 0, 0, 0)), none, some (.iadd, 1, (0, 0, 0, 0)), some (.iload 9, 2, (0, 0, 0, 0)), none, some (.iastore, 1, (0, 0, 0, 0)), some (.return_, 1, (0, 0, 0, 0))]
def q_167 : ak_Q := (yX12_spell, cX12_spell, 10, none, k_167, 12)
set_option maxRecDepth 100000 in
def k_168 : List ak_I := [some (.iload_n 1, 1, (0, 0, 0, 0)), some (.i2l, 1, (0, 0, 0, 0)), some (.lconst 0, 1, (0, 0, 0, 0)), some (.ldc2_w 91, 3, (6, 0, 0, 6)), none, none, some (.invokestatic 85, 3, (11, 169, 3, 0)), none, none, some (.ifCond .eq 39, 3, (0, 0, 0, 0)), none, none, some (.iload_n 1, 1, (0, 0, 0, 0)), some (.iconst 2, 1, (0, 0, 0, 0)), some (.if_icmp .le 11, 3, (0, 0, 0, 0)), none, none, some (.aload_n 0, 1, (0, 0, 0, 0)), some (.iload_n 2, 1, (0, 0, 0, 0)), some (.invokevirtual 93, 3, (8, 170, 1, 12)), none, none, some (.ifCond .eq 26, 3, (0, 0, 0, 0)), none, none, some (.iload_n 3, 1, (0, 0, 0, 0)), some (.i2l, 1, (0, 0, 0, 0)), some (.iload_n 1, 1, (0, 0, 0, 0)), some (.iconst 4, 1, (0, 0, 0, 0)), some (.if_icmp .ne 7, 3, (0, 0, 0, 0)), none, none, some (.lconst 1, 1, (0, 0, 0, 0)), some (.goto 4, 3, (0, 0, 0, 0)), none, none, some (.lconst 0, 1, (0, 0, 0, 0)), some (.iload_n 1, 1, (0, 0, 0, 0)), some (.invokestatic 97, 3, (11, 171, 1, 0)), none, none, some (.i2l, 1, (0, 0, 0, 0)), some (.invokestatic 85, 3, (11, 169, 3, 0)), none, none, some (.ifCond .ne 6, 3, (0, 0, 0, 0)), none, none, some (.bipush (-2), 2, (0, 0, 0, 0)), none, some (.ireturn, 1, (0, 0, 0, 0)), some (.aload_n 0, 1, (0, 0, 0, 0)), some (.iload_n 2, 1, (0, 0, 0, 0)), some (.iload_n 1, 1, (0, 0, 0, 0)), some (.invokevirtual 101, 3, (8, 172, 2, 12)), none, none, some (.istore 4, 2, (0, 0, 0, 0)), none, some (.aload_n 0, 1, (0, 0, 0, 0)), some (.iload_n 1, 1, (0, 0, 0, 0)), some (.iload_n 2, 1, (0, 0, 0, 0)), some (.iload_n 3, 1, (0, 0, 0, 0)), some (.invokevirtual 105, 3, (8, 197, 3, 12)), none, none, some (.iload 4, 2, (0, 0, 0, 0)), none, some (.ireturn, 1, (0, 0, 0, 0))]
def q_168 : ak_Q := (yX12_set, cX12_set, 5, (some .int), k_168, 12)
set_option maxRecDepth 100000 in
def k_169 : List ak_I := [some (.lload_n 0, 1, (0, 0, 0, 0)), some (.lload_n 2, 1, (0, 0, 0, 0)), some (.lcmp, 1, (0, 0, 0, 0)), some (.ifCond .lt 14, 3, (0, 0, 0, 0)), none, none, some (.lload_n 0, 1, (0, 0, 0, 0)), some (.lload 4, 2, (0, 0, 0, 0)), none, some (.lcmp, 1, (0, 0, 0, 0)), some (.ifCond .gt 7, 3, (0, 0, 0, 0)), none, none, some (.iconst 1, 1, (0, 0, 0, 0)), some (.goto 4, 3, (0, 0, 0, 0)), none, none, some (.iconst 0, 1, (0, 0, 0, 0)), some (.ireturn, 1, (0, 0, 0, 0))]
def q_169 : ak_Q := (yX12_in, cX12_in, 6, (some .boolean), k_169, 12)
set_option maxRecDepth 100000 in
def k_170 : List ak_I := [some (.iload_n 1, 1, (0, 0, 0, 0)), some (.i2l, 1, (0, 0, 0, 0)), some (.lconst 0, 1, (0, 0, 0, 0)), some (.aload_n 0, 1, (0, 0, 0, 0)), some (.getfield 82, 3, (1, 12, 11, 0)), none, none, some (.iconst 1, 1, (0, 0, 0, 0)), some (.isub, 1, (0, 0, 0, 0)), some (.i2l, 1, (0, 0, 0, 0)), some (.invokestatic 85, 3, (11, 169, 3, 0)), none, none, some (.ireturn, 1, (0, 0, 0, 0))]
def q_170 : ak_Q := (yX12_isOne, cX12_isOne, 2, (some .boolean), k_170, 12)
set_option maxRecDepth 100000 in
def k_171 : List ak_I := [some (.iload_n 0, 1, (0, 0, 0, 0)), some (.ifCond .eq 9, 3, (0, 0, 0, 0)), none, none, some (.iload_n 0, 1, (0, 0, 0, 0)), some (.bipush 6, 2, (0, 0, 0, 0)), none, some (.if_icmp .ne 9, 3, (0, 0, 0, 0)), none, none, some (.sipush 999, 3, (0, 0, 0, 0)), none, none, some (.goto 40, 3, (0, 0, 0, 0)), none, none, some (.iload_n 0, 1, (0, 0, 0, 0)), some (.iconst 1, 1, (0, 0, 0, 0)), some (.if_icmp .eq 8, 3, (0, 0, 0, 0)), none, none, some (.iload_n 0, 1, (0, 0, 0, 0)), some (.iconst 4, 1, (0, 0, 0, 0)), some (.if_icmp .ne 7, 3, (0, 0, 0, 0)), none, none, some (.iconst 4, 1, (0, 0, 0, 0)), some (.goto 26, 3, (0, 0, 0, 0)), none, none, some (.iload_n 0, 1, (0, 0, 0, 0)), some (.iconst 2, 1, (0, 0, 0, 0)), some (.if_icmp .ne 8, 3, (0, 0, 0, 0)), none, none, some (.bipush 15, 2, (0, 0, 0, 0)), none, some (.goto 16, 3, (0, 0, 0, 0)), none, none, some (.iload_n 0, 1, (0, 0, 0, 0)), some (.iconst 3, 1, (0, 0, 0, 0)), some (.if_icmp .ne 8, 3, (0, 0, 0, 0)), none, none, some (.bipush 9, 2, (0, 0, 0, 0)), none, some (.goto 6, 3, (0, 0, 0, 0)), none, none, some (.sipush 255, 3, (0, 0, 0, 0)), none, none, some (.ireturn, 1, (0, 0, 0, 0))]
def q_171 : ak_Q := (yX12_mostOf, cX12_mostOf, 1, (some .int), k_171, 12)
set_option maxRecDepth 100000 in
def k_172 : List ak_I := [some (.iload_n 2, 1, (0, 0, 0, 0)), some (.i2l, 1, (0, 0, 0, 0)), some (.ldc2_w 128, 3, (6, 0, 0, 20)), none, none, some (.ldc2_w 130, 3, (6, 0, 0, 27)), none, none, some (.invokestatic 85, 3, (11, 169, 3, 0)), none, none, some (.ifCond .ne 17, 3, (0, 0, 0, 0)), none, none, some (.iload_n 2, 1, (0, 0, 0, 0)), some (.i2l, 1, (0, 0, 0, 0)), some (.ldc2_w 132, 3, (6, 0, 0, 30)), none, none, some (.ldc2_w 134, 3, (6, 0, 0, 37)), none, none, some (.invokestatic 85, 3, (11, 169, 3, 0)), none, none, some (.ifCond .eq 7, 3, (0, 0, 0, 0)), none, none, some (.iconst 1, 1, (0, 0, 0, 0)), some (.goto 4, 3, (0, 0, 0, 0)), none, none, some (.iconst 0, 1, (0, 0, 0, 0)), some (.istore_n 3, 1, (0, 0, 0, 0)), some (.iload_n 2, 1, (0, 0, 0, 0)), some (.i2l, 1, (0, 0, 0, 0)), some (.lconst 0, 1, (0, 0, 0, 0)), some (.ldc2_w 136, 3, (6, 0, 0, 10)), none, none, some (.invokestatic 85, 3, (11, 169, 3, 0)), none, none, some (.ifCond .ne 7, 3, (0, 0, 0, 0)), none, none, some (.iload_n 3, 1, (0, 0, 0, 0)), some (.ifCond .eq 16, 3, (0, 0, 0, 0)), none, none, some (.iload_n 2, 1, (0, 0, 0, 0)), some (.iconst 2, 1, (0, 0, 0, 0)), some (.if_icmp .le 15, 3, (0, 0, 0, 0)), none, none, some (.aload_n 0, 1, (0, 0, 0, 0)), some (.iload_n 1, 1, (0, 0, 0, 0)), some (.invokevirtual 93, 3, (8, 170, 1, 12)), none, none, some (.ifCond .ne 7, 3, (0, 0, 0, 0)), none, none, some (.sipush (-1000), 3, (0, 0, 0, 0)), none, none, some (.ireturn, 1, (0, 0, 0, 0)), some (.iload_n 3, 1, (0, 0, 0, 0)), some (.ifCond .eq 39, 3, (0, 0, 0, 0)), none, none, some (.iload_n 2, 1, (0, 0, 0, 0)), some (.bipush 30, 2, (0, 0, 0, 0)), none, some (.if_icmp .ge 15, 3, (0, 0, 0, 0)), none, none, some (.aload_n 0, 1, (0, 0, 0, 0)), some (.iload_n 1, 1, (0, 0, 0, 0)), some (.iload_n 2, 1, (0, 0, 0, 0)), some (.bipush 20, 2, (0, 0, 0, 0)), none, some (.isub, 1, (0, 0, 0, 0)), some (.invokevirtual 138, 3, (8, 173, 2, 12)), none, none, some (.goto 20, 3, (0, 0, 0, 0)), none, none, some (.aload_n 0, 1, (0, 0, 0, 0)), some (.iload_n 1, 1, (0, 0, 0, 0)), some (.iload_n 2, 1, (0, 0, 0, 0)), some (.bipush 30, 2, (0, 0, 0, 0)), none, some (.isub, 1, (0, 0, 0, 0)), some (.invokevirtual 141, 3, (8, 193, 2, 12)), none, none, some (.ifCond .eq 7, 3, (0, 0, 0, 0)), none, none, some (.iconst 1, 1, (0, 0, 0, 0)), some (.goto 4, 3, (0, 0, 0, 0)), none, none, some (.iconst 0, 1, (0, 0, 0, 0)), some (.ireturn, 1, (0, 0, 0, 0)), some (.iload_n 2, 1, (0, 0, 0, 0)), some (.bipush 7, 2, (0, 0, 0, 0)), none, some (.if_icmp .ge 30, 3, (0, 0, 0, 0)), none, none, some (.iload_n 2, 1, (0, 0, 0, 0)), some (.iconst 3, 1, (0, 0, 0, 0)), some (.if_icmp .ge 12, 3, (0, 0, 0, 0)), none, none, some (.aload_n 0, 1, (0, 0, 0, 0)), some (.getfield 23, 3, (1, 12, 7, 1)), none, none, some (.iload_n 2, 1, (0, 0, 0, 0)), some (.iaload, 1, (0, 0, 0, 0)), some (.goto 15, 3, (0, 0, 0, 0)), none, none, some (.aload_n 0, 1, (0, 0, 0, 0)), some (.getfield 29, 3, (1, 12, 9, 1)), none, none, some (.iconst 5, 1, (0, 0, 0, 0)), some (.iload_n 1, 1, (0, 0, 0, 0)), some (.imul, 1, (0, 0, 0, 0)), some (.iload_n 2, 1, (0, 0, 0, 0)), some (.iadd, 1, (0, 0, 0, 0)), some (.iconst 3, 1, (0, 0, 0, 0)), some (.isub, 1, (0, 0, 0, 0)), some (.iaload, 1, (0, 0, 0, 0)), some (.ireturn, 1, (0, 0, 0, 0)), some (.iload_n 2, 1, (0, 0, 0, 0)), some (.bipush 7, 2, (0, 0, 0, 0)), none, some (.if_icmp .ne 12, 3, (0, 0, 0, 0)), none, none, some (.aload_n 0, 1, (0, 0, 0, 0)), some (.getfield 26, 3, (1, 12, 8, 1)), none, none, some (.iload_n 1, 1, (0, 0, 0, 0)), some (.iaload, 1, (0, 0, 0, 0)), some (.goto 51, 3, (0, 0, 0, 0)), none, none, some (.iload_n 2, 1, (0, 0, 0, 0)), some (.bipush 8, 2, (0, 0, 0, 0)), none, some (.if_icmp .ne 16, 3, (0, 0, 0, 0)), none, none, some (.aload_n 0, 1, (0, 0, 0, 0)), some (.getfield 29, 3, (1, 12, 9, 1)), none, none, some (.iconst 5, 1, (0, 0, 0, 0)), some (.iload_n 1, 1, (0, 0, 0, 0)), some (.imul, 1, (0, 0, 0, 0)), some (.iconst 4, 1, (0, 0, 0, 0)), some (.iadd, 1, (0, 0, 0, 0)), some (.iaload, 1, (0, 0, 0, 0)), some (.goto 32, 3, (0, 0, 0, 0)), none, none, some (.iload_n 2, 1, (0, 0, 0, 0)), some (.bipush 9, 2, (0, 0, 0, 0)), none, some (.if_icmp .ne 21, 3, (0, 0, 0, 0)), none, none, some (.aload_n 0, 1, (0, 0, 0, 0)), some (.iload_n 1, 1, (0, 0, 0, 0)), some (.aload_n 0, 1, (0, 0, 0, 0)), some (.getfield 29, 3, (1, 12, 9, 1)), none, none, some (.iconst 5, 1, (0, 0, 0, 0)), some (.iload_n 1, 1, (0, 0, 0, 0)), some (.imul, 1, (0, 0, 0, 0)), some (.iconst 4, 1, (0, 0, 0, 0)), some (.iadd, 1, (0, 0, 0, 0)), some (.iaload, 1, (0, 0, 0, 0)), some (.invokevirtual 144, 3, (8, 194, 2, 12)), none, none, some (.goto 8, 3, (0, 0, 0, 0)), none, none, some (.aload_n 0, 1, (0, 0, 0, 0)), some (.iload_n 1, 1, (0, 0, 0, 0)), some (.invokevirtual 147, 3, (8, 196, 1, 12)), none, none, some (.ireturn, 1, (0, 0, 0, 0))]
def q_172 : ak_Q := (yX12_told, cX12_told, 4, (some .int), k_172, 12)
set_option maxRecDepth 100000 in
def k_173 : List ak_I := [some (.aload_n 0, 1, (0, 0, 0, 0)), some (.getfield 26, 3, (1, 12, 8, 1)), none, none, some (.iload_n 1, 1, (0, 0, 0, 0)), some (.iaload, 1, (0, 0, 0, 0)), some (.istore_n 3, 1, (0, 0, 0, 0)), some (.aload_n 0, 1, (0, 0, 0, 0)), some (.getfield 29, 3, (1, 12, 9, 1)), none, none, some (.iconst 5, 1, (0, 0, 0, 0)), some (.iload_n 1, 1, (0, 0, 0, 0)), some (.imul, 1, (0, 0, 0, 0)), some (.iaload, 1, (0, 0, 0, 0)), some (.istore 4, 2, (0, 0, 0, 0)), none, some (.iload_n 3, 1, (0, 0, 0, 0)), some (.iconst 5, 1, (0, 0, 0, 0)), some (.if_icmp .ne 18, 3, (0, 0, 0, 0)), none, none, some (.aload_n 0, 1, (0, 0, 0, 0)), some (.iload_n 1, 1, (0, 0, 0, 0)), some (.iload_n 2, 1, (0, 0, 0, 0)), some (.invokevirtual 266, 3, (8, 174, 2, 12)), none, none, some (.ifCond .eq 7, 3, (0, 0, 0, 0)), none, none, some (.iconst 5, 1, (0, 0, 0, 0)), some (.goto 4, 3, (0, 0, 0, 0)), none, none, some (.iconst 0, 1, (0, 0, 0, 0)), some (.ireturn, 1, (0, 0, 0, 0)), some (.iload_n 3, 1, (0, 0, 0, 0)), some (.iconst 3, 1, (0, 0, 0, 0)), some (.if_icmp .ne 15, 3, (0, 0, 0, 0)), none, none, some (.iload_n 2, 1, (0, 0, 0, 0)), some (.iload 4, 2, (0, 0, 0, 0)), none, some (.bipush 8, 2, (0, 0, 0, 0)), none, some (.irem, 1, (0, 0, 0, 0)), some (.if_icmp .ne 6, 3, (0, 0, 0, 0)), none, none, some (.bipush 30, 2, (0, 0, 0, 0)), none, some (.ireturn, 1, (0, 0, 0, 0)), some (.aload_n 0, 1, (0, 0, 0, 0)), some (.iconst 0, 1, (0, 0, 0, 0)), some (.iload_n 1, 1, (0, 0, 0, 0)), some (.iload_n 2, 1, (0, 0, 0, 0)), some (.invokevirtual 273, 3, (8, 175, 3, 12)), none, none, some (.istore 5, 2, (0, 0, 0, 0)), none, some (.aload_n 0, 1, (0, 0, 0, 0)), some (.iload_n 1, 1, (0, 0, 0, 0)), some (.iload_n 2, 1, (0, 0, 0, 0)), some (.invokevirtual 266, 3, (8, 174, 2, 12)), none, none, some (.ifCond .eq 8, 3, (0, 0, 0, 0)), none, none, some (.iload 5, 2, (0, 0, 0, 0)), none, some (.goto 7, 3, (0, 0, 0, 0)), none, none, some (.iload 5, 2, (0, 0, 0, 0)), none, some (.iconst 2, 1, (0, 0, 0, 0)), some (.idiv, 1, (0, 0, 0, 0)), some (.istore 6, 2, (0, 0, 0, 0)), none, some (.iload_n 3, 1, (0, 0, 0, 0)), some (.iconst 1, 1, (0, 0, 0, 0)), some (.if_icmp .eq 8, 3, (0, 0, 0, 0)), none, none, some (.iload_n 3, 1, (0, 0, 0, 0)), some (.iconst 3, 1, (0, 0, 0, 0)), some (.if_icmp .ne 27, 3, (0, 0, 0, 0)), none, none, some (.iload_n 2, 1, (0, 0, 0, 0)), some (.i2l, 1, (0, 0, 0, 0)), some (.ldc2_w 276, 3, (6, 0, 0, 3)), none, none, some (.ldc2_w 112, 3, (6, 0, 0, 5)), none, none, some (.invokestatic 85, 3, (11, 169, 3, 0)), none, none, some (.ifCond .eq 10, 3, (0, 0, 0, 0)), none, none, some (.iconst 2, 1, (0, 0, 0, 0)), some (.iload 6, 2, (0, 0, 0, 0)), none, some (.imul, 1, (0, 0, 0, 0)), some (.goto 5, 3, (0, 0, 0, 0)), none, none, some (.iload 6, 2, (0, 0, 0, 0)), none, some (.ireturn, 1, (0, 0, 0, 0)), some (.iload_n 3, 1, (0, 0, 0, 0)), some (.iconst 2, 1, (0, 0, 0, 0)), some (.if_icmp .ne 11, 3, (0, 0, 0, 0)), none, none, some (.iload 6, 2, (0, 0, 0, 0)), none, some (.iload 4, 2, (0, 0, 0, 0)), none, some (.iadd, 1, (0, 0, 0, 0)), some (.goto 20, 3, (0, 0, 0, 0)), none, none, some (.iload_n 3, 1, (0, 0, 0, 0)), some (.iconst 4, 1, (0, 0, 0, 0)), some (.if_icmp .ne 13, 3, (0, 0, 0, 0)), none, none, some (.iload 6, 2, (0, 0, 0, 0)), none, some (.iload 4, 2, (0, 0, 0, 0)), none, some (.iadd, 1, (0, 0, 0, 0)), some (.iload_n 2, 1, (0, 0, 0, 0)), some (.isub, 1, (0, 0, 0, 0)), some (.goto 5, 3, (0, 0, 0, 0)), none, none, some (.iload 6, 2, (0, 0, 0, 0)), none, some (.ireturn, 1, (0, 0, 0, 0))]
def q_173 : ak_Q := (yX12_gladOf, cX12_gladOf, 7, (some .int), k_173, 12)
set_option maxRecDepth 100000 in
def k_174 : List ak_I := [some (.aload_n 0, 1, (0, 0, 0, 0)), some (.getfield 29, 3, (1, 12, 9, 1)), none, none, some (.iconst 5, 1, (0, 0, 0, 0)), some (.iload_n 1, 1, (0, 0, 0, 0)), some (.imul, 1, (0, 0, 0, 0)), some (.iconst 2, 1, (0, 0, 0, 0)), some (.iadd, 1, (0, 0, 0, 0)), some (.iaload, 1, (0, 0, 0, 0)), some (.iload_n 2, 1, (0, 0, 0, 0)), some (.ishr, 1, (0, 0, 0, 0)), some (.iconst 1, 1, (0, 0, 0, 0)), some (.iand, 1, (0, 0, 0, 0)), some (.iconst 1, 1, (0, 0, 0, 0)), some (.if_icmp .ne 7, 3, (0, 0, 0, 0)), none, none, some (.iconst 1, 1, (0, 0, 0, 0)), some (.goto 4, 3, (0, 0, 0, 0)), none, none, some (.iconst 0, 1, (0, 0, 0, 0)), some (.ireturn, 1, (0, 0, 0, 0))]
def q_174 : ak_Q := (yX12_isWished, cX12_isWished, 3, (some .boolean), k_174, 12)
set_option maxRecDepth 100000 in
def k_175 : List ak_I := [some (.aload_n 0, 1, (0, 0, 0, 0)), some (.iload_n 3, 1, (0, 0, 0, 0)), some (.iconst (-1), 1, (0, 0, 0, 0)), some (.if_icmp .ne 7, 3, (0, 0, 0, 0)), none, none, some (.iconst 0, 1, (0, 0, 0, 0)), some (.goto 4, 3, (0, 0, 0, 0)), none, none, some (.iload_n 3, 1, (0, 0, 0, 0)), some (.putfield 208, 3, (1, 12, 12, 0)), none, none, some (.aload_n 0, 1, (0, 0, 0, 0)), some (.iload_n 3, 1, (0, 0, 0, 0)), some (.iconst (-1), 1, (0, 0, 0, 0)), some (.if_icmp .eq 16, 3, (0, 0, 0, 0)), none, none, some (.aload_n 0, 1, (0, 0, 0, 0)), some (.iload_n 2, 1, (0, 0, 0, 0)), some (.iload_n 3, 1, (0, 0, 0, 0)), some (.invokevirtual 266, 3, (8, 174, 2, 12)), none, none, some (.ifCond .eq 7, 3, (0, 0, 0, 0)), none, none, some (.iconst 1, 1, (0, 0, 0, 0)), some (.goto 4, 3, (0, 0, 0, 0)), none, none, some (.iconst 0, 1, (0, 0, 0, 0)), some (.putfield 211, 3, (1, 12, 13, 0)), none, none, some (.aload_n 0, 1, (0, 0, 0, 0)), some (.aload_n 0, 1, (0, 0, 0, 0)), some (.getfield 29, 3, (1, 12, 9, 1)), none, none, some (.iconst 5, 1, (0, 0, 0, 0)), some (.iload_n 2, 1, (0, 0, 0, 0)), some (.imul, 1, (0, 0, 0, 0)), some (.iaload, 1, (0, 0, 0, 0)), some (.putfield 214, 3, (1, 12, 14, 0)), none, none, some (.aload_n 0, 1, (0, 0, 0, 0)), some (.aload_n 0, 1, (0, 0, 0, 0)), some (.getfield 29, 3, (1, 12, 9, 1)), none, none, some (.iconst 5, 1, (0, 0, 0, 0)), some (.iload_n 2, 1, (0, 0, 0, 0)), some (.imul, 1, (0, 0, 0, 0)), some (.iconst 1, 1, (0, 0, 0, 0)), some (.iadd, 1, (0, 0, 0, 0)), some (.iaload, 1, (0, 0, 0, 0)), some (.putfield 217, 3, (1, 12, 15, 0)), none, none, some (.aload_n 0, 1, (0, 0, 0, 0)), some (.aload_n 0, 1, (0, 0, 0, 0)), some (.getfield 29, 3, (1, 12, 9, 1)), none, none, some (.iconst 5, 1, (0, 0, 0, 0)), some (.iload_n 2, 1, (0, 0, 0, 0)), some (.imul, 1, (0, 0, 0, 0)), some (.iconst 3, 1, (0, 0, 0, 0)), some (.iadd, 1, (0, 0, 0, 0)), some (.iaload, 1, (0, 0, 0, 0)), some (.putfield 220, 3, (1, 12, 16, 0)), none, none, some (.aload_n 0, 1, (0, 0, 0, 0)), some (.iconst 0, 1, (0, 0, 0, 0)), some (.putfield 223, 3, (1, 12, 17, 0)), none, none, some (.iconst 0, 1, (0, 0, 0, 0)), some (.istore 4, 2, (0, 0, 0, 0)), none, some (.iload 4, 2, (0, 0, 0, 0)), none, some (.aload_n 0, 1, (0, 0, 0, 0)), some (.getfield 82, 3, (1, 12, 11, 0)), none, none, some (.if_icmp .ge 44, 3, (0, 0, 0, 0)), none, none, some (.iload_n 3, 1, (0, 0, 0, 0)), some (.iconst (-1), 1, (0, 0, 0, 0)), some (.if_icmp .eq 39, 3, (0, 0, 0, 0)), none, none, some (.aload_n 0, 1, (0, 0, 0, 0)), some (.dup, 1, (0, 0, 0, 0)), some (.getfield 223, 3, (1, 12, 17, 0)), none, none, some (.iload 4, 2, (0, 0, 0, 0)), none, some (.iload_n 2, 1, (0, 0, 0, 0)), some (.if_icmp .eq 17, 3, (0, 0, 0, 0)), none, none, some (.aload_n 0, 1, (0, 0, 0, 0)), some (.iload 4, 2, (0, 0, 0, 0)), none, some (.iload_n 3, 1, (0, 0, 0, 0)), some (.invokevirtual 266, 3, (8, 174, 2, 12)), none, none, some (.ifCond .eq 7, 3, (0, 0, 0, 0)), none, none, some (.iconst 1, 1, (0, 0, 0, 0)), some (.goto 4, 3, (0, 0, 0, 0)), none, none, some (.iconst 0, 1, (0, 0, 0, 0)), some (.iadd, 1, (0, 0, 0, 0)), some (.putfield 223, 3, (1, 12, 17, 0)), none, none, some (.iinc 4 1, 3, (0, 0, 0, 0)), none, none, some (.goto (-47), 3, (0, 0, 0, 0)), none, none, some (.aload_n 0, 1, (0, 0, 0, 0)), some (.aload_n 0, 1, (0, 0, 0, 0)), some (.getfield 109, 3, (1, 12, 4, 0)), none, none, some (.iload_n 1, 1, (0, 0, 0, 0)), some (.invokevirtual 263, 3, (8, 176, 2, 12)), none, none, some (.istore 4, 2, (0, 0, 0, 0)), none, some (.iload_n 1, 1, (0, 0, 0, 0)), some (.ifCond .ne 15, 3, (0, 0, 0, 0)), none, none, some (.iload 4, 2, (0, 0, 0, 0)), none, some (.bipush (-99), 2, (0, 0, 0, 0)), none, some (.bipush 99, 2, (0, 0, 0, 0)), none, some (.invokestatic 269, 3, (11, 192, 3, 0)), none, none, some (.goto 21, 3, (0, 0, 0, 0)), none, none, some (.iload_n 1, 1, (0, 0, 0, 0)), some (.iconst 1, 1, (0, 0, 0, 0)), some (.if_icmp .ne 14, 3, (0, 0, 0, 0)), none, none, some (.iload 4, 2, (0, 0, 0, 0)), none, some (.iconst 0, 1, (0, 0, 0, 0)), some (.bipush 99, 2, (0, 0, 0, 0)), none, some (.invokestatic 269, 3, (11, 192, 3, 0)), none, none, some (.goto 5, 3, (0, 0, 0, 0)), none, none, some (.iload 4, 2, (0, 0, 0, 0)), none, some (.ireturn, 1, (0, 0, 0, 0))]
def q_175 : ak_Q := (yX12_asks, cX12_asks, 5, (some .int), k_175, 12)
set_option maxRecDepth 100000 in
def k_176 : List ak_I := [some (.aload_n 0, 1, (0, 0, 0, 0)), some (.sipush 160, 3, (0, 0, 0, 0)), none, none, some (.iload_n 1, 1, (0, 0, 0, 0)), some (.imul, 1, (0, 0, 0, 0)), some (.putfield 158, 3, (1, 12, 18, 0)), none, none, some (.aload_n 0, 1, (0, 0, 0, 0)), some (.aload_n 0, 1, (0, 0, 0, 0)), some (.getfield 17, 3, (1, 12, 2, 1)), none, none, some (.iload_n 1, 1, (0, 0, 0, 0)), some (.iaload, 1, (0, 0, 0, 0)), some (.putfield 155, 3, (1, 12, 19, 0)), none, none, some (.aload_n 0, 1, (0, 0, 0, 0)), some (.iconst 0, 1, (0, 0, 0, 0)), some (.putfield 161, 3, (1, 12, 20, 0)), none, none, some (.aload_n 0, 1, (0, 0, 0, 0)), some (.iconst 0, 1, (0, 0, 0, 0)), some (.putfield 195, 3, (1, 12, 24, 0)), none, none, some (.aload_n 0, 1, (0, 0, 0, 0)), some (.iconst 0, 1, (0, 0, 0, 0)), some (.putfield 185, 3, (1, 12, 25, 0)), none, none, some (.aload_n 0, 1, (0, 0, 0, 0)), some (.invokevirtual 201, 3, (8, 177, 0, 12)), none, none, some (.aload_n 0, 1, (0, 0, 0, 0)), some (.aload_n 0, 1, (0, 0, 0, 0)), some (.bipush 106, 2, (0, 0, 0, 0)), none, some (.bipush 111, 2, (0, 0, 0, 0)), none, some (.bipush 121, 2, (0, 0, 0, 0)), none, some (.bipush 115, 2, (0, 0, 0, 0)), none, some (.iconst 0, 1, (0, 0, 0, 0)), some (.iconst 0, 1, (0, 0, 0, 0)), some (.iconst 0, 1, (0, 0, 0, 0)), some (.iconst 0, 1, (0, 0, 0, 0)), some (.invokevirtual 204, 3, (8, 179, 8, 12)), none, none, some (.invokevirtual 259, 3, (8, 181, 1, 12)), none, none, some (.istore_n 3, 1, (0, 0, 0, 0)), some (.aload_n 0, 1, (0, 0, 0, 0)), some (.getfield 185, 3, (1, 12, 25, 0)), none, none, some (.ifCond .eq 7, 3, (0, 0, 0, 0)), none, none, some (.iconst 0, 1, (0, 0, 0, 0)), some (.goto 24, 3, (0, 0, 0, 0)), none, none, some (.aload_n 0, 1, (0, 0, 0, 0)), some (.aload_n 0, 1, (0, 0, 0, 0)), some (.bipush 101, 2, (0, 0, 0, 0)), none, some (.bipush 97, 2, (0, 0, 0, 0)), none, some (.bipush 114, 2, (0, 0, 0, 0)), none, some (.bipush 110, 2, (0, 0, 0, 0)), none, some (.bipush 115, 2, (0, 0, 0, 0)), none, some (.iconst 0, 1, (0, 0, 0, 0)), some (.iconst 0, 1, (0, 0, 0, 0)), some (.iconst 0, 1, (0, 0, 0, 0)), some (.invokevirtual 204, 3, (8, 179, 8, 12)), none, none, some (.invokevirtual 259, 3, (8, 181, 1, 12)), none, none, some (.istore 4, 2, (0, 0, 0, 0)), none, some (.aload_n 0, 1, (0, 0, 0, 0)), some (.getfield 185, 3, (1, 12, 25, 0)), none, none, some (.ifCond .eq 7, 3, (0, 0, 0, 0)), none, none, some (.iconst 0, 1, (0, 0, 0, 0)), some (.goto 22, 3, (0, 0, 0, 0)), none, none, some (.aload_n 0, 1, (0, 0, 0, 0)), some (.aload_n 0, 1, (0, 0, 0, 0)), some (.bipush 109, 2, (0, 0, 0, 0)), none, some (.bipush 97, 2, (0, 0, 0, 0)), none, some (.bipush 121, 2, (0, 0, 0, 0)), none, some (.iconst 0, 1, (0, 0, 0, 0)), some (.iconst 0, 1, (0, 0, 0, 0)), some (.iconst 0, 1, (0, 0, 0, 0)), some (.iconst 0, 1, (0, 0, 0, 0)), some (.iconst 0, 1, (0, 0, 0, 0)), some (.invokevirtual 204, 3, (8, 179, 8, 12)), none, none, some (.invokevirtual 259, 3, (8, 181, 1, 12)), none, none, some (.istore 5, 2, (0, 0, 0, 0)), none, some (.aload_n 0, 1, (0, 0, 0, 0)), some (.getfield 185, 3, (1, 12, 25, 0)), none, none, some (.ifCond .ne 14, 3, (0, 0, 0, 0)), none, none, some (.aload_n 0, 1, (0, 0, 0, 0)), some (.getfield 170, 3, (1, 12, 21, 0)), none, none, some (.ifCond .eq 7, 3, (0, 0, 0, 0)), none, none, some (.aload_n 0, 1, (0, 0, 0, 0)), some (.invokevirtual 198, 3, (8, 182, 0, 12)), none, none, some (.iload_n 2, 1, (0, 0, 0, 0)), some (.ifCond .ne 7, 3, (0, 0, 0, 0)), none, none, some (.iload_n 3, 1, (0, 0, 0, 0)), some (.goto 15, 3, (0, 0, 0, 0)), none, none, some (.iload_n 2, 1, (0, 0, 0, 0)), some (.iconst 1, 1, (0, 0, 0, 0)), some (.if_icmp .ne 8, 3, (0, 0, 0, 0)), none, none, some (.iload 4, 2, (0, 0, 0, 0)), none, some (.goto 5, 3, (0, 0, 0, 0)), none, none, some (.iload 5, 2, (0, 0, 0, 0)), none, some (.ireturn, 1, (0, 0, 0, 0))]
def q_176 : ak_Q := (yX12_read, cX12_read, 6, (some .int), k_176, 12)
set_option maxRecDepth 100000 in
def k_177 : List ak_I := [some (.aload_n 0, 1, (0, 0, 0, 0)), some (.aload_n 0, 1, (0, 0, 0, 0)), some (.getfield 161, 3, (1, 12, 20, 0)), none, none, some (.invokevirtual 164, 3, (8, 178, 1, 12)), none, none, some (.bipush 32, 2, (0, 0, 0, 0)), none, some (.if_icmp .eq 16, 3, (0, 0, 0, 0)), none, none, some (.aload_n 0, 1, (0, 0, 0, 0)), some (.aload_n 0, 1, (0, 0, 0, 0)), some (.getfield 161, 3, (1, 12, 20, 0)), none, none, some (.invokevirtual 164, 3, (8, 178, 1, 12)), none, none, some (.bipush 10, 2, (0, 0, 0, 0)), none, some (.if_icmp .ne 16, 3, (0, 0, 0, 0)), none, none, some (.aload_n 0, 1, (0, 0, 0, 0)), some (.dup, 1, (0, 0, 0, 0)), some (.getfield 161, 3, (1, 12, 20, 0)), none, none, some (.iconst 1, 1, (0, 0, 0, 0)), some (.iadd, 1, (0, 0, 0, 0)), some (.putfield 161, 3, (1, 12, 20, 0)), none, none, some (.goto (-36), 3, (0, 0, 0, 0)), none, none, some (.aload_n 0, 1, (0, 0, 0, 0)), some (.aload_n 0, 1, (0, 0, 0, 0)), some (.getfield 161, 3, (1, 12, 20, 0)), none, none, some (.putfield 167, 3, (1, 12, 22, 0)), none, none, some (.aload_n 0, 1, (0, 0, 0, 0)), some (.aload_n 0, 1, (0, 0, 0, 0)), some (.getfield 161, 3, (1, 12, 20, 0)), none, none, some (.invokevirtual 164, 3, (8, 178, 1, 12)), none, none, some (.istore_n 1, 1, (0, 0, 0, 0)), some (.aload_n 0, 1, (0, 0, 0, 0)), some (.iconst 4, 1, (0, 0, 0, 0)), some (.putfield 170, 3, (1, 12, 21, 0)), none, none, some (.iload_n 1, 1, (0, 0, 0, 0)), some (.ifCond .ge 19, 3, (0, 0, 0, 0)), none, none, some (.aload_n 0, 1, (0, 0, 0, 0)), some (.iconst 0, 1, (0, 0, 0, 0)), some (.putfield 170, 3, (1, 12, 21, 0)), none, none, some (.aload_n 0, 1, (0, 0, 0, 0)), some (.aload_n 0, 1, (0, 0, 0, 0)), some (.getfield 155, 3, (1, 12, 19, 0)), none, none, some (.putfield 167, 3, (1, 12, 22, 0)), none, none, some (.goto 243, 3, (0, 0, 0, 0)), none, none, some (.iload_n 1, 1, (0, 0, 0, 0)), some (.i2l, 1, (0, 0, 0, 0)), some (.ldc2_w 173, 3, (6, 0, 0, 97)), none, none, some (.ldc2_w 175, 3, (6, 0, 0, 122)), none, none, some (.invokestatic 85, 3, (11, 169, 3, 0)), none, none, some (.ifCond .eq 42, 3, (0, 0, 0, 0)), none, none, some (.aload_n 0, 1, (0, 0, 0, 0)), some (.iconst 1, 1, (0, 0, 0, 0)), some (.putfield 170, 3, (1, 12, 21, 0)), none, none, some (.aload_n 0, 1, (0, 0, 0, 0)), some (.aload_n 0, 1, (0, 0, 0, 0)), some (.getfield 161, 3, (1, 12, 20, 0)), none, none, some (.invokevirtual 164, 3, (8, 178, 1, 12)), none, none, some (.i2l, 1, (0, 0, 0, 0)), some (.ldc2_w 173, 3, (6, 0, 0, 97)), none, none, some (.ldc2_w 175, 3, (6, 0, 0, 122)), none, none, some (.invokestatic 85, 3, (11, 169, 3, 0)), none, none, some (.ifCond .eq 203, 3, (0, 0, 0, 0)), none, none, some (.aload_n 0, 1, (0, 0, 0, 0)), some (.dup, 1, (0, 0, 0, 0)), some (.getfield 161, 3, (1, 12, 20, 0)), none, none, some (.iconst 1, 1, (0, 0, 0, 0)), some (.iadd, 1, (0, 0, 0, 0)), some (.putfield 161, 3, (1, 12, 20, 0)), none, none, some (.goto (-31), 3, (0, 0, 0, 0)), none, none, some (.iload_n 1, 1, (0, 0, 0, 0)), some (.i2l, 1, (0, 0, 0, 0)), some (.ldc2_w 177, 3, (6, 0, 0, 48)), none, none, some (.ldc2_w 179, 3, (6, 0, 0, 57)), none, none, some (.invokestatic 85, 3, (11, 169, 3, 0)), none, none, some (.ifCond .eq 107, 3, (0, 0, 0, 0)), none, none, some (.aload_n 0, 1, (0, 0, 0, 0)), some (.iconst 2, 1, (0, 0, 0, 0)), some (.putfield 170, 3, (1, 12, 21, 0)), none, none, some (.aload_n 0, 1, (0, 0, 0, 0)), some (.lconst 0, 1, (0, 0, 0, 0)), some (.putfield 181, 3, (1, 12, 23, 0)), none, none, some (.iconst 0, 1, (0, 0, 0, 0)), some (.istore_n 2, 1, (0, 0, 0, 0)), some (.aload_n 0, 1, (0, 0, 0, 0)), some (.aload_n 0, 1, (0, 0, 0, 0)), some (.getfield 161, 3, (1, 12, 20, 0)), none, none, some (.invokevirtual 164, 3, (8, 178, 1, 12)), none, none, some (.i2l, 1, (0, 0, 0, 0)), some (.ldc2_w 177, 3, (6, 0, 0, 48)), none, none, some (.ldc2_w 179, 3, (6, 0, 0, 57)), none, none, some (.invokestatic 85, 3, (11, 169, 3, 0)), none, none, some (.ifCond .eq 57, 3, (0, 0, 0, 0)), none, none, some (.aload_n 0, 1, (0, 0, 0, 0)), some (.iload_n 2, 1, (0, 0, 0, 0)), some (.iconst 4, 1, (0, 0, 0, 0)), some (.if_icmp .ge 28, 3, (0, 0, 0, 0)), none, none, some (.ldc2_w 136, 3, (6, 0, 0, 10)), none, none, some (.aload_n 0, 1, (0, 0, 0, 0)), some (.getfield 181, 3, (1, 12, 23, 0)), none, none, some (.lmul, 1, (0, 0, 0, 0)), some (.aload_n 0, 1, (0, 0, 0, 0)), some (.aload_n 0, 1, (0, 0, 0, 0)), some (.getfield 161, 3, (1, 12, 20, 0)), none, none, some (.invokevirtual 164, 3, (8, 178, 1, 12)), none, none, some (.i2l, 1, (0, 0, 0, 0)), some (.ladd, 1, (0, 0, 0, 0)), some (.ldc2_w 177, 3, (6, 0, 0, 48)), none, none, some (.lsub, 1, (0, 0, 0, 0)), some (.goto 7, 3, (0, 0, 0, 0)), none, none, some (.aload_n 0, 1, (0, 0, 0, 0)), some (.getfield 181, 3, (1, 12, 23, 0)), none, none, some (.putfield 181, 3, (1, 12, 23, 0)), none, none, some (.iinc 2 1, 3, (0, 0, 0, 0)), none, none, some (.aload_n 0, 1, (0, 0, 0, 0)), some (.dup, 1, (0, 0, 0, 0)), some (.getfield 161, 3, (1, 12, 20, 0)), none, none, some (.iconst 1, 1, (0, 0, 0, 0)), some (.iadd, 1, (0, 0, 0, 0)), some (.putfield 161, 3, (1, 12, 20, 0)), none, none, some (.goto (-72), 3, (0, 0, 0, 0)), none, none, some (.aload_n 0, 1, (0, 0, 0, 0)), some (.iload_n 2, 1, (0, 0, 0, 0)), some (.iconst 4, 1, (0, 0, 0, 0)), some (.if_icmp .le 7, 3, (0, 0, 0, 0)), none, none, some (.iconst 4, 1, (0, 0, 0, 0)), some (.goto 4, 3, (0, 0, 0, 0)), none, none, some (.iconst 2, 1, (0, 0, 0, 0)), some (.putfield 170, 3, (1, 12, 21, 0)), none, none, some (.goto 72, 3, (0, 0, 0, 0)), none, none, some (.iload_n 1, 1, (0, 0, 0, 0)), some (.bipush 40, 2, (0, 0, 0, 0)), none, some (.if_icmp .eq 45, 3, (0, 0, 0, 0)), none, none, some (.iload_n 1, 1, (0, 0, 0, 0)), some (.bipush 41, 2, (0, 0, 0, 0)), none, some (.if_icmp .eq 39, 3, (0, 0, 0, 0)), none, none, some (.iload_n 1, 1, (0, 0, 0, 0)), some (.bipush 59, 2, (0, 0, 0, 0)), none, some (.if_icmp .eq 33, 3, (0, 0, 0, 0)), none, none, some (.iload_n 1, 1, (0, 0, 0, 0)), some (.bipush 43, 2, (0, 0, 0, 0)), none, some (.if_icmp .eq 27, 3, (0, 0, 0, 0)), none, none, some (.iload_n 1, 1, (0, 0, 0, 0)), some (.bipush 45, 2, (0, 0, 0, 0)), none, some (.if_icmp .eq 21, 3, (0, 0, 0, 0)), none, none, some (.iload_n 1, 1, (0, 0, 0, 0)), some (.bipush 42, 2, (0, 0, 0, 0)), none, some (.if_icmp .eq 15, 3, (0, 0, 0, 0)), none, none, some (.iload_n 1, 1, (0, 0, 0, 0)), some (.bipush 60, 2, (0, 0, 0, 0)), none, some (.if_icmp .eq 9, 3, (0, 0, 0, 0)), none, none, some (.iload_n 1, 1, (0, 0, 0, 0)), some (.bipush 61, 2, (0, 0, 0, 0)), none, some (.if_icmp .ne 24, 3, (0, 0, 0, 0)), none, none, some (.aload_n 0, 1, (0, 0, 0, 0)), some (.iconst 3, 1, (0, 0, 0, 0)), some (.putfield 170, 3, (1, 12, 21, 0)), none, none, some (.aload_n 0, 1, (0, 0, 0, 0)), some (.iload_n 1, 1, (0, 0, 0, 0)), some (.i2l, 1, (0, 0, 0, 0)), some (.putfield 181, 3, (1, 12, 23, 0)), none, none, some (.aload_n 0, 1, (0, 0, 0, 0)), some (.dup, 1, (0, 0, 0, 0)), some (.getfield 161, 3, (1, 12, 20, 0)), none, none, some (.iconst 1, 1, (0, 0, 0, 0)), some (.iadd, 1, (0, 0, 0, 0)), some (.putfield 161, 3, (1, 12, 20, 0)), none, none, some (.return_, 1, (0, 0, 0, 0))]
def q_177 : ak_Q := (yX12_next, cX12_next, 3, none, k_177, 12)
set_option maxRecDepth 100000 in
def k_178 : List ak_I := [some (.iload_n 1, 1, (0, 0, 0, 0)), some (.aload_n 0, 1, (0, 0, 0, 0)), some (.getfield 155, 3, (1, 12, 19, 0)), none, none, some (.if_icmp .ge 17, 3, (0, 0, 0, 0)), none, none, some (.aload_n 0, 1, (0, 0, 0, 0)), some (.getfield 13, 3, (1, 12, 1, 1)), none, none, some (.aload_n 0, 1, (0, 0, 0, 0)), some (.getfield 158, 3, (1, 12, 18, 0)), none, none, some (.iload_n 1, 1, (0, 0, 0, 0)), some (.iadd, 1, (0, 0, 0, 0)), some (.iaload, 1, (0, 0, 0, 0)), some (.goto 4, 3, (0, 0, 0, 0)), none, none, some (.iconst (-1), 1, (0, 0, 0, 0)), some (.ireturn, 1, (0, 0, 0, 0))]
def q_178 : ak_Q := (yX12_byteAt, cX12_byteAt, 2, (some .int), k_178, 12)
set_option maxRecDepth 100000 in
def k_179 : List ak_I := [some (.aload_n 0, 1, (0, 0, 0, 0)), some (.getfield 185, 3, (1, 12, 25, 0)), none, none, some (.ifCond .ne 108, 3, (0, 0, 0, 0)), none, none, some (.aload_n 0, 1, (0, 0, 0, 0)), some (.getfield 170, 3, (1, 12, 21, 0)), none, none, some (.iconst 1, 1, (0, 0, 0, 0)), some (.if_icmp .ne 100, 3, (0, 0, 0, 0)), none, none, some (.aload_n 0, 1, (0, 0, 0, 0)), some (.getfield 161, 3, (1, 12, 20, 0)), none, none, some (.aload_n 0, 1, (0, 0, 0, 0)), some (.getfield 167, 3, (1, 12, 22, 0)), none, none, some (.bipush 8, 2, (0, 0, 0, 0)), none, some (.iadd, 1, (0, 0, 0, 0)), some (.if_icmp .gt 86, 3, (0, 0, 0, 0)), none, none, some (.aload_n 0, 1, (0, 0, 0, 0)), some (.iconst 0, 1, (0, 0, 0, 0)), some (.iload_n 1, 1, (0, 0, 0, 0)), some (.invokevirtual 192, 3, (8, 180, 2, 12)), none, none, some (.ifCond .eq 77, 3, (0, 0, 0, 0)), none, none, some (.aload_n 0, 1, (0, 0, 0, 0)), some (.iconst 1, 1, (0, 0, 0, 0)), some (.iload_n 2, 1, (0, 0, 0, 0)), some (.invokevirtual 192, 3, (8, 180, 2, 12)), none, none, some (.ifCond .eq 68, 3, (0, 0, 0, 0)), none, none, some (.aload_n 0, 1, (0, 0, 0, 0)), some (.iconst 2, 1, (0, 0, 0, 0)), some (.iload_n 3, 1, (0, 0, 0, 0)), some (.invokevirtual 192, 3, (8, 180, 2, 12)), none, none, some (.ifCond .eq 59, 3, (0, 0, 0, 0)), none, none, some (.aload_n 0, 1, (0, 0, 0, 0)), some (.iconst 3, 1, (0, 0, 0, 0)), some (.iload 4, 2, (0, 0, 0, 0)), none, some (.invokevirtual 192, 3, (8, 180, 2, 12)), none, none, some (.ifCond .eq 49, 3, (0, 0, 0, 0)), none, none, some (.aload_n 0, 1, (0, 0, 0, 0)), some (.iconst 4, 1, (0, 0, 0, 0)), some (.iload 5, 2, (0, 0, 0, 0)), none, some (.invokevirtual 192, 3, (8, 180, 2, 12)), none, none, some (.ifCond .eq 39, 3, (0, 0, 0, 0)), none, none, some (.aload_n 0, 1, (0, 0, 0, 0)), some (.iconst 5, 1, (0, 0, 0, 0)), some (.iload 6, 2, (0, 0, 0, 0)), none, some (.invokevirtual 192, 3, (8, 180, 2, 12)), none, none, some (.ifCond .eq 29, 3, (0, 0, 0, 0)), none, none, some (.aload_n 0, 1, (0, 0, 0, 0)), some (.bipush 6, 2, (0, 0, 0, 0)), none, some (.iload 7, 2, (0, 0, 0, 0)), none, some (.invokevirtual 192, 3, (8, 180, 2, 12)), none, none, some (.ifCond .eq 18, 3, (0, 0, 0, 0)), none, none, some (.aload_n 0, 1, (0, 0, 0, 0)), some (.bipush 7, 2, (0, 0, 0, 0)), none, some (.iload 8, 2, (0, 0, 0, 0)), none, some (.invokevirtual 192, 3, (8, 180, 2, 12)), none, none, some (.ifCond .eq 7, 3, (0, 0, 0, 0)), none, none, some (.iconst 1, 1, (0, 0, 0, 0)), some (.goto 4, 3, (0, 0, 0, 0)), none, none, some (.iconst 0, 1, (0, 0, 0, 0)), some (.ireturn, 1, (0, 0, 0, 0))]
def q_179 : ak_Q := (yX12_isWord, cX12_isWord, 9, (some .boolean), k_179, 12)
set_option maxRecDepth 100000 in
def k_180 : List ak_I := [some (.aload_n 0, 1, (0, 0, 0, 0)), some (.getfield 167, 3, (1, 12, 22, 0)), none, none, some (.iload_n 1, 1, (0, 0, 0, 0)), some (.iadd, 1, (0, 0, 0, 0)), some (.aload_n 0, 1, (0, 0, 0, 0)), some (.getfield 161, 3, (1, 12, 20, 0)), none, none, some (.if_icmp .ge 25, 3, (0, 0, 0, 0)), none, none, some (.aload_n 0, 1, (0, 0, 0, 0)), some (.aload_n 0, 1, (0, 0, 0, 0)), some (.getfield 167, 3, (1, 12, 22, 0)), none, none, some (.iload_n 1, 1, (0, 0, 0, 0)), some (.iadd, 1, (0, 0, 0, 0)), some (.invokevirtual 164, 3, (8, 178, 1, 12)), none, none, some (.iload_n 2, 1, (0, 0, 0, 0)), some (.if_icmp .ne 7, 3, (0, 0, 0, 0)), none, none, some (.iconst 1, 1, (0, 0, 0, 0)), some (.goto 16, 3, (0, 0, 0, 0)), none, none, some (.iconst 0, 1, (0, 0, 0, 0)), some (.goto 12, 3, (0, 0, 0, 0)), none, none, some (.iload_n 2, 1, (0, 0, 0, 0)), some (.ifCond .ne 7, 3, (0, 0, 0, 0)), none, none, some (.iconst 1, 1, (0, 0, 0, 0)), some (.goto 4, 3, (0, 0, 0, 0)), none, none, some (.iconst 0, 1, (0, 0, 0, 0)), some (.ireturn, 1, (0, 0, 0, 0))]
def q_180 : ak_Q := (yX12_isLetter, cX12_isLetter, 3, (some .boolean), k_180, 12)
set_option maxRecDepth 100000 in
def k_181 : List ak_I := [some (.iload_n 1, 1, (0, 0, 0, 0)), some (.ifCond .ne 7, 3, (0, 0, 0, 0)), none, none, some (.aload_n 0, 1, (0, 0, 0, 0)), some (.invokevirtual 198, 3, (8, 182, 0, 12)), none, none, some (.aload_n 0, 1, (0, 0, 0, 0)), some (.getfield 185, 3, (1, 12, 25, 0)), none, none, some (.ifCond .ne 7, 3, (0, 0, 0, 0)), none, none, some (.aload_n 0, 1, (0, 0, 0, 0)), some (.invokevirtual 201, 3, (8, 177, 0, 12)), none, none, some (.aload_n 0, 1, (0, 0, 0, 0)), some (.getfield 185, 3, (1, 12, 25, 0)), none, none, some (.ifCond .eq 7, 3, (0, 0, 0, 0)), none, none, some (.iconst 0, 1, (0, 0, 0, 0)), some (.goto 7, 3, (0, 0, 0, 0)), none, none, some (.aload_n 0, 1, (0, 0, 0, 0)), some (.invokevirtual 237, 3, (8, 183, 0, 12)), none, none, some (.istore_n 2, 1, (0, 0, 0, 0)), some (.aload_n 0, 1, (0, 0, 0, 0)), some (.bipush 59, 2, (0, 0, 0, 0)), none, some (.invokevirtual 226, 3, (8, 190, 1, 12)), none, none, some (.ifCond .ne 7, 3, (0, 0, 0, 0)), none, none, some (.aload_n 0, 1, (0, 0, 0, 0)), some (.invokevirtual 198, 3, (8, 182, 0, 12)), none, none, some (.aload_n 0, 1, (0, 0, 0, 0)), some (.getfield 185, 3, (1, 12, 25, 0)), none, none, some (.ifCond .ne 7, 3, (0, 0, 0, 0)), none, none, some (.aload_n 0, 1, (0, 0, 0, 0)), some (.invokevirtual 201, 3, (8, 177, 0, 12)), none, none, some (.iload_n 2, 1, (0, 0, 0, 0)), some (.ireturn, 1, (0, 0, 0, 0))]
def q_181 : ak_Q := (yX12_part, cX12_part, 3, (some .int), k_181, 12)
set_option maxRecDepth 100000 in
def k_182 : List ak_I := [some (.aload_n 0, 1, (0, 0, 0, 0)), some (.getfield 185, 3, (1, 12, 25, 0)), none, none, some (.ifCond .ne 16, 3, (0, 0, 0, 0)), none, none, some (.aload_n 0, 1, (0, 0, 0, 0)), some (.iconst 1, 1, (0, 0, 0, 0)), some (.putfield 185, 3, (1, 12, 25, 0)), none, none, some (.aload_n 0, 1, (0, 0, 0, 0)), some (.aload_n 0, 1, (0, 0, 0, 0)), some (.getfield 167, 3, (1, 12, 22, 0)), none, none, some (.putfield 189, 3, (1, 12, 26, 0)), none, none, some (.return_, 1, (0, 0, 0, 0))]
def q_182 : ak_Q := (yX12_fail, cX12_fail, 1, none, k_182, 12)
set_option maxRecDepth 100000 in
def k_183 : List ak_I := [some (.aload_n 0, 1, (0, 0, 0, 0)), some (.invokevirtual 256, 3, (8, 184, 0, 12)), none, none, some (.istore_n 1, 1, (0, 0, 0, 0)), some (.aload_n 0, 1, (0, 0, 0, 0)), some (.bipush 111, 2, (0, 0, 0, 0)), none, some (.bipush 114, 2, (0, 0, 0, 0)), none, some (.iconst 0, 1, (0, 0, 0, 0)), some (.iconst 0, 1, (0, 0, 0, 0)), some (.iconst 0, 1, (0, 0, 0, 0)), some (.iconst 0, 1, (0, 0, 0, 0)), some (.iconst 0, 1, (0, 0, 0, 0)), some (.iconst 0, 1, (0, 0, 0, 0)), some (.invokevirtual 204, 3, (8, 179, 8, 12)), none, none, some (.ifCond .eq 29, 3, (0, 0, 0, 0)), none, none, some (.aload_n 0, 1, (0, 0, 0, 0)), some (.invokevirtual 201, 3, (8, 177, 0, 12)), none, none, some (.aload_n 0, 1, (0, 0, 0, 0)), some (.invokevirtual 256, 3, (8, 184, 0, 12)), none, none, some (.istore_n 2, 1, (0, 0, 0, 0)), some (.iload_n 1, 1, (0, 0, 0, 0)), some (.ifCond .ne 7, 3, (0, 0, 0, 0)), none, none, some (.iload_n 2, 1, (0, 0, 0, 0)), some (.ifCond .eq 7, 3, (0, 0, 0, 0)), none, none, some (.iconst 1, 1, (0, 0, 0, 0)), some (.goto 4, 3, (0, 0, 0, 0)), none, none, some (.iconst 0, 1, (0, 0, 0, 0)), some (.istore_n 1, 1, (0, 0, 0, 0)), some (.goto (-40), 3, (0, 0, 0, 0)), none, none, some (.iload_n 1, 1, (0, 0, 0, 0)), some (.ireturn, 1, (0, 0, 0, 0))]
def q_183 : ak_Q := (yX12_either, cX12_either, 3, (some .int), k_183, 12)
set_option maxRecDepth 100000 in
def k_184 : List ak_I := [some (.aload_n 0, 1, (0, 0, 0, 0)), some (.invokevirtual 248, 3, (8, 185, 0, 12)), none, none, some (.istore_n 1, 1, (0, 0, 0, 0)), some (.aload_n 0, 1, (0, 0, 0, 0)), some (.bipush 97, 2, (0, 0, 0, 0)), none, some (.bipush 110, 2, (0, 0, 0, 0)), none, some (.bipush 100, 2, (0, 0, 0, 0)), none, some (.iconst 0, 1, (0, 0, 0, 0)), some (.iconst 0, 1, (0, 0, 0, 0)), some (.iconst 0, 1, (0, 0, 0, 0)), some (.iconst 0, 1, (0, 0, 0, 0)), some (.iconst 0, 1, (0, 0, 0, 0)), some (.invokevirtual 204, 3, (8, 179, 8, 12)), none, none, some (.ifCond .eq 29, 3, (0, 0, 0, 0)), none, none, some (.aload_n 0, 1, (0, 0, 0, 0)), some (.invokevirtual 201, 3, (8, 177, 0, 12)), none, none, some (.aload_n 0, 1, (0, 0, 0, 0)), some (.invokevirtual 248, 3, (8, 185, 0, 12)), none, none, some (.istore_n 2, 1, (0, 0, 0, 0)), some (.iload_n 1, 1, (0, 0, 0, 0)), some (.ifCond .eq 11, 3, (0, 0, 0, 0)), none, none, some (.iload_n 2, 1, (0, 0, 0, 0)), some (.ifCond .eq 7, 3, (0, 0, 0, 0)), none, none, some (.iconst 1, 1, (0, 0, 0, 0)), some (.goto 4, 3, (0, 0, 0, 0)), none, none, some (.iconst 0, 1, (0, 0, 0, 0)), some (.istore_n 1, 1, (0, 0, 0, 0)), some (.goto (-41), 3, (0, 0, 0, 0)), none, none, some (.iload_n 1, 1, (0, 0, 0, 0)), some (.ireturn, 1, (0, 0, 0, 0))]
def q_184 : ak_Q := (yX12_both, cX12_both, 3, (some .int), k_184, 12)
set_option maxRecDepth 100000 in
def k_185 : List ak_I := [some (.aload_n 0, 1, (0, 0, 0, 0)), some (.bipush 110, 2, (0, 0, 0, 0)), none, some (.bipush 111, 2, (0, 0, 0, 0)), none, some (.bipush 116, 2, (0, 0, 0, 0)), none, some (.iconst 0, 1, (0, 0, 0, 0)), some (.iconst 0, 1, (0, 0, 0, 0)), some (.iconst 0, 1, (0, 0, 0, 0)), some (.iconst 0, 1, (0, 0, 0, 0)), some (.iconst 0, 1, (0, 0, 0, 0)), some (.invokevirtual 204, 3, (8, 179, 8, 12)), none, none, some (.ifCond .eq 37, 3, (0, 0, 0, 0)), none, none, some (.aload_n 0, 1, (0, 0, 0, 0)), some (.invokevirtual 229, 3, (8, 186, 0, 12)), none, none, some (.ifCond .ne 5, 3, (0, 0, 0, 0)), none, none, some (.iconst 0, 1, (0, 0, 0, 0)), some (.ireturn, 1, (0, 0, 0, 0)), some (.aload_n 0, 1, (0, 0, 0, 0)), some (.invokevirtual 248, 3, (8, 185, 0, 12)), none, none, some (.istore_n 1, 1, (0, 0, 0, 0)), some (.aload_n 0, 1, (0, 0, 0, 0)), some (.dup, 1, (0, 0, 0, 0)), some (.getfield 195, 3, (1, 12, 24, 0)), none, none, some (.iconst 1, 1, (0, 0, 0, 0)), some (.isub, 1, (0, 0, 0, 0)), some (.putfield 195, 3, (1, 12, 24, 0)), none, none, some (.iload_n 1, 1, (0, 0, 0, 0)), some (.ifCond .ne 7, 3, (0, 0, 0, 0)), none, none, some (.iconst 1, 1, (0, 0, 0, 0)), some (.goto 4, 3, (0, 0, 0, 0)), none, none, some (.iconst 0, 1, (0, 0, 0, 0)), some (.ireturn, 1, (0, 0, 0, 0)), some (.aload_n 0, 1, (0, 0, 0, 0)), some (.invokevirtual 251, 3, (8, 187, 0, 12)), none, none, some (.istore_n 1, 1, (0, 0, 0, 0)), some (.aload_n 0, 1, (0, 0, 0, 0)), some (.bipush 60, 2, (0, 0, 0, 0)), none, some (.invokevirtual 226, 3, (8, 190, 1, 12)), none, none, some (.ifCond .ne 14, 3, (0, 0, 0, 0)), none, none, some (.aload_n 0, 1, (0, 0, 0, 0)), some (.bipush 61, 2, (0, 0, 0, 0)), none, some (.invokevirtual 226, 3, (8, 190, 1, 12)), none, none, some (.ifCond .ne 5, 3, (0, 0, 0, 0)), none, none, some (.iload_n 1, 1, (0, 0, 0, 0)), some (.ireturn, 1, (0, 0, 0, 0)), some (.aload_n 0, 1, (0, 0, 0, 0)), some (.getfield 181, 3, (1, 12, 23, 0)), none, none, some (.ldc2_w 254, 3, (6, 0, 0, 60)), none, none, some (.lcmp, 1, (0, 0, 0, 0)), some (.ifCond .ne 7, 3, (0, 0, 0, 0)), none, none, some (.iconst 1, 1, (0, 0, 0, 0)), some (.goto 4, 3, (0, 0, 0, 0)), none, none, some (.iconst 0, 1, (0, 0, 0, 0)), some (.istore_n 2, 1, (0, 0, 0, 0)), some (.aload_n 0, 1, (0, 0, 0, 0)), some (.invokevirtual 201, 3, (8, 177, 0, 12)), none, none, some (.aload_n 0, 1, (0, 0, 0, 0)), some (.invokevirtual 251, 3, (8, 187, 0, 12)), none, none, some (.istore_n 3, 1, (0, 0, 0, 0)), some (.iload_n 2, 1, (0, 0, 0, 0)), some (.ifCond .eq 11, 3, (0, 0, 0, 0)), none, none, some (.iload_n 1, 1, (0, 0, 0, 0)), some (.iload_n 3, 1, (0, 0, 0, 0)), some (.if_icmp .ge 15, 3, (0, 0, 0, 0)), none, none, some (.goto 8, 3, (0, 0, 0, 0)), none, none, some (.iload_n 1, 1, (0, 0, 0, 0)), some (.iload_n 3, 1, (0, 0, 0, 0)), some (.if_icmp .ne 7, 3, (0, 0, 0, 0)), none, none, some (.iconst 1, 1, (0, 0, 0, 0)), some (.goto 4, 3, (0, 0, 0, 0)), none, none, some (.iconst 0, 1, (0, 0, 0, 0)), some (.ireturn, 1, (0, 0, 0, 0))]
def q_185 : ak_Q := (yX12_not, cX12_not, 4, (some .int), k_185, 12)
set_option maxRecDepth 100000 in
def k_186 : List ak_I := [some (.aload_n 0, 1, (0, 0, 0, 0)), some (.getfield 195, 3, (1, 12, 24, 0)), none, none, some (.iconst 5, 1, (0, 0, 0, 0)), some (.if_icmp .ne 9, 3, (0, 0, 0, 0)), none, none, some (.aload_n 0, 1, (0, 0, 0, 0)), some (.invokevirtual 198, 3, (8, 182, 0, 12)), none, none, some (.iconst 0, 1, (0, 0, 0, 0)), some (.ireturn, 1, (0, 0, 0, 0)), some (.aload_n 0, 1, (0, 0, 0, 0)), some (.dup, 1, (0, 0, 0, 0)), some (.getfield 195, 3, (1, 12, 24, 0)), none, none, some (.iconst 1, 1, (0, 0, 0, 0)), some (.iadd, 1, (0, 0, 0, 0)), some (.putfield 195, 3, (1, 12, 24, 0)), none, none, some (.aload_n 0, 1, (0, 0, 0, 0)), some (.invokevirtual 201, 3, (8, 177, 0, 12)), none, none, some (.iconst 1, 1, (0, 0, 0, 0)), some (.ireturn, 1, (0, 0, 0, 0))]
def q_186 : ak_Q := (yX12_opens, cX12_opens, 1, (some .boolean), k_186, 12)
set_option maxRecDepth 100000 in
def k_187 : List ak_I := [some (.aload_n 0, 1, (0, 0, 0, 0)), some (.invokevirtual 243, 3, (8, 188, 0, 12)), none, none, some (.istore_n 1, 1, (0, 0, 0, 0)), some (.aload_n 0, 1, (0, 0, 0, 0)), some (.bipush 43, 2, (0, 0, 0, 0)), none, some (.invokevirtual 226, 3, (8, 190, 1, 12)), none, none, some (.ifCond .ne 12, 3, (0, 0, 0, 0)), none, none, some (.aload_n 0, 1, (0, 0, 0, 0)), some (.bipush 45, 2, (0, 0, 0, 0)), none, some (.invokevirtual 226, 3, (8, 190, 1, 12)), none, none, some (.ifCond .eq 46, 3, (0, 0, 0, 0)), none, none, some (.aload_n 0, 1, (0, 0, 0, 0)), some (.getfield 181, 3, (1, 12, 23, 0)), none, none, some (.ldc2_w 246, 3, (6, 0, 0, 43)), none, none, some (.lcmp, 1, (0, 0, 0, 0)), some (.ifCond .ne 7, 3, (0, 0, 0, 0)), none, none, some (.iconst 1, 1, (0, 0, 0, 0)), some (.goto 4, 3, (0, 0, 0, 0)), none, none, some (.iconst 0, 1, (0, 0, 0, 0)), some (.istore_n 2, 1, (0, 0, 0, 0)), some (.aload_n 0, 1, (0, 0, 0, 0)), some (.invokevirtual 201, 3, (8, 177, 0, 12)), none, none, some (.aload_n 0, 1, (0, 0, 0, 0)), some (.invokevirtual 243, 3, (8, 188, 0, 12)), none, none, some (.istore_n 3, 1, (0, 0, 0, 0)), some (.iload_n 2, 1, (0, 0, 0, 0)), some (.ifCond .eq 9, 3, (0, 0, 0, 0)), none, none, some (.iload_n 1, 1, (0, 0, 0, 0)), some (.iload_n 3, 1, (0, 0, 0, 0)), some (.iadd, 1, (0, 0, 0, 0)), some (.goto 6, 3, (0, 0, 0, 0)), none, none, some (.iload_n 1, 1, (0, 0, 0, 0)), some (.iload_n 3, 1, (0, 0, 0, 0)), some (.isub, 1, (0, 0, 0, 0)), some (.istore_n 1, 1, (0, 0, 0, 0)), some (.goto (-58), 3, (0, 0, 0, 0)), none, none, some (.iload_n 1, 1, (0, 0, 0, 0)), some (.ireturn, 1, (0, 0, 0, 0))]
def q_187 : ak_Q := (yX12_added, cX12_added, 4, (some .int), k_187, 12)
set_option maxRecDepth 100000 in
def k_188 : List ak_I := [some (.aload_n 0, 1, (0, 0, 0, 0)), some (.invokevirtual 233, 3, (8, 189, 0, 12)), none, none, some (.istore_n 1, 1, (0, 0, 0, 0)), some (.aload_n 0, 1, (0, 0, 0, 0)), some (.bipush 42, 2, (0, 0, 0, 0)), none, some (.invokevirtual 226, 3, (8, 190, 1, 12)), none, none, some (.ifCond .eq 17, 3, (0, 0, 0, 0)), none, none, some (.aload_n 0, 1, (0, 0, 0, 0)), some (.invokevirtual 201, 3, (8, 177, 0, 12)), none, none, some (.iload_n 1, 1, (0, 0, 0, 0)), some (.aload_n 0, 1, (0, 0, 0, 0)), some (.invokevirtual 233, 3, (8, 189, 0, 12)), none, none, some (.imul, 1, (0, 0, 0, 0)), some (.istore_n 1, 1, (0, 0, 0, 0)), some (.goto (-20), 3, (0, 0, 0, 0)), none, none, some (.iload_n 1, 1, (0, 0, 0, 0)), some (.ireturn, 1, (0, 0, 0, 0))]
def q_188 : ak_Q := (yX12_term, cX12_term, 2, (some .int), k_188, 12)
set_option maxRecDepth 100000 in
def k_189 : List ak_I := [some (.iconst 0, 1, (0, 0, 0, 0)), some (.istore_n 1, 1, (0, 0, 0, 0)), some (.aload_n 0, 1, (0, 0, 0, 0)), some (.bipush 45, 2, (0, 0, 0, 0)), none, some (.invokevirtual 226, 3, (8, 190, 1, 12)), none, none, some (.ifCond .eq 29, 3, (0, 0, 0, 0)), none, none, some (.aload_n 0, 1, (0, 0, 0, 0)), some (.invokevirtual 229, 3, (8, 186, 0, 12)), none, none, some (.ifCond .eq 146, 3, (0, 0, 0, 0)), none, none, some (.aload_n 0, 1, (0, 0, 0, 0)), some (.invokevirtual 233, 3, (8, 189, 0, 12)), none, none, some (.ineg, 1, (0, 0, 0, 0)), some (.istore_n 1, 1, (0, 0, 0, 0)), some (.aload_n 0, 1, (0, 0, 0, 0)), some (.dup, 1, (0, 0, 0, 0)), some (.getfield 195, 3, (1, 12, 24, 0)), none, none, some (.iconst 1, 1, (0, 0, 0, 0)), some (.isub, 1, (0, 0, 0, 0)), some (.putfield 195, 3, (1, 12, 24, 0)), none, none, some (.goto 127, 3, (0, 0, 0, 0)), none, none, some (.aload_n 0, 1, (0, 0, 0, 0)), some (.bipush 40, 2, (0, 0, 0, 0)), none, some (.invokevirtual 226, 3, (8, 190, 1, 12)), none, none, some (.ifCond .eq 52, 3, (0, 0, 0, 0)), none, none, some (.aload_n 0, 1, (0, 0, 0, 0)), some (.invokevirtual 229, 3, (8, 186, 0, 12)), none, none, some (.ifCond .eq 111, 3, (0, 0, 0, 0)), none, none, some (.aload_n 0, 1, (0, 0, 0, 0)), some (.invokevirtual 237, 3, (8, 183, 0, 12)), none, none, some (.istore_n 1, 1, (0, 0, 0, 0)), some (.aload_n 0, 1, (0, 0, 0, 0)), some (.bipush 41, 2, (0, 0, 0, 0)), none, some (.invokevirtual 226, 3, (8, 190, 1, 12)), none, none, some (.ifCond .ne 7, 3, (0, 0, 0, 0)), none, none, some (.aload_n 0, 1, (0, 0, 0, 0)), some (.invokevirtual 198, 3, (8, 182, 0, 12)), none, none, some (.aload_n 0, 1, (0, 0, 0, 0)), some (.dup, 1, (0, 0, 0, 0)), some (.getfield 195, 3, (1, 12, 24, 0)), none, none, some (.iconst 1, 1, (0, 0, 0, 0)), some (.isub, 1, (0, 0, 0, 0)), some (.putfield 195, 3, (1, 12, 24, 0)), none, none, some (.aload_n 0, 1, (0, 0, 0, 0)), some (.getfield 185, 3, (1, 12, 25, 0)), none, none, some (.ifCond .ne 76, 3, (0, 0, 0, 0)), none, none, some (.aload_n 0, 1, (0, 0, 0, 0)), some (.invokevirtual 201, 3, (8, 177, 0, 12)), none, none, some (.goto 69, 3, (0, 0, 0, 0)), none, none, some (.aload_n 0, 1, (0, 0, 0, 0)), some (.getfield 185, 3, (1, 12, 25, 0)), none, none, some (.ifCond .ne 24, 3, (0, 0, 0, 0)), none, none, some (.aload_n 0, 1, (0, 0, 0, 0)), some (.getfield 170, 3, (1, 12, 21, 0)), none, none, some (.iconst 2, 1, (0, 0, 0, 0)), some (.if_icmp .ne 16, 3, (0, 0, 0, 0)), none, none, some (.aload_n 0, 1, (0, 0, 0, 0)), some (.getfield 181, 3, (1, 12, 23, 0)), none, none, some (.l2i, 1, (0, 0, 0, 0)), some (.istore_n 1, 1, (0, 0, 0, 0)), some (.aload_n 0, 1, (0, 0, 0, 0)), some (.invokevirtual 201, 3, (8, 177, 0, 12)), none, none, some (.goto 41, 3, (0, 0, 0, 0)), none, none, some (.aload_n 0, 1, (0, 0, 0, 0)), some (.getfield 185, 3, (1, 12, 25, 0)), none, none, some (.ifCond .ne 30, 3, (0, 0, 0, 0)), none, none, some (.aload_n 0, 1, (0, 0, 0, 0)), some (.getfield 170, 3, (1, 12, 21, 0)), none, none, some (.iconst 1, 1, (0, 0, 0, 0)), some (.if_icmp .ne 22, 3, (0, 0, 0, 0)), none, none, some (.aload_n 0, 1, (0, 0, 0, 0)), some (.invokevirtual 240, 3, (8, 191, 0, 12)), none, none, some (.istore_n 1, 1, (0, 0, 0, 0)), some (.aload_n 0, 1, (0, 0, 0, 0)), some (.getfield 185, 3, (1, 12, 25, 0)), none, none, some (.ifCond .ne 14, 3, (0, 0, 0, 0)), none, none, some (.aload_n 0, 1, (0, 0, 0, 0)), some (.invokevirtual 201, 3, (8, 177, 0, 12)), none, none, some (.goto 7, 3, (0, 0, 0, 0)), none, none, some (.aload_n 0, 1, (0, 0, 0, 0)), some (.invokevirtual 198, 3, (8, 182, 0, 12)), none, none, some (.iload_n 1, 1, (0, 0, 0, 0)), some (.ireturn, 1, (0, 0, 0, 0))]
def q_189 : ak_Q := (yX12_atom, cX12_atom, 2, (some .int), k_189, 12)
set_option maxRecDepth 100000 in
def k_190 : List ak_I := [some (.aload_n 0, 1, (0, 0, 0, 0)), some (.getfield 185, 3, (1, 12, 25, 0)), none, none, some (.ifCond .ne 25, 3, (0, 0, 0, 0)), none, none, some (.aload_n 0, 1, (0, 0, 0, 0)), some (.getfield 170, 3, (1, 12, 21, 0)), none, none, some (.iconst 3, 1, (0, 0, 0, 0)), some (.if_icmp .ne 17, 3, (0, 0, 0, 0)), none, none, some (.aload_n 0, 1, (0, 0, 0, 0)), some (.getfield 181, 3, (1, 12, 23, 0)), none, none, some (.iload_n 1, 1, (0, 0, 0, 0)), some (.i2l, 1, (0, 0, 0, 0)), some (.lcmp, 1, (0, 0, 0, 0)), some (.ifCond .ne 7, 3, (0, 0, 0, 0)), none, none, some (.iconst 1, 1, (0, 0, 0, 0)), some (.goto 4, 3, (0, 0, 0, 0)), none, none, some (.iconst 0, 1, (0, 0, 0, 0)), some (.ireturn, 1, (0, 0, 0, 0))]
def q_190 : ak_Q := (yX12_isSign, cX12_isSign, 2, (some .boolean), k_190, 12)
set_option maxRecDepth 100000 in
def k_191 : List ak_I := [some (.aload_n 0, 1, (0, 0, 0, 0)), some (.bipush 119, 2, (0, 0, 0, 0)), none, some (.bipush 101, 2, (0, 0, 0, 0)), none, some (.bipush 101, 2, (0, 0, 0, 0)), none, some (.bipush 107, 2, (0, 0, 0, 0)), none, some (.iconst 0, 1, (0, 0, 0, 0)), some (.iconst 0, 1, (0, 0, 0, 0)), some (.iconst 0, 1, (0, 0, 0, 0)), some (.iconst 0, 1, (0, 0, 0, 0)), some (.invokevirtual 204, 3, (8, 179, 8, 12)), none, none, some (.ifCond .eq 8, 3, (0, 0, 0, 0)), none, none, some (.aload_n 0, 1, (0, 0, 0, 0)), some (.getfield 208, 3, (1, 12, 12, 0)), none, none, some (.ireturn, 1, (0, 0, 0, 0)), some (.aload_n 0, 1, (0, 0, 0, 0)), some (.bipush 119, 2, (0, 0, 0, 0)), none, some (.bipush 105, 2, (0, 0, 0, 0)), none, some (.bipush 115, 2, (0, 0, 0, 0)), none, some (.bipush 104, 2, (0, 0, 0, 0)), none, some (.bipush 101, 2, (0, 0, 0, 0)), none, some (.bipush 100, 2, (0, 0, 0, 0)), none, some (.iconst 0, 1, (0, 0, 0, 0)), some (.iconst 0, 1, (0, 0, 0, 0)), some (.invokevirtual 204, 3, (8, 179, 8, 12)), none, none, some (.ifCond .eq 8, 3, (0, 0, 0, 0)), none, none, some (.aload_n 0, 1, (0, 0, 0, 0)), some (.getfield 211, 3, (1, 12, 13, 0)), none, none, some (.ireturn, 1, (0, 0, 0, 0)), some (.aload_n 0, 1, (0, 0, 0, 0)), some (.bipush 110, 2, (0, 0, 0, 0)), none, some (.bipush 117, 2, (0, 0, 0, 0)), none, some (.bipush 109, 2, (0, 0, 0, 0)), none, some (.bipush 98, 2, (0, 0, 0, 0)), none, some (.bipush 101, 2, (0, 0, 0, 0)), none, some (.bipush 114, 2, (0, 0, 0, 0)), none, some (.iconst 0, 1, (0, 0, 0, 0)), some (.iconst 0, 1, (0, 0, 0, 0)), some (.invokevirtual 204, 3, (8, 179, 8, 12)), none, none, some (.ifCond .eq 8, 3, (0, 0, 0, 0)), none, none, some (.aload_n 0, 1, (0, 0, 0, 0)), some (.getfield 214, 3, (1, 12, 14, 0)), none, none, some (.ireturn, 1, (0, 0, 0, 0)), some (.aload_n 0, 1, (0, 0, 0, 0)), some (.bipush 108, 2, (0, 0, 0, 0)), none, some (.bipush 101, 2, (0, 0, 0, 0)), none, some (.bipush 110, 2, (0, 0, 0, 0)), none, some (.bipush 103, 2, (0, 0, 0, 0)), none, some (.bipush 116, 2, (0, 0, 0, 0)), none, some (.bipush 104, 2, (0, 0, 0, 0)), none, some (.iconst 0, 1, (0, 0, 0, 0)), some (.iconst 0, 1, (0, 0, 0, 0)), some (.invokevirtual 204, 3, (8, 179, 8, 12)), none, none, some (.ifCond .eq 8, 3, (0, 0, 0, 0)), none, none, some (.aload_n 0, 1, (0, 0, 0, 0)), some (.getfield 217, 3, (1, 12, 15, 0)), none, none, some (.ireturn, 1, (0, 0, 0, 0)), some (.aload_n 0, 1, (0, 0, 0, 0)), some (.bipush 112, 2, (0, 0, 0, 0)), none, some (.bipush 111, 2, (0, 0, 0, 0)), none, some (.bipush 105, 2, (0, 0, 0, 0)), none, some (.bipush 110, 2, (0, 0, 0, 0)), none, some (.bipush 116, 2, (0, 0, 0, 0)), none, some (.bipush 115, 2, (0, 0, 0, 0)), none, some (.iconst 0, 1, (0, 0, 0, 0)), some (.iconst 0, 1, (0, 0, 0, 0)), some (.invokevirtual 204, 3, (8, 179, 8, 12)), none, none, some (.ifCond .eq 8, 3, (0, 0, 0, 0)), none, none, some (.aload_n 0, 1, (0, 0, 0, 0)), some (.getfield 220, 3, (1, 12, 16, 0)), none, none, some (.ireturn, 1, (0, 0, 0, 0)), some (.aload_n 0, 1, (0, 0, 0, 0)), some (.bipush 97, 2, (0, 0, 0, 0)), none, some (.bipush 119, 2, (0, 0, 0, 0)), none, some (.bipush 97, 2, (0, 0, 0, 0)), none, some (.bipush 121, 2, (0, 0, 0, 0)), none, some (.iconst 0, 1, (0, 0, 0, 0)), some (.iconst 0, 1, (0, 0, 0, 0)), some (.iconst 0, 1, (0, 0, 0, 0)), some (.iconst 0, 1, (0, 0, 0, 0)), some (.invokevirtual 204, 3, (8, 179, 8, 12)), none, none, some (.ifCond .eq 8, 3, (0, 0, 0, 0)), none, none, some (.aload_n 0, 1, (0, 0, 0, 0)), some (.getfield 223, 3, (1, 12, 17, 0)), none, none, some (.ireturn, 1, (0, 0, 0, 0)), some (.aload_n 0, 1, (0, 0, 0, 0)), some (.invokevirtual 198, 3, (8, 182, 0, 12)), none, none, some (.iconst 0, 1, (0, 0, 0, 0)), some (.ireturn, 1, (0, 0, 0, 0))]
def q_191 : ak_Q := (yX12_name, cX12_name, 1, (some .int), k_191, 12)
set_option maxRecDepth 100000 in
def k_192 : List ak_I := [some (.iload_n 0, 1, (0, 0, 0, 0)), some (.iload_n 1, 1, (0, 0, 0, 0)), some (.if_icmp .ge 7, 3, (0, 0, 0, 0)), none, none, some (.iload_n 1, 1, (0, 0, 0, 0)), some (.goto 13, 3, (0, 0, 0, 0)), none, none, some (.iload_n 0, 1, (0, 0, 0, 0)), some (.iload_n 2, 1, (0, 0, 0, 0)), some (.if_icmp .le 7, 3, (0, 0, 0, 0)), none, none, some (.iload_n 2, 1, (0, 0, 0, 0)), some (.goto 4, 3, (0, 0, 0, 0)), none, none, some (.iload_n 0, 1, (0, 0, 0, 0)), some (.ireturn, 1, (0, 0, 0, 0))]
def q_192 : ak_Q := (yX12_within, cX12_within, 3, (some .int), k_192, 12)
set_option maxRecDepth 100000 in
def k_193 : List ak_I := [some (.aload_n 0, 1, (0, 0, 0, 0)), some (.getfield 26, 3, (1, 12, 8, 1)), none, none, some (.iload_n 1, 1, (0, 0, 0, 0)), some (.iaload, 1, (0, 0, 0, 0)), some (.istore_n 3, 1, (0, 0, 0, 0)), some (.iload_n 3, 1, (0, 0, 0, 0)), some (.iconst 4, 1, (0, 0, 0, 0)), some (.if_icmp .ne 5, 3, (0, 0, 0, 0)), none, none, some (.iconst 1, 1, (0, 0, 0, 0)), some (.ireturn, 1, (0, 0, 0, 0)), some (.aload_n 0, 1, (0, 0, 0, 0)), some (.iconst 2, 1, (0, 0, 0, 0)), some (.iload_n 1, 1, (0, 0, 0, 0)), some (.iload_n 2, 1, (0, 0, 0, 0)), some (.invokevirtual 273, 3, (8, 175, 3, 12)), none, none, some (.ifCond .eq 7, 3, (0, 0, 0, 0)), none, none, some (.iconst 1, 1, (0, 0, 0, 0)), some (.goto 4, 3, (0, 0, 0, 0)), none, none, some (.iconst 0, 1, (0, 0, 0, 0)), some (.istore 4, 2, (0, 0, 0, 0)), none, some (.iload_n 3, 1, (0, 0, 0, 0)), some (.iconst 2, 1, (0, 0, 0, 0)), some (.if_icmp .ne 30, 3, (0, 0, 0, 0)), none, none, some (.iload 4, 2, (0, 0, 0, 0)), none, some (.ifCond .eq 21, 3, (0, 0, 0, 0)), none, none, some (.iload_n 2, 1, (0, 0, 0, 0)), some (.i2l, 1, (0, 0, 0, 0)), some (.ldc2_w 276, 3, (6, 0, 0, 3)), none, none, some (.ldc2_w 112, 3, (6, 0, 0, 5)), none, none, some (.invokestatic 85, 3, (11, 169, 3, 0)), none, none, some (.ifCond .ne 7, 3, (0, 0, 0, 0)), none, none, some (.iconst 1, 1, (0, 0, 0, 0)), some (.goto 66, 3, (0, 0, 0, 0)), none, none, some (.iconst 0, 1, (0, 0, 0, 0)), some (.goto 62, 3, (0, 0, 0, 0)), none, none, some (.iload_n 3, 1, (0, 0, 0, 0)), some (.iconst 3, 1, (0, 0, 0, 0)), some (.if_icmp .ne 31, 3, (0, 0, 0, 0)), none, none, some (.iload 4, 2, (0, 0, 0, 0)), none, some (.ifCond .ne 18, 3, (0, 0, 0, 0)), none, none, some (.iload_n 2, 1, (0, 0, 0, 0)), some (.aload_n 0, 1, (0, 0, 0, 0)), some (.getfield 29, 3, (1, 12, 9, 1)), none, none, some (.iconst 5, 1, (0, 0, 0, 0)), some (.iload_n 1, 1, (0, 0, 0, 0)), some (.imul, 1, (0, 0, 0, 0)), some (.iaload, 1, (0, 0, 0, 0)), some (.bipush 8, 2, (0, 0, 0, 0)), none, some (.irem, 1, (0, 0, 0, 0)), some (.if_icmp .ne 7, 3, (0, 0, 0, 0)), none, none, some (.iconst 1, 1, (0, 0, 0, 0)), some (.goto 33, 3, (0, 0, 0, 0)), none, none, some (.iconst 0, 1, (0, 0, 0, 0)), some (.goto 29, 3, (0, 0, 0, 0)), none, none, some (.iload_n 3, 1, (0, 0, 0, 0)), some (.iconst 5, 1, (0, 0, 0, 0)), some (.if_icmp .ne 22, 3, (0, 0, 0, 0)), none, none, some (.iload 4, 2, (0, 0, 0, 0)), none, some (.ifCond .eq 13, 3, (0, 0, 0, 0)), none, none, some (.iload_n 2, 1, (0, 0, 0, 0)), some (.iconst 2, 1, (0, 0, 0, 0)), some (.irem, 1, (0, 0, 0, 0)), some (.ifCond .ne 7, 3, (0, 0, 0, 0)), none, none, some (.iconst 1, 1, (0, 0, 0, 0)), some (.goto 9, 3, (0, 0, 0, 0)), none, none, some (.iconst 0, 1, (0, 0, 0, 0)), some (.goto 5, 3, (0, 0, 0, 0)), none, none, some (.iload 4, 2, (0, 0, 0, 0)), none, some (.ireturn, 1, (0, 0, 0, 0))]
def q_193 : ak_Q := (yX12_wants, cX12_wants, 5, (some .boolean), k_193, 12)
set_option maxRecDepth 100000 in
def k_194 : List ak_I := [some (.iconst 0, 1, (0, 0, 0, 0)), some (.istore_n 3, 1, (0, 0, 0, 0)), some (.iconst 0, 1, (0, 0, 0, 0)), some (.istore 4, 2, (0, 0, 0, 0)), none, some (.iload 4, 2, (0, 0, 0, 0)), none, some (.bipush 8, 2, (0, 0, 0, 0)), none, some (.if_icmp .ge 38, 3, (0, 0, 0, 0)), none, none, some (.iload_n 3, 1, (0, 0, 0, 0)), some (.aload_n 0, 1, (0, 0, 0, 0)), some (.iload_n 1, 1, (0, 0, 0, 0)), some (.iload_n 2, 1, (0, 0, 0, 0)), some (.invokevirtual 278, 3, (8, 195, 2, 12)), none, none, some (.iload 4, 2, (0, 0, 0, 0)), none, some (.ishr, 1, (0, 0, 0, 0)), some (.iconst 1, 1, (0, 0, 0, 0)), some (.iand, 1, (0, 0, 0, 0)), some (.iconst 1, 1, (0, 0, 0, 0)), some (.if_icmp .ne 13, 3, (0, 0, 0, 0)), none, none, some (.aload_n 0, 1, (0, 0, 0, 0)), some (.iload_n 1, 1, (0, 0, 0, 0)), some (.iload 4, 2, (0, 0, 0, 0)), none, some (.invokevirtual 138, 3, (8, 173, 2, 12)), none, none, some (.goto 4, 3, (0, 0, 0, 0)), none, none, some (.iconst 0, 1, (0, 0, 0, 0)), some (.iadd, 1, (0, 0, 0, 0)), some (.istore_n 3, 1, (0, 0, 0, 0)), some (.iinc 4 1, 3, (0, 0, 0, 0)), none, none, some (.goto (-39), 3, (0, 0, 0, 0)), none, none, some (.iload_n 3, 1, (0, 0, 0, 0)), some (.ireturn, 1, (0, 0, 0, 0))]
def q_194 : ak_Q := (yX12_hasOf, cX12_hasOf, 5, (some .int), k_194, 12)
set_option maxRecDepth 100000 in
def k_195 : List ak_I := [some (.iconst 0, 1, (0, 0, 0, 0)), some (.istore_n 3, 1, (0, 0, 0, 0)), some (.iload_n 2, 1, (0, 0, 0, 0)), some (.istore 4, 2, (0, 0, 0, 0)), none, some (.iload_n 2, 1, (0, 0, 0, 0)), some (.iconst (-1), 1, (0, 0, 0, 0)), some (.if_icmp .eq 40, 3, (0, 0, 0, 0)), none, none, some (.iload 4, 2, (0, 0, 0, 0)), none, some (.bipush 8, 2, (0, 0, 0, 0)), none, some (.if_icmp .ge 33, 3, (0, 0, 0, 0)), none, none, some (.iload 4, 2, (0, 0, 0, 0)), none, some (.iload_n 2, 1, (0, 0, 0, 0)), some (.aload_n 0, 1, (0, 0, 0, 0)), some (.getfield 29, 3, (1, 12, 9, 1)), none, none, some (.iconst 5, 1, (0, 0, 0, 0)), some (.iload_n 1, 1, (0, 0, 0, 0)), some (.imul, 1, (0, 0, 0, 0)), some (.iconst 1, 1, (0, 0, 0, 0)), some (.iadd, 1, (0, 0, 0, 0)), some (.iaload, 1, (0, 0, 0, 0)), some (.iadd, 1, (0, 0, 0, 0)), some (.if_icmp .ge 16, 3, (0, 0, 0, 0)), none, none, some (.iload_n 3, 1, (0, 0, 0, 0)), some (.iconst 1, 1, (0, 0, 0, 0)), some (.iload 4, 2, (0, 0, 0, 0)), none, some (.ishl, 1, (0, 0, 0, 0)), some (.ior, 1, (0, 0, 0, 0)), some (.istore_n 3, 1, (0, 0, 0, 0)), some (.iinc 4 1, 3, (0, 0, 0, 0)), none, none, some (.goto (-39), 3, (0, 0, 0, 0)), none, none, some (.iload_n 3, 1, (0, 0, 0, 0)), some (.ireturn, 1, (0, 0, 0, 0))]
def q_195 : ak_Q := (yX12_weeksOf, cX12_weeksOf, 5, (some .int), k_195, 12)
set_option maxRecDepth 100000 in
def k_196 : List ak_I := [some (.aload_n 0, 1, (0, 0, 0, 0)), some (.getfield 26, 3, (1, 12, 8, 1)), none, none, some (.iload_n 1, 1, (0, 0, 0, 0)), some (.iaload, 1, (0, 0, 0, 0)), some (.istore_n 2, 1, (0, 0, 0, 0)), some (.iload_n 2, 1, (0, 0, 0, 0)), some (.iconst 4, 1, (0, 0, 0, 0)), some (.if_icmp .ne 5, 3, (0, 0, 0, 0)), none, none, some (.iconst 0, 1, (0, 0, 0, 0)), some (.ireturn, 1, (0, 0, 0, 0)), some (.aload_n 0, 1, (0, 0, 0, 0)), some (.iconst 1, 1, (0, 0, 0, 0)), some (.iload_n 1, 1, (0, 0, 0, 0)), some (.iconst (-1), 1, (0, 0, 0, 0)), some (.invokevirtual 273, 3, (8, 175, 3, 12)), none, none, some (.istore_n 3, 1, (0, 0, 0, 0)), some (.aload_n 0, 1, (0, 0, 0, 0)), some (.iload_n 1, 1, (0, 0, 0, 0)), some (.aload_n 0, 1, (0, 0, 0, 0)), some (.getfield 29, 3, (1, 12, 9, 1)), none, none, some (.iconst 5, 1, (0, 0, 0, 0)), some (.iload_n 1, 1, (0, 0, 0, 0)), some (.imul, 1, (0, 0, 0, 0)), some (.iconst 4, 1, (0, 0, 0, 0)), some (.iadd, 1, (0, 0, 0, 0)), some (.iaload, 1, (0, 0, 0, 0)), some (.invokevirtual 144, 3, (8, 194, 2, 12)), none, none, some (.istore 4, 2, (0, 0, 0, 0)), none, some (.iload_n 2, 1, (0, 0, 0, 0)), some (.iconst 2, 1, (0, 0, 0, 0)), some (.if_icmp .ne 9, 3, (0, 0, 0, 0)), none, none, some (.iload_n 3, 1, (0, 0, 0, 0)), some (.iconst 2, 1, (0, 0, 0, 0)), some (.iadd, 1, (0, 0, 0, 0)), some (.goto 30, 3, (0, 0, 0, 0)), none, none, some (.iload_n 2, 1, (0, 0, 0, 0)), some (.iconst 5, 1, (0, 0, 0, 0)), some (.if_icmp .ne 9, 3, (0, 0, 0, 0)), none, none, some (.iload_n 3, 1, (0, 0, 0, 0)), some (.iconst 2, 1, (0, 0, 0, 0)), some (.idiv, 1, (0, 0, 0, 0)), some (.goto 19, 3, (0, 0, 0, 0)), none, none, some (.iload_n 2, 1, (0, 0, 0, 0)), some (.ifCond .eq 14, 3, (0, 0, 0, 0)), none, none, some (.iload 4, 2, (0, 0, 0, 0)), none, some (.bipush 30, 2, (0, 0, 0, 0)), none, some (.if_icmp .lt 7, 3, (0, 0, 0, 0)), none, none, some (.iconst 0, 1, (0, 0, 0, 0)), some (.goto 4, 3, (0, 0, 0, 0)), none, none, some (.iload_n 3, 1, (0, 0, 0, 0)), some (.ireturn, 1, (0, 0, 0, 0))]
def q_196 : ak_Q := (yX12_earnsOf, cX12_earnsOf, 5, (some .int), k_196, 12)
set_option maxRecDepth 100000 in
def k_197 : List ak_I := [some (.iload_n 1, 1, (0, 0, 0, 0)), some (.iconst 3, 1, (0, 0, 0, 0)), some (.if_icmp .ge 13, 3, (0, 0, 0, 0)), none, none, some (.aload_n 0, 1, (0, 0, 0, 0)), some (.getfield 23, 3, (1, 12, 7, 1)), none, none, some (.iload_n 1, 1, (0, 0, 0, 0)), some (.iload_n 3, 1, (0, 0, 0, 0)), some (.iastore, 1, (0, 0, 0, 0)), some (.goto 46, 3, (0, 0, 0, 0)), none, none, some (.iload_n 1, 1, (0, 0, 0, 0)), some (.bipush 7, 2, (0, 0, 0, 0)), none, some (.if_icmp .ge 19, 3, (0, 0, 0, 0)), none, none, some (.aload_n 0, 1, (0, 0, 0, 0)), some (.getfield 29, 3, (1, 12, 9, 1)), none, none, some (.iconst 5, 1, (0, 0, 0, 0)), some (.iload_n 2, 1, (0, 0, 0, 0)), some (.imul, 1, (0, 0, 0, 0)), some (.iload_n 1, 1, (0, 0, 0, 0)), some (.iadd, 1, (0, 0, 0, 0)), some (.iconst 3, 1, (0, 0, 0, 0)), some (.isub, 1, (0, 0, 0, 0)), some (.iload_n 3, 1, (0, 0, 0, 0)), some (.iastore, 1, (0, 0, 0, 0)), some (.goto 24, 3, (0, 0, 0, 0)), none, none, some (.iload_n 1, 1, (0, 0, 0, 0)), some (.bipush 7, 2, (0, 0, 0, 0)), none, some (.if_icmp .ne 13, 3, (0, 0, 0, 0)), none, none, some (.aload_n 0, 1, (0, 0, 0, 0)), some (.getfield 26, 3, (1, 12, 8, 1)), none, none, some (.iload_n 2, 1, (0, 0, 0, 0)), some (.iload_n 3, 1, (0, 0, 0, 0)), some (.iastore, 1, (0, 0, 0, 0)), some (.goto 8, 3, (0, 0, 0, 0)), none, none, some (.aload_n 0, 1, (0, 0, 0, 0)), some (.iload_n 3, 1, (0, 0, 0, 0)), some (.putfield 109, 3, (1, 12, 4, 0)), none, none, some (.return_, 1, (0, 0, 0, 0))]
def q_197 : ak_Q := (yX12_lays, cX12_lays, 4, none, k_197, 12)
set_option maxRecDepth 100000 in
def k_198 : List ak_I := [some (.iload_n 1, 1, (0, 0, 0, 0)), some (.i2l, 1, (0, 0, 0, 0)), some (.lconst 0, 1, (0, 0, 0, 0)), some (.ldc2_w 112, 3, (6, 0, 0, 5)), none, none, some (.invokestatic 85, 3, (11, 169, 3, 0)), none, none, some (.ifCond .eq 27, 3, (0, 0, 0, 0)), none, none, some (.iload_n 2, 1, (0, 0, 0, 0)), some (.i2l, 1, (0, 0, 0, 0)), some (.lconst 0, 1, (0, 0, 0, 0)), some (.ldc2_w 114, 3, (6, 0, 0, 9)), none, none, some (.invokestatic 85, 3, (11, 169, 3, 0)), none, none, some (.ifCond .eq 15, 3, (0, 0, 0, 0)), none, none, some (.iload_n 3, 1, (0, 0, 0, 0)), some (.i2l, 1, (0, 0, 0, 0)), some (.lconst 1, 1, (0, 0, 0, 0)), some (.ldc2_w 116, 3, (6, 0, 0, 4)), none, none, some (.invokestatic 85, 3, (11, 169, 3, 0)), none, none, some (.ifCond .ne 6, 3, (0, 0, 0, 0)), none, none, some (.bipush (-2), 2, (0, 0, 0, 0)), none, some (.ireturn, 1, (0, 0, 0, 0)), some (.aload_n 0, 1, (0, 0, 0, 0)), some (.getfield 82, 3, (1, 12, 11, 0)), none, none, some (.iconst 4, 1, (0, 0, 0, 0)), some (.if_icmp .ne 6, 3, (0, 0, 0, 0)), none, none, some (.bipush (-4), 2, (0, 0, 0, 0)), none, some (.ireturn, 1, (0, 0, 0, 0)), some (.aload_n 0, 1, (0, 0, 0, 0)), some (.getfield 26, 3, (1, 12, 8, 1)), none, none, some (.aload_n 0, 1, (0, 0, 0, 0)), some (.getfield 82, 3, (1, 12, 11, 0)), none, none, some (.iload_n 1, 1, (0, 0, 0, 0)), some (.iastore, 1, (0, 0, 0, 0)), some (.aload_n 0, 1, (0, 0, 0, 0)), some (.getfield 29, 3, (1, 12, 9, 1)), none, none, some (.iconst 5, 1, (0, 0, 0, 0)), some (.aload_n 0, 1, (0, 0, 0, 0)), some (.getfield 82, 3, (1, 12, 11, 0)), none, none, some (.imul, 1, (0, 0, 0, 0)), some (.iload_n 2, 1, (0, 0, 0, 0)), some (.iastore, 1, (0, 0, 0, 0)), some (.aload_n 0, 1, (0, 0, 0, 0)), some (.getfield 29, 3, (1, 12, 9, 1)), none, none, some (.iconst 5, 1, (0, 0, 0, 0)), some (.aload_n 0, 1, (0, 0, 0, 0)), some (.getfield 82, 3, (1, 12, 11, 0)), none, none, some (.imul, 1, (0, 0, 0, 0)), some (.iconst 1, 1, (0, 0, 0, 0)), some (.iadd, 1, (0, 0, 0, 0)), some (.iload_n 3, 1, (0, 0, 0, 0)), some (.iastore, 1, (0, 0, 0, 0)), some (.aload_n 0, 1, (0, 0, 0, 0)), some (.getfield 29, 3, (1, 12, 9, 1)), none, none, some (.iconst 5, 1, (0, 0, 0, 0)), some (.aload_n 0, 1, (0, 0, 0, 0)), some (.getfield 82, 3, (1, 12, 11, 0)), none, none, some (.imul, 1, (0, 0, 0, 0)), some (.iconst 2, 1, (0, 0, 0, 0)), some (.iadd, 1, (0, 0, 0, 0)), some (.iconst 0, 1, (0, 0, 0, 0)), some (.iastore, 1, (0, 0, 0, 0)), some (.aload_n 0, 1, (0, 0, 0, 0)), some (.getfield 29, 3, (1, 12, 9, 1)), none, none, some (.iconst 5, 1, (0, 0, 0, 0)), some (.aload_n 0, 1, (0, 0, 0, 0)), some (.getfield 82, 3, (1, 12, 11, 0)), none, none, some (.imul, 1, (0, 0, 0, 0)), some (.iconst 3, 1, (0, 0, 0, 0)), some (.iadd, 1, (0, 0, 0, 0)), some (.iconst 0, 1, (0, 0, 0, 0)), some (.iastore, 1, (0, 0, 0, 0)), some (.aload_n 0, 1, (0, 0, 0, 0)), some (.getfield 29, 3, (1, 12, 9, 1)), none, none, some (.iconst 5, 1, (0, 0, 0, 0)), some (.aload_n 0, 1, (0, 0, 0, 0)), some (.getfield 82, 3, (1, 12, 11, 0)), none, none, some (.imul, 1, (0, 0, 0, 0)), some (.iconst 4, 1, (0, 0, 0, 0)), some (.iadd, 1, (0, 0, 0, 0)), some (.iconst (-1), 1, (0, 0, 0, 0)), some (.iastore, 1, (0, 0, 0, 0)), some (.iconst 0, 1, (0, 0, 0, 0)), some (.istore 4, 2, (0, 0, 0, 0)), none, some (.iload 4, 2, (0, 0, 0, 0)), none, some (.iconst 4, 1, (0, 0, 0, 0)), some (.if_icmp .ge 20, 3, (0, 0, 0, 0)), none, none, some (.aload_n 0, 1, (0, 0, 0, 0)), some (.aload_n 0, 1, (0, 0, 0, 0)), some (.getfield 82, 3, (1, 12, 11, 0)), none, none, some (.iload 4, 2, (0, 0, 0, 0)), none, some (.iconst 0, 1, (0, 0, 0, 0)), some (.invokevirtual 118, 3, (8, 199, 3, 12)), none, none, some (.iinc 4 1, 3, (0, 0, 0, 0)), none, none, some (.goto (-20), 3, (0, 0, 0, 0)), none, none, some (.aload_n 0, 1, (0, 0, 0, 0)), some (.dup, 1, (0, 0, 0, 0)), some (.getfield 82, 3, (1, 12, 11, 0)), none, none, some (.iconst 1, 1, (0, 0, 0, 0)), some (.iadd, 1, (0, 0, 0, 0)), some (.putfield 82, 3, (1, 12, 11, 0)), none, none, some (.aload_n 0, 1, (0, 0, 0, 0)), some (.getfield 82, 3, (1, 12, 11, 0)), none, none, some (.iconst 1, 1, (0, 0, 0, 0)), some (.isub, 1, (0, 0, 0, 0)), some (.ireturn, 1, (0, 0, 0, 0))]
def q_198 : ak_Q := (yX12_clerk, cX12_clerk, 5, (some .int), k_198, 12)
set_option maxRecDepth 100000 in
def k_199 : List ak_I := [some (.aload_n 0, 1, (0, 0, 0, 0)), some (.getfield 32, 3, (1, 12, 10, 1)), none, none, some (.iload_n 1, 1, (0, 0, 0, 0)), some (.aload_n 0, 1, (0, 0, 0, 0)), some (.getfield 32, 3, (1, 12, 10, 1)), none, none, some (.iload_n 1, 1, (0, 0, 0, 0)), some (.iaload, 1, (0, 0, 0, 0)), some (.iconst 1, 1, (0, 0, 0, 0)), some (.iload_n 2, 1, (0, 0, 0, 0)), some (.ishl, 1, (0, 0, 0, 0)), some (.iconst (-1), 1, (0, 0, 0, 0)), some (.ixor, 1, (0, 0, 0, 0)), some (.iand, 1, (0, 0, 0, 0)), some (.iload_n 3, 1, (0, 0, 0, 0)), some (.iload_n 2, 1, (0, 0, 0, 0)), some (.ishl, 1, (0, 0, 0, 0)), some (.ior, 1, (0, 0, 0, 0)), some (.iastore, 1, (0, 0, 0, 0)), some (.aload_n 0, 1, (0, 0, 0, 0)), some (.getfield 32, 3, (1, 12, 10, 1)), none, none, some (.iload_n 2, 1, (0, 0, 0, 0)), some (.aload_n 0, 1, (0, 0, 0, 0)), some (.getfield 32, 3, (1, 12, 10, 1)), none, none, some (.iload_n 2, 1, (0, 0, 0, 0)), some (.iaload, 1, (0, 0, 0, 0)), some (.iconst 1, 1, (0, 0, 0, 0)), some (.iload_n 1, 1, (0, 0, 0, 0)), some (.ishl, 1, (0, 0, 0, 0)), some (.iconst (-1), 1, (0, 0, 0, 0)), some (.ixor, 1, (0, 0, 0, 0)), some (.iand, 1, (0, 0, 0, 0)), some (.iload_n 3, 1, (0, 0, 0, 0)), some (.iload_n 1, 1, (0, 0, 0, 0)), some (.ishl, 1, (0, 0, 0, 0)), some (.ior, 1, (0, 0, 0, 0)), some (.iastore, 1, (0, 0, 0, 0)), some (.return_, 1, (0, 0, 0, 0))]
def q_199 : ak_Q := (yX12_parts, cX12_parts, 4, none, k_199, 12)
set_option maxRecDepth 100000 in
def k_200 : List ak_I := [some (.aload_n 0, 1, (0, 0, 0, 0)), some (.iload_n 1, 1, (0, 0, 0, 0)), some (.invokevirtual 93, 3, (8, 170, 1, 12)), none, none, some (.ifCond .eq 26, 3, (0, 0, 0, 0)), none, none, some (.aload_n 0, 1, (0, 0, 0, 0)), some (.iload_n 2, 1, (0, 0, 0, 0)), some (.invokevirtual 93, 3, (8, 170, 1, 12)), none, none, some (.ifCond .eq 18, 3, (0, 0, 0, 0)), none, none, some (.iload_n 1, 1, (0, 0, 0, 0)), some (.iload_n 2, 1, (0, 0, 0, 0)), some (.if_icmp .eq 13, 3, (0, 0, 0, 0)), none, none, some (.iload_n 3, 1, (0, 0, 0, 0)), some (.i2l, 1, (0, 0, 0, 0)), some (.lconst 0, 1, (0, 0, 0, 0)), some (.lconst 1, 1, (0, 0, 0, 0)), some (.invokestatic 85, 3, (11, 169, 3, 0)), none, none, some (.ifCond .ne 6, 3, (0, 0, 0, 0)), none, none, some (.bipush (-2), 2, (0, 0, 0, 0)), none, some (.ireturn, 1, (0, 0, 0, 0)), some (.aload_n 0, 1, (0, 0, 0, 0)), some (.getfield 32, 3, (1, 12, 10, 1)), none, none, some (.iload_n 1, 1, (0, 0, 0, 0)), some (.iaload, 1, (0, 0, 0, 0)), some (.iload_n 2, 1, (0, 0, 0, 0)), some (.ishr, 1, (0, 0, 0, 0)), some (.iconst 1, 1, (0, 0, 0, 0)), some (.iand, 1, (0, 0, 0, 0)), some (.istore 4, 2, (0, 0, 0, 0)), none, some (.aload_n 0, 1, (0, 0, 0, 0)), some (.iload_n 1, 1, (0, 0, 0, 0)), some (.iload_n 2, 1, (0, 0, 0, 0)), some (.iload_n 3, 1, (0, 0, 0, 0)), some (.invokevirtual 118, 3, (8, 199, 3, 12)), none, none, some (.iload 4, 2, (0, 0, 0, 0)), none, some (.ireturn, 1, (0, 0, 0, 0))]
def q_200 : ak_Q := (yX12_apart, cX12_apart, 5, (some .int), k_200, 12)
set_option maxRecDepth 100000 in
def k_201 : List ak_I := [some (.aload_n 0, 1, (0, 0, 0, 0)), some (.iload_n 1, 1, (0, 0, 0, 0)), some (.invokevirtual 93, 3, (8, 170, 1, 12)), none, none, some (.ifCond .eq 15, 3, (0, 0, 0, 0)), none, none, some (.iload_n 2, 1, (0, 0, 0, 0)), some (.iconst (-1), 1, (0, 0, 0, 0)), some (.if_icmp .eq 13, 3, (0, 0, 0, 0)), none, none, some (.iload_n 2, 1, (0, 0, 0, 0)), some (.invokestatic 121, 3, (11, 202, 1, 0)), none, none, some (.ifCond .ne 6, 3, (0, 0, 0, 0)), none, none, some (.bipush (-2), 2, (0, 0, 0, 0)), none, some (.ireturn, 1, (0, 0, 0, 0)), some (.aload_n 0, 1, (0, 0, 0, 0)), some (.iload_n 1, 1, (0, 0, 0, 0)), some (.iload_n 2, 1, (0, 0, 0, 0)), some (.invokevirtual 124, 3, (8, 203, 2, 12)), none, none, some (.ifCond .ne 6, 3, (0, 0, 0, 0)), none, none, some (.bipush (-3), 2, (0, 0, 0, 0)), none, some (.ireturn, 1, (0, 0, 0, 0)), some (.aload_n 0, 1, (0, 0, 0, 0)), some (.getfield 29, 3, (1, 12, 9, 1)), none, none, some (.iconst 5, 1, (0, 0, 0, 0)), some (.iload_n 1, 1, (0, 0, 0, 0)), some (.imul, 1, (0, 0, 0, 0)), some (.iconst 4, 1, (0, 0, 0, 0)), some (.iadd, 1, (0, 0, 0, 0)), some (.iaload, 1, (0, 0, 0, 0)), some (.istore_n 3, 1, (0, 0, 0, 0)), some (.aload_n 0, 1, (0, 0, 0, 0)), some (.getfield 29, 3, (1, 12, 9, 1)), none, none, some (.iconst 5, 1, (0, 0, 0, 0)), some (.iload_n 1, 1, (0, 0, 0, 0)), some (.imul, 1, (0, 0, 0, 0)), some (.iconst 4, 1, (0, 0, 0, 0)), some (.iadd, 1, (0, 0, 0, 0)), some (.iload_n 2, 1, (0, 0, 0, 0)), some (.iastore, 1, (0, 0, 0, 0)), some (.iload_n 3, 1, (0, 0, 0, 0)), some (.ireturn, 1, (0, 0, 0, 0))]
def q_201 : ak_Q := (yX12_book, cX12_book, 4, (some .int), k_201, 12)
set_option maxRecDepth 100000 in
def k_202 : List ak_I := [some (.iload_n 0, 1, (0, 0, 0, 0)), some (.i2l, 1, (0, 0, 0, 0)), some (.lconst 0, 1, (0, 0, 0, 0)), some (.ldc2_w 89, 3, (6, 0, 0, 7)), none, none, some (.invokestatic 85, 3, (11, 169, 3, 0)), none, none, some (.ireturn, 1, (0, 0, 0, 0))]
def q_202 : ak_Q := (yX12_isWeek, cX12_isWeek, 1, (some .boolean), k_202, 12)
set_option maxRecDepth 100000 in
def k_203 : List ak_I := [some (.iconst 0, 1, (0, 0, 0, 0)), some (.istore_n 3, 1, (0, 0, 0, 0)), some (.iload_n 3, 1, (0, 0, 0, 0)), some (.bipush 8, 2, (0, 0, 0, 0)), none, some (.if_icmp .ge 34, 3, (0, 0, 0, 0)), none, none, some (.aload_n 0, 1, (0, 0, 0, 0)), some (.iload_n 1, 1, (0, 0, 0, 0)), some (.iload_n 2, 1, (0, 0, 0, 0)), some (.invokevirtual 278, 3, (8, 195, 2, 12)), none, none, some (.iload_n 3, 1, (0, 0, 0, 0)), some (.ishr, 1, (0, 0, 0, 0)), some (.iconst 1, 1, (0, 0, 0, 0)), some (.iand, 1, (0, 0, 0, 0)), some (.iconst 1, 1, (0, 0, 0, 0)), some (.if_icmp .ne 14, 3, (0, 0, 0, 0)), none, none, some (.aload_n 0, 1, (0, 0, 0, 0)), some (.iload_n 1, 1, (0, 0, 0, 0)), some (.iload_n 3, 1, (0, 0, 0, 0)), some (.invokevirtual 141, 3, (8, 193, 2, 12)), none, none, some (.ifCond .ne 5, 3, (0, 0, 0, 0)), none, none, some (.iconst 0, 1, (0, 0, 0, 0)), some (.ireturn, 1, (0, 0, 0, 0)), some (.iinc 3 1, 3, (0, 0, 0, 0)), none, none, some (.goto (-34), 3, (0, 0, 0, 0)), none, none, some (.iconst 1, 1, (0, 0, 0, 0)), some (.ireturn, 1, (0, 0, 0, 0))]
def q_203 : ak_Q := (yX12_canBe, cX12_canBe, 4, (some .boolean), k_203, 12)
set_option maxRecDepth 100000 in
def k_204 : List ak_I := [some (.iload_n 1, 1, (0, 0, 0, 0)), some (.i2l, 1, (0, 0, 0, 0)), some (.lconst 0, 1, (0, 0, 0, 0)), some (.ldc2_w 150, 3, (6, 0, 0, 255)), none, none, some (.invokestatic 85, 3, (11, 169, 3, 0)), none, none, some (.ifCond .ne 6, 3, (0, 0, 0, 0)), none, none, some (.bipush (-2), 2, (0, 0, 0, 0)), none, some (.ireturn, 1, (0, 0, 0, 0)), some (.aload_n 0, 1, (0, 0, 0, 0)), some (.getfield 152, 3, (1, 12, 6, 0)), none, none, some (.sipush 160, 3, (0, 0, 0, 0)), none, none, some (.if_icmp .ne 6, 3, (0, 0, 0, 0)), none, none, some (.bipush (-4), 2, (0, 0, 0, 0)), none, some (.ireturn, 1, (0, 0, 0, 0)), some (.aload_n 0, 1, (0, 0, 0, 0)), some (.getfield 20, 3, (1, 12, 5, 1)), none, none, some (.aload_n 0, 1, (0, 0, 0, 0)), some (.getfield 152, 3, (1, 12, 6, 0)), none, none, some (.iload_n 1, 1, (0, 0, 0, 0)), some (.iastore, 1, (0, 0, 0, 0)), some (.aload_n 0, 1, (0, 0, 0, 0)), some (.dup, 1, (0, 0, 0, 0)), some (.getfield 152, 3, (1, 12, 6, 0)), none, none, some (.iconst 1, 1, (0, 0, 0, 0)), some (.iadd, 1, (0, 0, 0, 0)), some (.putfield 152, 3, (1, 12, 6, 0)), none, none, some (.aload_n 0, 1, (0, 0, 0, 0)), some (.getfield 152, 3, (1, 12, 6, 0)), none, none, some (.ireturn, 1, (0, 0, 0, 0))]
def q_204 : ak_Q := (yX12_feed, cX12_feed, 2, (some .int), k_204, 12)
set_option maxRecDepth 100000 in
def k_205 : List ak_I := [some (.aload_n 0, 1, (0, 0, 0, 0)), some (.getfield 79, 3, (1, 12, 3, 0)), none, none, some (.bipush 6, 2, (0, 0, 0, 0)), none, some (.if_icmp .ne 6, 3, (0, 0, 0, 0)), none, none, some (.bipush (-4), 2, (0, 0, 0, 0)), none, some (.ireturn, 1, (0, 0, 0, 0)), some (.iconst 0, 1, (0, 0, 0, 0)), some (.istore_n 1, 1, (0, 0, 0, 0)), some (.iload_n 1, 1, (0, 0, 0, 0)), some (.aload_n 0, 1, (0, 0, 0, 0)), some (.getfield 152, 3, (1, 12, 6, 0)), none, none, some (.if_icmp .ge 30, 3, (0, 0, 0, 0)), none, none, some (.aload_n 0, 1, (0, 0, 0, 0)), some (.getfield 13, 3, (1, 12, 1, 1)), none, none, some (.sipush 160, 3, (0, 0, 0, 0)), none, none, some (.aload_n 0, 1, (0, 0, 0, 0)), some (.getfield 79, 3, (1, 12, 3, 0)), none, none, some (.imul, 1, (0, 0, 0, 0)), some (.iload_n 1, 1, (0, 0, 0, 0)), some (.iadd, 1, (0, 0, 0, 0)), some (.aload_n 0, 1, (0, 0, 0, 0)), some (.getfield 20, 3, (1, 12, 5, 1)), none, none, some (.iload_n 1, 1, (0, 0, 0, 0)), some (.iaload, 1, (0, 0, 0, 0)), some (.iastore, 1, (0, 0, 0, 0)), some (.iinc 1 1, 3, (0, 0, 0, 0)), none, none, some (.goto (-32), 3, (0, 0, 0, 0)), none, none, some (.aload_n 0, 1, (0, 0, 0, 0)), some (.getfield 17, 3, (1, 12, 2, 1)), none, none, some (.aload_n 0, 1, (0, 0, 0, 0)), some (.getfield 79, 3, (1, 12, 3, 0)), none, none, some (.aload_n 0, 1, (0, 0, 0, 0)), some (.getfield 152, 3, (1, 12, 6, 0)), none, none, some (.iastore, 1, (0, 0, 0, 0)), some (.aload_n 0, 1, (0, 0, 0, 0)), some (.iconst 0, 1, (0, 0, 0, 0)), some (.putfield 152, 3, (1, 12, 6, 0)), none, none, some (.aload_n 0, 1, (0, 0, 0, 0)), some (.aload_n 0, 1, (0, 0, 0, 0)), some (.getfield 79, 3, (1, 12, 3, 0)), none, none, some (.iconst 0, 1, (0, 0, 0, 0)), some (.invokevirtual 263, 3, (8, 176, 2, 12)), none, none, some (.istore_n 1, 1, (0, 0, 0, 0)), some (.aload_n 0, 1, (0, 0, 0, 0)), some (.getfield 185, 3, (1, 12, 25, 0)), none, none, some (.ifCond .eq 11, 3, (0, 0, 0, 0)), none, none, some (.bipush (-100), 2, (0, 0, 0, 0)), none, some (.aload_n 0, 1, (0, 0, 0, 0)), some (.getfield 189, 3, (1, 12, 26, 0)), none, none, some (.isub, 1, (0, 0, 0, 0)), some (.ireturn, 1, (0, 0, 0, 0)), some (.aload_n 0, 1, (0, 0, 0, 0)), some (.dup, 1, (0, 0, 0, 0)), some (.getfield 79, 3, (1, 12, 3, 0)), none, none, some (.iconst 1, 1, (0, 0, 0, 0)), some (.iadd, 1, (0, 0, 0, 0)), some (.putfield 79, 3, (1, 12, 3, 0)), none, none, some (.aload_n 0, 1, (0, 0, 0, 0)), some (.getfield 79, 3, (1, 12, 3, 0)), none, none, some (.iconst 1, 1, (0, 0, 0, 0)), some (.isub, 1, (0, 0, 0, 0)), some (.ireturn, 1, (0, 0, 0, 0))]
def q_205 : ak_Q := (yX12_text, cX12_text, 2, (some .int), k_205, 12)
set_option maxRecDepth 100000 in
def k_206 : List ak_I := [some (.iload_n 1, 1, (0, 0, 0, 0)), some (.i2l, 1, (0, 0, 0, 0)), some (.lconst 0, 1, (0, 0, 0, 0)), some (.aload_n 0, 1, (0, 0, 0, 0)), some (.getfield 79, 3, (1, 12, 3, 0)), none, none, some (.iconst 1, 1, (0, 0, 0, 0)), some (.isub, 1, (0, 0, 0, 0)), some (.i2l, 1, (0, 0, 0, 0)), some (.invokestatic 85, 3, (11, 169, 3, 0)), none, none, some (.ifCond .ne 6, 3, (0, 0, 0, 0)), none, none, some (.bipush (-2), 2, (0, 0, 0, 0)), none, some (.ireturn, 1, (0, 0, 0, 0)), some (.aload_n 0, 1, (0, 0, 0, 0)), some (.getfield 109, 3, (1, 12, 4, 0)), none, none, some (.istore_n 2, 1, (0, 0, 0, 0)), some (.aload_n 0, 1, (0, 0, 0, 0)), some (.iload_n 1, 1, (0, 0, 0, 0)), some (.putfield 109, 3, (1, 12, 4, 0)), none, none, some (.iload_n 2, 1, (0, 0, 0, 0)), some (.ireturn, 1, (0, 0, 0, 0))]
def q_206 : ak_Q := (yX12_force, cX12_force, 3, (some .int), k_206, 12)
set_option maxRecDepth 100000 in
def k_207 : List ak_I := [some (.iload_n 1, 1, (0, 0, 0, 0)), some (.i2l, 1, (0, 0, 0, 0)), some (.lconst 0, 1, (0, 0, 0, 0)), some (.ldc2_w 293, 3, (6, 0, 0, 2)), none, none, some (.invokestatic 85, 3, (11, 169, 3, 0)), none, none, some (.ifCond .ne 21, 3, (0, 0, 0, 0)), none, none, some (.iload_n 1, 1, (0, 0, 0, 0)), some (.i2l, 1, (0, 0, 0, 0)), some (.ldc2_w 136, 3, (6, 0, 0, 10)), none, none, some (.ldc2_w 295, 3, (6, 0, 0, 17)), none, none, some (.invokestatic 85, 3, (11, 169, 3, 0)), none, none, some (.ifCond .ne 7, 3, (0, 0, 0, 0)), none, none, some (.ldc_w 297, 3, (4, 0, 0, -100000)), none, none, some (.ireturn, 1, (0, 0, 0, 0)), some (.aload_n 0, 1, (0, 0, 0, 0)), some (.invokevirtual 298, 3, (8, 208, 0, 12)), none, none, some (.aload_n 0, 1, (0, 0, 0, 0)), some (.invokevirtual 301, 3, (8, 209, 0, 12)), none, none, some (.iload_n 1, 1, (0, 0, 0, 0)), some (.ifCond .ne 18, 3, (0, 0, 0, 0)), none, none, some (.aload_n 0, 1, (0, 0, 0, 0)), some (.invokevirtual 304, 3, (8, 210, 0, 12)), none, none, some (.ifCond .eq 7, 3, (0, 0, 0, 0)), none, none, some (.iconst 1, 1, (0, 0, 0, 0)), some (.goto 39, 3, (0, 0, 0, 0)), none, none, some (.iconst 0, 1, (0, 0, 0, 0)), some (.goto 35, 3, (0, 0, 0, 0)), none, none, some (.iload_n 1, 1, (0, 0, 0, 0)), some (.iconst 1, 1, (0, 0, 0, 0)), some (.if_icmp .ne 10, 3, (0, 0, 0, 0)), none, none, some (.aload_n 0, 1, (0, 0, 0, 0)), some (.invokevirtual 307, 3, (8, 215, 0, 12)), none, none, some (.goto 23, 3, (0, 0, 0, 0)), none, none, some (.iload_n 1, 1, (0, 0, 0, 0)), some (.iconst 2, 1, (0, 0, 0, 0)), some (.if_icmp .ne 10, 3, (0, 0, 0, 0)), none, none, some (.aload_n 0, 1, (0, 0, 0, 0)), some (.invokevirtual 290, 3, (8, 211, 0, 12)), none, none, some (.goto 11, 3, (0, 0, 0, 0)), none, none, some (.aload_n 0, 1, (0, 0, 0, 0)), some (.iload_n 1, 1, (0, 0, 0, 0)), some (.bipush 10, 2, (0, 0, 0, 0)), none, some (.isub, 1, (0, 0, 0, 0)), some (.invokevirtual 281, 3, (8, 213, 1, 12)), none, none, some (.ireturn, 1, (0, 0, 0, 0))]
def q_207 : ak_Q := (yX12_plan, cX12_plan, 2, (some .int), k_207, 12)
set_option maxRecDepth 100000 in
def k_208 : List ak_I := [some (.iconst 0, 1, (0, 0, 0, 0)), some (.istore_n 1, 1, (0, 0, 0, 0)), some (.iload_n 1, 1, (0, 0, 0, 0)), some (.aload_n 0, 1, (0, 0, 0, 0)), some (.getfield 82, 3, (1, 12, 11, 0)), none, none, some (.if_icmp .ge 80, 3, (0, 0, 0, 0)), none, none, some (.iconst 0, 1, (0, 0, 0, 0)), some (.istore_n 2, 1, (0, 0, 0, 0)), some (.iload_n 2, 1, (0, 0, 0, 0)), some (.bipush 8, 2, (0, 0, 0, 0)), none, some (.if_icmp .gt 66, 3, (0, 0, 0, 0)), none, none, some (.aload_n 0, 1, (0, 0, 0, 0)), some (.getfield 35, 3, (1, 12, 27, 1)), none, none, some (.bipush 9, 2, (0, 0, 0, 0)), none, some (.iload_n 1, 1, (0, 0, 0, 0)), some (.imul, 1, (0, 0, 0, 0)), some (.iload_n 2, 1, (0, 0, 0, 0)), some (.iadd, 1, (0, 0, 0, 0)), some (.aload_n 0, 1, (0, 0, 0, 0)), some (.iload_n 1, 1, (0, 0, 0, 0)), some (.iload_n 2, 1, (0, 0, 0, 0)), some (.iconst 1, 1, (0, 0, 0, 0)), some (.isub, 1, (0, 0, 0, 0)), some (.invokevirtual 124, 3, (8, 203, 2, 12)), none, none, some (.bastore, 1, (0, 0, 0, 0)), some (.aload_n 0, 1, (0, 0, 0, 0)), some (.getfield 39, 3, (1, 12, 28, 1)), none, none, some (.bipush 9, 2, (0, 0, 0, 0)), none, some (.iload_n 1, 1, (0, 0, 0, 0)), some (.imul, 1, (0, 0, 0, 0)), some (.iload_n 2, 1, (0, 0, 0, 0)), some (.iadd, 1, (0, 0, 0, 0)), some (.aload_n 0, 1, (0, 0, 0, 0)), some (.iload_n 1, 1, (0, 0, 0, 0)), some (.iload_n 2, 1, (0, 0, 0, 0)), some (.iconst 1, 1, (0, 0, 0, 0)), some (.isub, 1, (0, 0, 0, 0)), some (.invokevirtual 144, 3, (8, 194, 2, 12)), none, none, some (.iastore, 1, (0, 0, 0, 0)), some (.aload_n 0, 1, (0, 0, 0, 0)), some (.getfield 42, 3, (1, 12, 29, 1)), none, none, some (.bipush 9, 2, (0, 0, 0, 0)), none, some (.iload_n 1, 1, (0, 0, 0, 0)), some (.imul, 1, (0, 0, 0, 0)), some (.iload_n 2, 1, (0, 0, 0, 0)), some (.iadd, 1, (0, 0, 0, 0)), some (.aload_n 0, 1, (0, 0, 0, 0)), some (.iload_n 1, 1, (0, 0, 0, 0)), some (.iload_n 2, 1, (0, 0, 0, 0)), some (.iconst 1, 1, (0, 0, 0, 0)), some (.isub, 1, (0, 0, 0, 0)), some (.invokevirtual 278, 3, (8, 195, 2, 12)), none, none, some (.iastore, 1, (0, 0, 0, 0)), some (.iinc 2 1, 3, (0, 0, 0, 0)), none, none, some (.goto (-66), 3, (0, 0, 0, 0)), none, none, some (.iinc 1 1, 3, (0, 0, 0, 0)), none, none, some (.goto (-82), 3, (0, 0, 0, 0)), none, none, some (.return_, 1, (0, 0, 0, 0))]
def q_208 : ak_Q := (yX12_tables, cX12_tables, 3, none, k_208, 12)
set_option maxRecDepth 100000 in
def k_209 : List ak_I := [some (.iconst 0, 1, (0, 0, 0, 0)), some (.istore_n 1, 1, (0, 0, 0, 0)), some (.iload_n 1, 1, (0, 0, 0, 0)), some (.aload_n 0, 1, (0, 0, 0, 0)), some (.getfield 82, 3, (1, 12, 11, 0)), none, none, some (.if_icmp .ge 27, 3, (0, 0, 0, 0)), none, none, some (.aload_n 0, 1, (0, 0, 0, 0)), some (.getfield 45, 3, (1, 12, 30, 1)), none, none, some (.iload_n 1, 1, (0, 0, 0, 0)), some (.aload_n 0, 1, (0, 0, 0, 0)), some (.getfield 29, 3, (1, 12, 9, 1)), none, none, some (.iconst 5, 1, (0, 0, 0, 0)), some (.iload_n 1, 1, (0, 0, 0, 0)), some (.imul, 1, (0, 0, 0, 0)), some (.iconst 4, 1, (0, 0, 0, 0)), some (.iadd, 1, (0, 0, 0, 0)), some (.iaload, 1, (0, 0, 0, 0)), some (.iconst 1, 1, (0, 0, 0, 0)), some (.iadd, 1, (0, 0, 0, 0)), some (.iastore, 1, (0, 0, 0, 0)), some (.iinc 1 1, 3, (0, 0, 0, 0)), none, none, some (.goto (-29), 3, (0, 0, 0, 0)), none, none, some (.return_, 1, (0, 0, 0, 0))]
def q_209 : ak_Q := (yX12_booked, cX12_booked, 2, none, k_209, 12)
set_option maxRecDepth 100000 in
def k_210 : List ak_I := [some (.iconst 0, 1, (0, 0, 0, 0)), some (.istore_n 1, 1, (0, 0, 0, 0)), some (.iload_n 1, 1, (0, 0, 0, 0)), some (.aload_n 0, 1, (0, 0, 0, 0)), some (.getfield 82, 3, (1, 12, 11, 0)), none, none, some (.if_icmp .ge 30, 3, (0, 0, 0, 0)), none, none, some (.aload_n 0, 1, (0, 0, 0, 0)), some (.getfield 35, 3, (1, 12, 27, 1)), none, none, some (.bipush 9, 2, (0, 0, 0, 0)), none, some (.iload_n 1, 1, (0, 0, 0, 0)), some (.imul, 1, (0, 0, 0, 0)), some (.aload_n 0, 1, (0, 0, 0, 0)), some (.getfield 45, 3, (1, 12, 30, 1)), none, none, some (.iload_n 1, 1, (0, 0, 0, 0)), some (.iaload, 1, (0, 0, 0, 0)), some (.iadd, 1, (0, 0, 0, 0)), some (.baload, 1, (0, 0, 0, 0)), some (.ifCond .ne 5, 3, (0, 0, 0, 0)), none, none, some (.iconst 0, 1, (0, 0, 0, 0)), some (.ireturn, 1, (0, 0, 0, 0)), some (.iinc 1 1, 3, (0, 0, 0, 0)), none, none, some (.goto (-32), 3, (0, 0, 0, 0)), none, none, some (.aload_n 0, 1, (0, 0, 0, 0)), some (.invokevirtual 290, 3, (8, 211, 0, 12)), none, none, some (.iconst (-1), 1, (0, 0, 0, 0)), some (.if_icmp .ne 7, 3, (0, 0, 0, 0)), none, none, some (.iconst 1, 1, (0, 0, 0, 0)), some (.goto 4, 3, (0, 0, 0, 0)), none, none, some (.iconst 0, 1, (0, 0, 0, 0)), some (.ireturn, 1, (0, 0, 0, 0))]
def q_210 : ak_Q := (yX12_holds, cX12_holds, 2, (some .boolean), k_210, 12)
set_option maxRecDepth 100000 in
def k_211 : List ak_I := [some (.iconst 0, 1, (0, 0, 0, 0)), some (.istore_n 1, 1, (0, 0, 0, 0)), some (.iload_n 1, 1, (0, 0, 0, 0)), some (.bipush 8, 2, (0, 0, 0, 0)), none, some (.if_icmp .ge 19, 3, (0, 0, 0, 0)), none, none, some (.aload_n 0, 1, (0, 0, 0, 0)), some (.iload_n 1, 1, (0, 0, 0, 0)), some (.invokevirtual 287, 3, (8, 212, 1, 12)), none, none, some (.ifCond .ne 5, 3, (0, 0, 0, 0)), none, none, some (.iload_n 1, 1, (0, 0, 0, 0)), some (.ireturn, 1, (0, 0, 0, 0)), some (.iinc 1 1, 3, (0, 0, 0, 0)), none, none, some (.goto (-19), 3, (0, 0, 0, 0)), none, none, some (.iconst (-1), 1, (0, 0, 0, 0)), some (.ireturn, 1, (0, 0, 0, 0))]
def q_211 : ak_Q := (yX12_firstWrong, cX12_firstWrong, 2, (some .int), k_211, 12)
set_option maxRecDepth 100000 in
def k_212 : List ak_I := [some (.aload_n 0, 1, (0, 0, 0, 0)), some (.iload_n 1, 1, (0, 0, 0, 0)), some (.invokevirtual 281, 3, (8, 213, 1, 12)), none, none, some (.istore_n 2, 1, (0, 0, 0, 0)), some (.iconst 1, 1, (0, 0, 0, 0)), some (.aload_n 0, 1, (0, 0, 0, 0)), some (.getfield 82, 3, (1, 12, 11, 0)), none, none, some (.ishl, 1, (0, 0, 0, 0)), some (.iconst 1, 1, (0, 0, 0, 0)), some (.isub, 1, (0, 0, 0, 0)), some (.istore_n 3, 1, (0, 0, 0, 0)), some (.iconst 0, 1, (0, 0, 0, 0)), some (.istore 4, 2, (0, 0, 0, 0)), none, some (.iload 4, 2, (0, 0, 0, 0)), none, some (.aload_n 0, 1, (0, 0, 0, 0)), some (.getfield 82, 3, (1, 12, 11, 0)), none, none, some (.if_icmp .ge 33, 3, (0, 0, 0, 0)), none, none, some (.iload_n 2, 1, (0, 0, 0, 0)), some (.iload 4, 2, (0, 0, 0, 0)), none, some (.ishr, 1, (0, 0, 0, 0)), some (.iconst 1, 1, (0, 0, 0, 0)), some (.iand, 1, (0, 0, 0, 0)), some (.iconst 1, 1, (0, 0, 0, 0)), some (.if_icmp .ne 17, 3, (0, 0, 0, 0)), none, none, some (.aload_n 0, 1, (0, 0, 0, 0)), some (.getfield 32, 3, (1, 12, 10, 1)), none, none, some (.iload 4, 2, (0, 0, 0, 0)), none, some (.iaload, 1, (0, 0, 0, 0)), some (.iload_n 2, 1, (0, 0, 0, 0)), some (.iand, 1, (0, 0, 0, 0)), some (.ifCond .eq 5, 3, (0, 0, 0, 0)), none, none, some (.iconst 0, 1, (0, 0, 0, 0)), some (.ireturn, 1, (0, 0, 0, 0)), some (.iinc 4 1, 3, (0, 0, 0, 0)), none, none, some (.goto (-36), 3, (0, 0, 0, 0)), none, none, some (.aload_n 0, 1, (0, 0, 0, 0)), some (.getfield 23, 3, (1, 12, 7, 1)), none, none, some (.iconst 1, 1, (0, 0, 0, 0)), some (.iaload, 1, (0, 0, 0, 0)), some (.aload_n 0, 1, (0, 0, 0, 0)), some (.getfield 82, 3, (1, 12, 11, 0)), none, none, some (.if_icmp .ge 12, 3, (0, 0, 0, 0)), none, none, some (.aload_n 0, 1, (0, 0, 0, 0)), some (.getfield 23, 3, (1, 12, 7, 1)), none, none, some (.iconst 1, 1, (0, 0, 0, 0)), some (.iaload, 1, (0, 0, 0, 0)), some (.goto 7, 3, (0, 0, 0, 0)), none, none, some (.aload_n 0, 1, (0, 0, 0, 0)), some (.getfield 82, 3, (1, 12, 11, 0)), none, none, some (.istore 4, 2, (0, 0, 0, 0)), none, some (.aload_n 0, 1, (0, 0, 0, 0)), some (.getfield 23, 3, (1, 12, 7, 1)), none, none, some (.iconst 2, 1, (0, 0, 0, 0)), some (.iaload, 1, (0, 0, 0, 0)), some (.iload_n 3, 1, (0, 0, 0, 0)), some (.iand, 1, (0, 0, 0, 0)), some (.istore 5, 2, (0, 0, 0, 0)), none, some (.aload_n 0, 1, (0, 0, 0, 0)), some (.getfield 82, 3, (1, 12, 11, 0)), none, none, some (.iload_n 2, 1, (0, 0, 0, 0)), some (.invokestatic 284, 3, (11, 214, 1, 0)), none, none, some (.isub, 1, (0, 0, 0, 0)), some (.iload 4, 2, (0, 0, 0, 0)), none, some (.if_icmp .lt 21, 3, (0, 0, 0, 0)), none, none, some (.iload 5, 2, (0, 0, 0, 0)), none, some (.ifCond .eq 12, 3, (0, 0, 0, 0)), none, none, some (.iload 5, 2, (0, 0, 0, 0)), none, some (.iload_n 2, 1, (0, 0, 0, 0)), some (.iconst (-1), 1, (0, 0, 0, 0)), some (.ixor, 1, (0, 0, 0, 0)), some (.iand, 1, (0, 0, 0, 0)), some (.ifCond .eq 7, 3, (0, 0, 0, 0)), none, none, some (.iconst 1, 1, (0, 0, 0, 0)), some (.goto 4, 3, (0, 0, 0, 0)), none, none, some (.iconst 0, 1, (0, 0, 0, 0)), some (.ireturn, 1, (0, 0, 0, 0))]
def q_212 : ak_Q := (yX12_isRight, cX12_isRight, 6, (some .boolean), k_212, 12)
set_option maxRecDepth 100000 in
def k_213 : List ak_I := [some (.iconst 0, 1, (0, 0, 0, 0)), some (.istore_n 2, 1, (0, 0, 0, 0)), some (.iconst 0, 1, (0, 0, 0, 0)), some (.istore_n 3, 1, (0, 0, 0, 0)), some (.iload_n 3, 1, (0, 0, 0, 0)), some (.aload_n 0, 1, (0, 0, 0, 0)), some (.getfield 82, 3, (1, 12, 11, 0)), none, none, some (.if_icmp .ge 34, 3, (0, 0, 0, 0)), none, none, some (.iload_n 2, 1, (0, 0, 0, 0)), some (.aload_n 0, 1, (0, 0, 0, 0)), some (.getfield 42, 3, (1, 12, 29, 1)), none, none, some (.bipush 9, 2, (0, 0, 0, 0)), none, some (.iload_n 3, 1, (0, 0, 0, 0)), some (.imul, 1, (0, 0, 0, 0)), some (.aload_n 0, 1, (0, 0, 0, 0)), some (.getfield 45, 3, (1, 12, 30, 1)), none, none, some (.iload_n 3, 1, (0, 0, 0, 0)), some (.iaload, 1, (0, 0, 0, 0)), some (.iadd, 1, (0, 0, 0, 0)), some (.iaload, 1, (0, 0, 0, 0)), some (.iload_n 1, 1, (0, 0, 0, 0)), some (.ishr, 1, (0, 0, 0, 0)), some (.iconst 1, 1, (0, 0, 0, 0)), some (.iand, 1, (0, 0, 0, 0)), some (.iload_n 3, 1, (0, 0, 0, 0)), some (.ishl, 1, (0, 0, 0, 0)), some (.ior, 1, (0, 0, 0, 0)), some (.istore_n 2, 1, (0, 0, 0, 0)), some (.iinc 3 1, 3, (0, 0, 0, 0)), none, none, some (.goto (-36), 3, (0, 0, 0, 0)), none, none, some (.iload_n 2, 1, (0, 0, 0, 0)), some (.ireturn, 1, (0, 0, 0, 0))]
def q_213 : ak_Q := (yX12_awayIn, cX12_awayIn, 4, (some .int), k_213, 12)
set_option maxRecDepth 100000 in
def k_214 : List ak_I := [some (.iconst 0, 1, (0, 0, 0, 0)), some (.istore_n 1, 1, (0, 0, 0, 0)), some (.iload_n 0, 1, (0, 0, 0, 0)), some (.istore_n 2, 1, (0, 0, 0, 0)), some (.iload_n 2, 1, (0, 0, 0, 0)), some (.ifCond .eq 15, 3, (0, 0, 0, 0)), none, none, some (.iinc 1 1, 3, (0, 0, 0, 0)), none, none, some (.iload_n 2, 1, (0, 0, 0, 0)), some (.iload_n 2, 1, (0, 0, 0, 0)), some (.iconst 1, 1, (0, 0, 0, 0)), some (.isub, 1, (0, 0, 0, 0)), some (.iand, 1, (0, 0, 0, 0)), some (.istore_n 2, 1, (0, 0, 0, 0)), some (.goto (-13), 3, (0, 0, 0, 0)), none, none, some (.iload_n 1, 1, (0, 0, 0, 0)), some (.ireturn, 1, (0, 0, 0, 0))]
def q_214 : ak_Q := (yX12_bitsOf, cX12_bitsOf, 3, (some .int), k_214, 12)
set_option maxRecDepth 100000 in
def k_215 : List ak_I := [some (.iconst 0, 1, (0, 0, 0, 0)), some (.istore_n 1, 1, (0, 0, 0, 0)), some (.iconst 0, 1, (0, 0, 0, 0)), some (.istore_n 2, 1, (0, 0, 0, 0)), some (.iload_n 2, 1, (0, 0, 0, 0)), some (.aload_n 0, 1, (0, 0, 0, 0)), some (.getfield 82, 3, (1, 12, 11, 0)), none, none, some (.if_icmp .ge 28, 3, (0, 0, 0, 0)), none, none, some (.iload_n 1, 1, (0, 0, 0, 0)), some (.aload_n 0, 1, (0, 0, 0, 0)), some (.getfield 39, 3, (1, 12, 28, 1)), none, none, some (.bipush 9, 2, (0, 0, 0, 0)), none, some (.iload_n 2, 1, (0, 0, 0, 0)), some (.imul, 1, (0, 0, 0, 0)), some (.aload_n 0, 1, (0, 0, 0, 0)), some (.getfield 45, 3, (1, 12, 30, 1)), none, none, some (.iload_n 2, 1, (0, 0, 0, 0)), some (.iaload, 1, (0, 0, 0, 0)), some (.iadd, 1, (0, 0, 0, 0)), some (.iaload, 1, (0, 0, 0, 0)), some (.iadd, 1, (0, 0, 0, 0)), some (.istore_n 1, 1, (0, 0, 0, 0)), some (.iinc 2 1, 3, (0, 0, 0, 0)), none, none, some (.goto (-30), 3, (0, 0, 0, 0)), none, none, some (.iload_n 1, 1, (0, 0, 0, 0)), some (.ireturn, 1, (0, 0, 0, 0))]
def q_215 : ak_Q := (yX12_allOf, cX12_allOf, 3, (some .int), k_215, 12)
set_option maxRecDepth 100000 in
def k_216 : List ak_I := [some (.aload_n 0, 1, (0, 0, 0, 0)), some (.getfield 23, 3, (1, 12, 7, 1)), none, none, some (.iconst 0, 1, (0, 0, 0, 0)), some (.iaload, 1, (0, 0, 0, 0)), some (.sipush 999, 3, (0, 0, 0, 0)), none, none, some (.if_icmp .ne 6, 3, (0, 0, 0, 0)), none, none, some (.bipush (-3), 2, (0, 0, 0, 0)), none, some (.ireturn, 1, (0, 0, 0, 0)), some (.iconst 0, 1, (0, 0, 0, 0)), some (.istore_n 1, 1, (0, 0, 0, 0)), some (.iconst 0, 1, (0, 0, 0, 0)), some (.istore_n 2, 1, (0, 0, 0, 0)), some (.iload_n 2, 1, (0, 0, 0, 0)), some (.aload_n 0, 1, (0, 0, 0, 0)), some (.getfield 82, 3, (1, 12, 11, 0)), none, none, some (.if_icmp .ge 55, 3, (0, 0, 0, 0)), none, none, some (.aload_n 0, 1, (0, 0, 0, 0)), some (.getfield 29, 3, (1, 12, 9, 1)), none, none, some (.iconst 5, 1, (0, 0, 0, 0)), some (.iload_n 2, 1, (0, 0, 0, 0)), some (.imul, 1, (0, 0, 0, 0)), some (.iconst 3, 1, (0, 0, 0, 0)), some (.iadd, 1, (0, 0, 0, 0)), some (.aload_n 0, 1, (0, 0, 0, 0)), some (.getfield 29, 3, (1, 12, 9, 1)), none, none, some (.iconst 5, 1, (0, 0, 0, 0)), some (.iload_n 2, 1, (0, 0, 0, 0)), some (.imul, 1, (0, 0, 0, 0)), some (.iconst 3, 1, (0, 0, 0, 0)), some (.iadd, 1, (0, 0, 0, 0)), some (.iaload, 1, (0, 0, 0, 0)), some (.aload_n 0, 1, (0, 0, 0, 0)), some (.iload_n 2, 1, (0, 0, 0, 0)), some (.invokevirtual 147, 3, (8, 196, 1, 12)), none, none, some (.iadd, 1, (0, 0, 0, 0)), some (.iconst 0, 1, (0, 0, 0, 0)), some (.sipush 999, 3, (0, 0, 0, 0)), none, none, some (.invokestatic 269, 3, (11, 192, 3, 0)), none, none, some (.iastore, 1, (0, 0, 0, 0)), some (.iload_n 1, 1, (0, 0, 0, 0)), some (.aload_n 0, 1, (0, 0, 0, 0)), some (.getfield 29, 3, (1, 12, 9, 1)), none, none, some (.iconst 5, 1, (0, 0, 0, 0)), some (.iload_n 2, 1, (0, 0, 0, 0)), some (.imul, 1, (0, 0, 0, 0)), some (.iconst 3, 1, (0, 0, 0, 0)), some (.iadd, 1, (0, 0, 0, 0)), some (.iaload, 1, (0, 0, 0, 0)), some (.iadd, 1, (0, 0, 0, 0)), some (.istore_n 1, 1, (0, 0, 0, 0)), some (.iinc 2 1, 3, (0, 0, 0, 0)), none, none, some (.goto (-57), 3, (0, 0, 0, 0)), none, none, some (.iconst 0, 1, (0, 0, 0, 0)), some (.istore_n 2, 1, (0, 0, 0, 0)), some (.iload_n 2, 1, (0, 0, 0, 0)), some (.aload_n 0, 1, (0, 0, 0, 0)), some (.getfield 82, 3, (1, 12, 11, 0)), none, none, some (.if_icmp .ge 20, 3, (0, 0, 0, 0)), none, none, some (.aload_n 0, 1, (0, 0, 0, 0)), some (.getfield 29, 3, (1, 12, 9, 1)), none, none, some (.iconst 5, 1, (0, 0, 0, 0)), some (.iload_n 2, 1, (0, 0, 0, 0)), some (.imul, 1, (0, 0, 0, 0)), some (.iconst 4, 1, (0, 0, 0, 0)), some (.iadd, 1, (0, 0, 0, 0)), some (.iconst (-1), 1, (0, 0, 0, 0)), some (.iastore, 1, (0, 0, 0, 0)), some (.iinc 2 1, 3, (0, 0, 0, 0)), none, none, some (.goto (-22), 3, (0, 0, 0, 0)), none, none, some (.aload_n 0, 1, (0, 0, 0, 0)), some (.getfield 23, 3, (1, 12, 7, 1)), none, none, some (.iconst 0, 1, (0, 0, 0, 0)), some (.dup2, 1, (0, 0, 0, 0)), some (.iaload, 1, (0, 0, 0, 0)), some (.iconst 1, 1, (0, 0, 0, 0)), some (.iadd, 1, (0, 0, 0, 0)), some (.iastore, 1, (0, 0, 0, 0)), some (.iload_n 1, 1, (0, 0, 0, 0)), some (.ireturn, 1, (0, 0, 0, 0))]
def q_216 : ak_Q := (yX12_year, cX12_year, 3, (some .int), k_216, 12)
set_option maxRecDepth 100000 in
def k_217 : List ak_I := [some (.iload_n 1, 1, (0, 0, 0, 0)), some (.i2l, 1, (0, 0, 0, 0)), some (.lconst 0, 1, (0, 0, 0, 0)), some (.ldc2_w 276, 3, (6, 0, 0, 3)), none, none, some (.invokestatic 85, 3, (11, 169, 3, 0)), none, none, some (.ifCond .ne 7, 3, (0, 0, 0, 0)), none, none, some (.ldc_w 297, 3, (4, 0, 0, -100000)), none, none, some (.ireturn, 1, (0, 0, 0, 0)), some (.aload_n 0, 1, (0, 0, 0, 0)), some (.invokevirtual 298, 3, (8, 208, 0, 12)), none, none, some (.aload_n 0, 1, (0, 0, 0, 0)), some (.iconst 0, 1, (0, 0, 0, 0)), some (.putfield 313, 3, (1, 12, 31, 0)), none, none, some (.aload_n 0, 1, (0, 0, 0, 0)), some (.iconst 0, 1, (0, 0, 0, 0)), some (.iload_n 1, 1, (0, 0, 0, 0)), some (.iconst 1, 1, (0, 0, 0, 0)), some (.if_icmp .le 7, 3, (0, 0, 0, 0)), none, none, some (.iconst 1, 1, (0, 0, 0, 0)), some (.goto 4, 3, (0, 0, 0, 0)), none, none, some (.iconst 0, 1, (0, 0, 0, 0)), some (.invokevirtual 325, 3, (8, 218, 2, 12)), none, none, some (.iload_n 1, 1, (0, 0, 0, 0)), some (.iconst 2, 1, (0, 0, 0, 0)), some (.irem, 1, (0, 0, 0, 0)), some (.ifCond .ne 10, 3, (0, 0, 0, 0)), none, none, some (.aload_n 0, 1, (0, 0, 0, 0)), some (.getfield 322, 3, (1, 12, 32, 0)), none, none, some (.goto 7, 3, (0, 0, 0, 0)), none, none, some (.aload_n 0, 1, (0, 0, 0, 0)), some (.getfield 316, 3, (1, 12, 33, 0)), none, none, some (.ireturn, 1, (0, 0, 0, 0))]
def q_217 : ak_Q := (yX12_best, cX12_best, 2, (some .int), k_217, 12)
set_option maxRecDepth 100000 in
def k_218 : List ak_I := [some (.iload_n 1, 1, (0, 0, 0, 0)), some (.aload_n 0, 1, (0, 0, 0, 0)), some (.getfield 82, 3, (1, 12, 11, 0)), none, none, some (.if_icmp .ne 60, 3, (0, 0, 0, 0)), none, none, some (.iload_n 2, 1, (0, 0, 0, 0)), some (.ifCond .eq 10, 3, (0, 0, 0, 0)), none, none, some (.aload_n 0, 1, (0, 0, 0, 0)), some (.invokevirtual 310, 3, (8, 219, 0, 12)), none, none, some (.goto 7, 3, (0, 0, 0, 0)), none, none, some (.aload_n 0, 1, (0, 0, 0, 0)), some (.invokevirtual 307, 3, (8, 215, 0, 12)), none, none, some (.istore_n 3, 1, (0, 0, 0, 0)), some (.aload_n 0, 1, (0, 0, 0, 0)), some (.invokevirtual 304, 3, (8, 210, 0, 12)), none, none, some (.ifCond .eq 36, 3, (0, 0, 0, 0)), none, none, some (.aload_n 0, 1, (0, 0, 0, 0)), some (.getfield 313, 3, (1, 12, 31, 0)), none, none, some (.ifCond .eq 11, 3, (0, 0, 0, 0)), none, none, some (.iload_n 3, 1, (0, 0, 0, 0)), some (.aload_n 0, 1, (0, 0, 0, 0)), some (.getfield 316, 3, (1, 12, 33, 0)), none, none, some (.if_icmp .le 21, 3, (0, 0, 0, 0)), none, none, some (.aload_n 0, 1, (0, 0, 0, 0)), some (.iconst 1, 1, (0, 0, 0, 0)), some (.putfield 313, 3, (1, 12, 31, 0)), none, none, some (.aload_n 0, 1, (0, 0, 0, 0)), some (.aload_n 0, 1, (0, 0, 0, 0)), some (.invokevirtual 319, 3, (8, 220, 0, 12)), none, none, some (.putfield 322, 3, (1, 12, 32, 0)), none, none, some (.aload_n 0, 1, (0, 0, 0, 0)), some (.iload_n 3, 1, (0, 0, 0, 0)), some (.putfield 316, 3, (1, 12, 33, 0)), none, none, some (.return_, 1, (0, 0, 0, 0)), some (.iconst 0, 1, (0, 0, 0, 0)), some (.istore_n 3, 1, (0, 0, 0, 0)), some (.iload_n 3, 1, (0, 0, 0, 0)), some (.bipush 8, 2, (0, 0, 0, 0)), none, some (.if_icmp .gt 38, 3, (0, 0, 0, 0)), none, none, some (.aload_n 0, 1, (0, 0, 0, 0)), some (.getfield 35, 3, (1, 12, 27, 1)), none, none, some (.bipush 9, 2, (0, 0, 0, 0)), none, some (.iload_n 1, 1, (0, 0, 0, 0)), some (.imul, 1, (0, 0, 0, 0)), some (.iload_n 3, 1, (0, 0, 0, 0)), some (.iadd, 1, (0, 0, 0, 0)), some (.baload, 1, (0, 0, 0, 0)), some (.ifCond .eq 18, 3, (0, 0, 0, 0)), none, none, some (.aload_n 0, 1, (0, 0, 0, 0)), some (.getfield 45, 3, (1, 12, 30, 1)), none, none, some (.iload_n 1, 1, (0, 0, 0, 0)), some (.iload_n 3, 1, (0, 0, 0, 0)), some (.iastore, 1, (0, 0, 0, 0)), some (.aload_n 0, 1, (0, 0, 0, 0)), some (.iload_n 1, 1, (0, 0, 0, 0)), some (.iconst 1, 1, (0, 0, 0, 0)), some (.iadd, 1, (0, 0, 0, 0)), some (.iload_n 2, 1, (0, 0, 0, 0)), some (.invokevirtual 325, 3, (8, 218, 2, 12)), none, none, some (.iinc 3 1, 3, (0, 0, 0, 0)), none, none, some (.goto (-38), 3, (0, 0, 0, 0)), none, none, some (.return_, 1, (0, 0, 0, 0))]
def q_218 : ak_Q := (yX12_seeks, cX12_seeks, 4, none, k_218, 12)
set_option maxRecDepth 100000 in
def k_219 : List ak_I := [some (.aload_n 0, 1, (0, 0, 0, 0)), some (.getfield 82, 3, (1, 12, 11, 0)), none, none, some (.ifCond .ne 7, 3, (0, 0, 0, 0)), none, none, some (.iconst 0, 1, (0, 0, 0, 0)), some (.goto 14, 3, (0, 0, 0, 0)), none, none, some (.aload_n 0, 1, (0, 0, 0, 0)), some (.getfield 39, 3, (1, 12, 28, 1)), none, none, some (.aload_n 0, 1, (0, 0, 0, 0)), some (.getfield 45, 3, (1, 12, 30, 1)), none, none, some (.iconst 0, 1, (0, 0, 0, 0)), some (.iaload, 1, (0, 0, 0, 0)), some (.iaload, 1, (0, 0, 0, 0)), some (.istore_n 1, 1, (0, 0, 0, 0)), some (.iconst 1, 1, (0, 0, 0, 0)), some (.istore_n 2, 1, (0, 0, 0, 0)), some (.iload_n 2, 1, (0, 0, 0, 0)), some (.aload_n 0, 1, (0, 0, 0, 0)), some (.getfield 82, 3, (1, 12, 11, 0)), none, none, some (.if_icmp .ge 50, 3, (0, 0, 0, 0)), none, none, some (.aload_n 0, 1, (0, 0, 0, 0)), some (.getfield 39, 3, (1, 12, 28, 1)), none, none, some (.bipush 9, 2, (0, 0, 0, 0)), none, some (.iload_n 2, 1, (0, 0, 0, 0)), some (.imul, 1, (0, 0, 0, 0)), some (.aload_n 0, 1, (0, 0, 0, 0)), some (.getfield 45, 3, (1, 12, 30, 1)), none, none, some (.iload_n 2, 1, (0, 0, 0, 0)), some (.iaload, 1, (0, 0, 0, 0)), some (.iadd, 1, (0, 0, 0, 0)), some (.iaload, 1, (0, 0, 0, 0)), some (.iload_n 1, 1, (0, 0, 0, 0)), some (.if_icmp .ge 22, 3, (0, 0, 0, 0)), none, none, some (.aload_n 0, 1, (0, 0, 0, 0)), some (.getfield 39, 3, (1, 12, 28, 1)), none, none, some (.bipush 9, 2, (0, 0, 0, 0)), none, some (.iload_n 2, 1, (0, 0, 0, 0)), some (.imul, 1, (0, 0, 0, 0)), some (.aload_n 0, 1, (0, 0, 0, 0)), some (.getfield 45, 3, (1, 12, 30, 1)), none, none, some (.iload_n 2, 1, (0, 0, 0, 0)), some (.iaload, 1, (0, 0, 0, 0)), some (.iadd, 1, (0, 0, 0, 0)), some (.iaload, 1, (0, 0, 0, 0)), some (.goto 4, 3, (0, 0, 0, 0)), none, none, some (.iload_n 1, 1, (0, 0, 0, 0)), some (.istore_n 1, 1, (0, 0, 0, 0)), some (.iinc 2 1, 3, (0, 0, 0, 0)), none, none, some (.goto (-52), 3, (0, 0, 0, 0)), none, none, some (.iload_n 1, 1, (0, 0, 0, 0)), some (.ireturn, 1, (0, 0, 0, 0))]
def q_219 : ak_Q := (yX12_leastOf, cX12_leastOf, 3, (some .int), k_219, 12)
set_option maxRecDepth 100000 in
def k_220 : List ak_I := [some (.iconst 0, 1, (0, 0, 0, 0)), some (.istore_n 1, 1, (0, 0, 0, 0)), some (.iconst 0, 1, (0, 0, 0, 0)), some (.istore_n 2, 1, (0, 0, 0, 0)), some (.iload_n 2, 1, (0, 0, 0, 0)), some (.aload_n 0, 1, (0, 0, 0, 0)), some (.getfield 82, 3, (1, 12, 11, 0)), none, none, some (.if_icmp .ge 21, 3, (0, 0, 0, 0)), none, none, some (.bipush 10, 2, (0, 0, 0, 0)), none, some (.iload_n 1, 1, (0, 0, 0, 0)), some (.imul, 1, (0, 0, 0, 0)), some (.aload_n 0, 1, (0, 0, 0, 0)), some (.getfield 45, 3, (1, 12, 30, 1)), none, none, some (.iload_n 2, 1, (0, 0, 0, 0)), some (.iaload, 1, (0, 0, 0, 0)), some (.iadd, 1, (0, 0, 0, 0)), some (.istore_n 1, 1, (0, 0, 0, 0)), some (.iinc 2 1, 3, (0, 0, 0, 0)), none, none, some (.goto (-23), 3, (0, 0, 0, 0)), none, none, some (.iload_n 1, 1, (0, 0, 0, 0)), some (.ireturn, 1, (0, 0, 0, 0))]
def q_220 : ak_Q := (yX12_digits, cX12_digits, 3, (some .int), k_220, 12)
set_option maxRecDepth 100000 in
def k_221 : List ak_I := [some (.iload_n 1, 1, (0, 0, 0, 0)), some (.i2l, 1, (0, 0, 0, 0)), some (.lconst 0, 1, (0, 0, 0, 0)), some (.ldc2_w 293, 3, (6, 0, 0, 2)), none, none, some (.invokestatic 85, 3, (11, 169, 3, 0)), none, none, some (.ifCond .ne 7, 3, (0, 0, 0, 0)), none, none, some (.ldc_w 297, 3, (4, 0, 0, -100000)), none, none, some (.ireturn, 1, (0, 0, 0, 0)), some (.aload_n 0, 1, (0, 0, 0, 0)), some (.invokevirtual 336, 3, (8, 222, 0, 12)), none, none, some (.iload_n 1, 1, (0, 0, 0, 0)), some (.ifCond .ne 10, 3, (0, 0, 0, 0)), none, none, some (.aload_n 0, 1, (0, 0, 0, 0)), some (.invokevirtual 319, 3, (8, 220, 0, 12)), none, none, some (.goto 19, 3, (0, 0, 0, 0)), none, none, some (.iload_n 1, 1, (0, 0, 0, 0)), some (.iconst 1, 1, (0, 0, 0, 0)), some (.if_icmp .ne 10, 3, (0, 0, 0, 0)), none, none, some (.aload_n 0, 1, (0, 0, 0, 0)), some (.invokevirtual 307, 3, (8, 215, 0, 12)), none, none, some (.goto 7, 3, (0, 0, 0, 0)), none, none, some (.aload_n 0, 1, (0, 0, 0, 0)), some (.invokevirtual 339, 3, (8, 225, 0, 12)), none, none, some (.ireturn, 1, (0, 0, 0, 0))]
def q_221 : ak_Q := (yX12_inTurn, cX12_inTurn, 2, (some .int), k_221, 12)
set_option maxRecDepth 100000 in
def k_222 : List ak_I := [some (.aload_n 0, 1, (0, 0, 0, 0)), some (.invokevirtual 298, 3, (8, 208, 0, 12)), none, none, some (.iconst 0, 1, (0, 0, 0, 0)), some (.istore_n 1, 1, (0, 0, 0, 0)), some (.iload_n 1, 1, (0, 0, 0, 0)), some (.aload_n 0, 1, (0, 0, 0, 0)), some (.getfield 82, 3, (1, 12, 11, 0)), none, none, some (.if_icmp .ge 16, 3, (0, 0, 0, 0)), none, none, some (.aload_n 0, 1, (0, 0, 0, 0)), some (.getfield 45, 3, (1, 12, 30, 1)), none, none, some (.iload_n 1, 1, (0, 0, 0, 0)), some (.iconst 0, 1, (0, 0, 0, 0)), some (.iastore, 1, (0, 0, 0, 0)), some (.iinc 1 1, 3, (0, 0, 0, 0)), none, none, some (.goto (-18), 3, (0, 0, 0, 0)), none, none, some (.iconst 0, 1, (0, 0, 0, 0)), some (.istore_n 1, 1, (0, 0, 0, 0)), some (.iconst 0, 1, (0, 0, 0, 0)), some (.istore_n 2, 1, (0, 0, 0, 0)), some (.iload_n 2, 1, (0, 0, 0, 0)), some (.aload_n 0, 1, (0, 0, 0, 0)), some (.getfield 82, 3, (1, 12, 11, 0)), none, none, some (.if_icmp .ge 26, 3, (0, 0, 0, 0)), none, none, some (.aload_n 0, 1, (0, 0, 0, 0)), some (.iload_n 1, 1, (0, 0, 0, 0)), some (.invokevirtual 329, 3, (8, 223, 1, 12)), none, none, some (.istore_n 3, 1, (0, 0, 0, 0)), some (.aload_n 0, 1, (0, 0, 0, 0)), some (.iload_n 3, 1, (0, 0, 0, 0)), some (.invokevirtual 332, 3, (8, 224, 1, 12)), none, none, some (.iload_n 1, 1, (0, 0, 0, 0)), some (.iconst 1, 1, (0, 0, 0, 0)), some (.iload_n 3, 1, (0, 0, 0, 0)), some (.ishl, 1, (0, 0, 0, 0)), some (.ior, 1, (0, 0, 0, 0)), some (.istore_n 1, 1, (0, 0, 0, 0)), some (.iinc 2 1, 3, (0, 0, 0, 0)), none, none, some (.goto (-28), 3, (0, 0, 0, 0)), none, none, some (.return_, 1, (0, 0, 0, 0))]
def q_222 : ak_Q := (yX12_turnsAll, cX12_turnsAll, 4, none, k_222, 12)
set_option maxRecDepth 100000 in
def k_223 : List ak_I := [some (.iconst (-1), 1, (0, 0, 0, 0)), some (.istore_n 2, 1, (0, 0, 0, 0)), some (.iconst 0, 1, (0, 0, 0, 0)), some (.istore_n 3, 1, (0, 0, 0, 0)), some (.iload_n 3, 1, (0, 0, 0, 0)), some (.aload_n 0, 1, (0, 0, 0, 0)), some (.getfield 82, 3, (1, 12, 11, 0)), none, none, some (.if_icmp .ge 47, 3, (0, 0, 0, 0)), none, none, some (.iload_n 1, 1, (0, 0, 0, 0)), some (.iload_n 3, 1, (0, 0, 0, 0)), some (.ishr, 1, (0, 0, 0, 0)), some (.iconst 1, 1, (0, 0, 0, 0)), some (.iand, 1, (0, 0, 0, 0)), some (.ifCond .ne 33, 3, (0, 0, 0, 0)), none, none, some (.iload_n 2, 1, (0, 0, 0, 0)), some (.iconst (-1), 1, (0, 0, 0, 0)), some (.if_icmp .eq 26, 3, (0, 0, 0, 0)), none, none, some (.aload_n 0, 1, (0, 0, 0, 0)), some (.getfield 29, 3, (1, 12, 9, 1)), none, none, some (.iconst 5, 1, (0, 0, 0, 0)), some (.iload_n 3, 1, (0, 0, 0, 0)), some (.imul, 1, (0, 0, 0, 0)), some (.iconst 3, 1, (0, 0, 0, 0)), some (.iadd, 1, (0, 0, 0, 0)), some (.iaload, 1, (0, 0, 0, 0)), some (.aload_n 0, 1, (0, 0, 0, 0)), some (.getfield 29, 3, (1, 12, 9, 1)), none, none, some (.iconst 5, 1, (0, 0, 0, 0)), some (.iload_n 2, 1, (0, 0, 0, 0)), some (.imul, 1, (0, 0, 0, 0)), some (.iconst 3, 1, (0, 0, 0, 0)), some (.iadd, 1, (0, 0, 0, 0)), some (.iaload, 1, (0, 0, 0, 0)), some (.if_icmp .le 5, 3, (0, 0, 0, 0)), none, none, some (.iload_n 3, 1, (0, 0, 0, 0)), some (.istore_n 2, 1, (0, 0, 0, 0)), some (.iinc 3 1, 3, (0, 0, 0, 0)), none, none, some (.goto (-49), 3, (0, 0, 0, 0)), none, none, some (.iload_n 2, 1, (0, 0, 0, 0)), some (.ireturn, 1, (0, 0, 0, 0))]
def q_223 : ak_Q := (yX12_nextTurn, cX12_nextTurn, 4, (some .int), k_223, 12)
set_option maxRecDepth 100000 in
def k_224 : List ak_I := [some (.iconst 0, 1, (0, 0, 0, 0)), some (.istore_n 2, 1, (0, 0, 0, 0)), some (.iconst 0, 1, (0, 0, 0, 0)), some (.istore_n 3, 1, (0, 0, 0, 0)), some (.iconst 1, 1, (0, 0, 0, 0)), some (.istore 4, 2, (0, 0, 0, 0)), none, some (.iload 4, 2, (0, 0, 0, 0)), none, some (.bipush 8, 2, (0, 0, 0, 0)), none, some (.if_icmp .gt 56, 3, (0, 0, 0, 0)), none, none, some (.aload_n 0, 1, (0, 0, 0, 0)), some (.getfield 45, 3, (1, 12, 30, 1)), none, none, some (.iload_n 1, 1, (0, 0, 0, 0)), some (.iload 4, 2, (0, 0, 0, 0)), none, some (.iastore, 1, (0, 0, 0, 0)), some (.aload_n 0, 1, (0, 0, 0, 0)), some (.getfield 39, 3, (1, 12, 28, 1)), none, none, some (.bipush 9, 2, (0, 0, 0, 0)), none, some (.iload_n 1, 1, (0, 0, 0, 0)), some (.imul, 1, (0, 0, 0, 0)), some (.iload 4, 2, (0, 0, 0, 0)), none, some (.iadd, 1, (0, 0, 0, 0)), some (.iaload, 1, (0, 0, 0, 0)), some (.iload_n 3, 1, (0, 0, 0, 0)), some (.if_icmp .le 26, 3, (0, 0, 0, 0)), none, none, some (.aload_n 0, 1, (0, 0, 0, 0)), some (.invokevirtual 304, 3, (8, 210, 0, 12)), none, none, some (.ifCond .eq 19, 3, (0, 0, 0, 0)), none, none, some (.iload 4, 2, (0, 0, 0, 0)), none, some (.istore_n 2, 1, (0, 0, 0, 0)), some (.aload_n 0, 1, (0, 0, 0, 0)), some (.getfield 39, 3, (1, 12, 28, 1)), none, none, some (.bipush 9, 2, (0, 0, 0, 0)), none, some (.iload_n 1, 1, (0, 0, 0, 0)), some (.imul, 1, (0, 0, 0, 0)), some (.iload 4, 2, (0, 0, 0, 0)), none, some (.iadd, 1, (0, 0, 0, 0)), some (.iaload, 1, (0, 0, 0, 0)), some (.istore_n 3, 1, (0, 0, 0, 0)), some (.iinc 4 1, 3, (0, 0, 0, 0)), none, none, some (.goto (-57), 3, (0, 0, 0, 0)), none, none, some (.aload_n 0, 1, (0, 0, 0, 0)), some (.getfield 45, 3, (1, 12, 30, 1)), none, none, some (.iload_n 1, 1, (0, 0, 0, 0)), some (.iload_n 2, 1, (0, 0, 0, 0)), some (.iastore, 1, (0, 0, 0, 0)), some (.return_, 1, (0, 0, 0, 0))]
def q_224 : ak_Q := (yX12_takes, cX12_takes, 5, none, k_224, 12)
set_option maxRecDepth 100000 in
def k_225 : List ak_I := [some (.iconst 0, 1, (0, 0, 0, 0)), some (.istore_n 1, 1, (0, 0, 0, 0)), some (.iconst 0, 1, (0, 0, 0, 0)), some (.istore_n 2, 1, (0, 0, 0, 0)), some (.iload_n 2, 1, (0, 0, 0, 0)), some (.aload_n 0, 1, (0, 0, 0, 0)), some (.getfield 82, 3, (1, 12, 11, 0)), none, none, some (.if_icmp .ge 26, 3, (0, 0, 0, 0)), none, none, some (.iload_n 1, 1, (0, 0, 0, 0)), some (.aload_n 0, 1, (0, 0, 0, 0)), some (.getfield 45, 3, (1, 12, 30, 1)), none, none, some (.iload_n 2, 1, (0, 0, 0, 0)), some (.iaload, 1, (0, 0, 0, 0)), some (.ifCond .ne 7, 3, (0, 0, 0, 0)), none, none, some (.iconst 1, 1, (0, 0, 0, 0)), some (.goto 4, 3, (0, 0, 0, 0)), none, none, some (.iconst 0, 1, (0, 0, 0, 0)), some (.iadd, 1, (0, 0, 0, 0)), some (.istore_n 1, 1, (0, 0, 0, 0)), some (.iinc 2 1, 3, (0, 0, 0, 0)), none, none, some (.goto (-28), 3, (0, 0, 0, 0)), none, none, some (.iload_n 1, 1, (0, 0, 0, 0)), some (.ireturn, 1, (0, 0, 0, 0))]
def q_225 : ak_Q := (yX12_noneMany, cX12_noneMany, 3, (some .int), k_225, 12)
set_option maxRecDepth 100000 in
def k_226 : List ak_I := [some (.aload_n 0, 1, (0, 0, 0, 0)), some (.invokevirtual 336, 3, (8, 222, 0, 12)), none, none, some (.aload_n 0, 1, (0, 0, 0, 0)), some (.invokevirtual 307, 3, (8, 215, 0, 12)), none, none, some (.istore_n 1, 1, (0, 0, 0, 0)), some (.iconst 0, 1, (0, 0, 0, 0)), some (.istore_n 2, 1, (0, 0, 0, 0)), some (.iload_n 2, 1, (0, 0, 0, 0)), some (.aload_n 0, 1, (0, 0, 0, 0)), some (.getfield 82, 3, (1, 12, 11, 0)), none, none, some (.if_icmp .ge 27, 3, (0, 0, 0, 0)), none, none, some (.aload_n 0, 1, (0, 0, 0, 0)), some (.getfield 29, 3, (1, 12, 9, 1)), none, none, some (.iconst 5, 1, (0, 0, 0, 0)), some (.iload_n 2, 1, (0, 0, 0, 0)), some (.imul, 1, (0, 0, 0, 0)), some (.iconst 4, 1, (0, 0, 0, 0)), some (.iadd, 1, (0, 0, 0, 0)), some (.aload_n 0, 1, (0, 0, 0, 0)), some (.getfield 45, 3, (1, 12, 30, 1)), none, none, some (.iload_n 2, 1, (0, 0, 0, 0)), some (.iaload, 1, (0, 0, 0, 0)), some (.iconst 1, 1, (0, 0, 0, 0)), some (.isub, 1, (0, 0, 0, 0)), some (.iastore, 1, (0, 0, 0, 0)), some (.iinc 2 1, 3, (0, 0, 0, 0)), none, none, some (.goto (-29), 3, (0, 0, 0, 0)), none, none, some (.iload_n 1, 1, (0, 0, 0, 0)), some (.ireturn, 1, (0, 0, 0, 0))]
def q_226 : ak_Q := (yX12_settle, cX12_settle, 3, (some .int), k_226, 12)
set_option maxRecDepth 100000 in
def k_227 : List ak_I := [some (.iload_n 1, 1, (0, 0, 0, 0)), some (.i2l, 1, (0, 0, 0, 0)), some (.lconst 0, 1, (0, 0, 0, 0)), some (.lconst 1, 1, (0, 0, 0, 0)), some (.invokestatic 85, 3, (11, 169, 3, 0)), none, none, some (.ifCond .ne 7, 3, (0, 0, 0, 0)), none, none, some (.ldc_w 297, 3, (4, 0, 0, -100000)), none, none, some (.ireturn, 1, (0, 0, 0, 0)), some (.aload_n 0, 1, (0, 0, 0, 0)), some (.invokevirtual 298, 3, (8, 208, 0, 12)), none, none, some (.aload_n 0, 1, (0, 0, 0, 0)), some (.invokevirtual 301, 3, (8, 209, 0, 12)), none, none, some (.iconst (-1), 1, (0, 0, 0, 0)), some (.istore_n 2, 1, (0, 0, 0, 0)), some (.aload_n 0, 1, (0, 0, 0, 0)), some (.invokevirtual 307, 3, (8, 215, 0, 12)), none, none, some (.istore_n 3, 1, (0, 0, 0, 0)), some (.iconst 0, 1, (0, 0, 0, 0)), some (.istore 4, 2, (0, 0, 0, 0)), none, some (.iload 4, 2, (0, 0, 0, 0)), none, some (.aload_n 0, 1, (0, 0, 0, 0)), some (.getfield 82, 3, (1, 12, 11, 0)), none, none, some (.if_icmp .ge 113, 3, (0, 0, 0, 0)), none, none, some (.iload 4, 2, (0, 0, 0, 0)), none, some (.iconst 1, 1, (0, 0, 0, 0)), some (.iadd, 1, (0, 0, 0, 0)), some (.istore 5, 2, (0, 0, 0, 0)), none, some (.iload 5, 2, (0, 0, 0, 0)), none, some (.aload_n 0, 1, (0, 0, 0, 0)), some (.getfield 82, 3, (1, 12, 11, 0)), none, none, some (.if_icmp .ge 92, 3, (0, 0, 0, 0)), none, none, some (.aload_n 0, 1, (0, 0, 0, 0)), some (.getfield 45, 3, (1, 12, 30, 1)), none, none, some (.iload 4, 2, (0, 0, 0, 0)), none, some (.iaload, 1, (0, 0, 0, 0)), some (.istore 6, 2, (0, 0, 0, 0)), none, some (.aload_n 0, 1, (0, 0, 0, 0)), some (.getfield 45, 3, (1, 12, 30, 1)), none, none, some (.iload 5, 2, (0, 0, 0, 0)), none, some (.iaload, 1, (0, 0, 0, 0)), some (.istore 7, 2, (0, 0, 0, 0)), none, some (.aload_n 0, 1, (0, 0, 0, 0)), some (.getfield 45, 3, (1, 12, 30, 1)), none, none, some (.iload 4, 2, (0, 0, 0, 0)), none, some (.iload 7, 2, (0, 0, 0, 0)), none, some (.iastore, 1, (0, 0, 0, 0)), some (.aload_n 0, 1, (0, 0, 0, 0)), some (.getfield 45, 3, (1, 12, 30, 1)), none, none, some (.iload 5, 2, (0, 0, 0, 0)), none, some (.iload 6, 2, (0, 0, 0, 0)), none, some (.iastore, 1, (0, 0, 0, 0)), some (.aload_n 0, 1, (0, 0, 0, 0)), some (.invokevirtual 304, 3, (8, 210, 0, 12)), none, none, some (.ifCond .eq 25, 3, (0, 0, 0, 0)), none, none, some (.aload_n 0, 1, (0, 0, 0, 0)), some (.invokevirtual 307, 3, (8, 215, 0, 12)), none, none, some (.iload_n 3, 1, (0, 0, 0, 0)), some (.if_icmp .le 17, 3, (0, 0, 0, 0)), none, none, some (.bipush 10, 2, (0, 0, 0, 0)), none, some (.iload 4, 2, (0, 0, 0, 0)), none, some (.imul, 1, (0, 0, 0, 0)), some (.iload 5, 2, (0, 0, 0, 0)), none, some (.iadd, 1, (0, 0, 0, 0)), some (.istore_n 2, 1, (0, 0, 0, 0)), some (.aload_n 0, 1, (0, 0, 0, 0)), some (.invokevirtual 307, 3, (8, 215, 0, 12)), none, none, some (.istore_n 3, 1, (0, 0, 0, 0)), some (.aload_n 0, 1, (0, 0, 0, 0)), some (.getfield 45, 3, (1, 12, 30, 1)), none, none, some (.iload 4, 2, (0, 0, 0, 0)), none, some (.iload 6, 2, (0, 0, 0, 0)), none, some (.iastore, 1, (0, 0, 0, 0)), some (.aload_n 0, 1, (0, 0, 0, 0)), some (.getfield 45, 3, (1, 12, 30, 1)), none, none, some (.iload 5, 2, (0, 0, 0, 0)), none, some (.iload 7, 2, (0, 0, 0, 0)), none, some (.iastore, 1, (0, 0, 0, 0)), some (.iinc 5 1, 3, (0, 0, 0, 0)), none, none, some (.goto (-95), 3, (0, 0, 0, 0)), none, none, some (.iinc 4 1, 3, (0, 0, 0, 0)), none, none, some (.goto (-116), 3, (0, 0, 0, 0)), none, none, some (.iload_n 1, 1, (0, 0, 0, 0)), some (.ifCond .ne 7, 3, (0, 0, 0, 0)), none, none, some (.iload_n 2, 1, (0, 0, 0, 0)), some (.goto 4, 3, (0, 0, 0, 0)), none, none, some (.iload_n 3, 1, (0, 0, 0, 0)), some (.ireturn, 1, (0, 0, 0, 0))]
def q_227 : ak_Q := (yX12_change, cX12_change, 8, (some .int), k_227, 12)
set_option maxRecDepth 100000 in
def k_228 : List ak_I := [some (.aload_n 0, 1, (0, 0, 0, 0)), some (.iload_n 1, 1, (0, 0, 0, 0)), some (.invokevirtual 93, 3, (8, 170, 1, 12)), none, none, some (.ifCond .eq 10, 3, (0, 0, 0, 0)), none, none, some (.iload_n 2, 1, (0, 0, 0, 0)), some (.invokestatic 121, 3, (11, 202, 1, 0)), none, none, some (.ifCond .ne 6, 3, (0, 0, 0, 0)), none, none, some (.bipush (-2), 2, (0, 0, 0, 0)), none, some (.ireturn, 1, (0, 0, 0, 0)), some (.aload_n 0, 1, (0, 0, 0, 0)), some (.invokevirtual 298, 3, (8, 208, 0, 12)), none, none, some (.aload_n 0, 1, (0, 0, 0, 0)), some (.invokevirtual 301, 3, (8, 209, 0, 12)), none, none, some (.aload_n 0, 1, (0, 0, 0, 0)), some (.getfield 45, 3, (1, 12, 30, 1)), none, none, some (.iload_n 1, 1, (0, 0, 0, 0)), some (.iload_n 2, 1, (0, 0, 0, 0)), some (.iconst 1, 1, (0, 0, 0, 0)), some (.iadd, 1, (0, 0, 0, 0)), some (.iastore, 1, (0, 0, 0, 0)), some (.aload_n 0, 1, (0, 0, 0, 0)), some (.invokevirtual 304, 3, (8, 210, 0, 12)), none, none, some (.ifCond .eq 5, 3, (0, 0, 0, 0)), none, none, some (.iconst (-1), 1, (0, 0, 0, 0)), some (.ireturn, 1, (0, 0, 0, 0)), some (.iconst 0, 1, (0, 0, 0, 0)), some (.istore_n 3, 1, (0, 0, 0, 0)), some (.iload_n 3, 1, (0, 0, 0, 0)), some (.aload_n 0, 1, (0, 0, 0, 0)), some (.getfield 82, 3, (1, 12, 11, 0)), none, none, some (.if_icmp .ge 59, 3, (0, 0, 0, 0)), none, none, some (.iload_n 3, 1, (0, 0, 0, 0)), some (.iload_n 1, 1, (0, 0, 0, 0)), some (.if_icmp .eq 48, 3, (0, 0, 0, 0)), none, none, some (.aload_n 0, 1, (0, 0, 0, 0)), some (.getfield 45, 3, (1, 12, 30, 1)), none, none, some (.iload_n 3, 1, (0, 0, 0, 0)), some (.iaload, 1, (0, 0, 0, 0)), some (.ifCond .eq 39, 3, (0, 0, 0, 0)), none, none, some (.aload_n 0, 1, (0, 0, 0, 0)), some (.getfield 45, 3, (1, 12, 30, 1)), none, none, some (.iload_n 3, 1, (0, 0, 0, 0)), some (.iaload, 1, (0, 0, 0, 0)), some (.istore 4, 2, (0, 0, 0, 0)), none, some (.aload_n 0, 1, (0, 0, 0, 0)), some (.getfield 45, 3, (1, 12, 30, 1)), none, none, some (.iload_n 3, 1, (0, 0, 0, 0)), some (.iconst 0, 1, (0, 0, 0, 0)), some (.iastore, 1, (0, 0, 0, 0)), some (.aload_n 0, 1, (0, 0, 0, 0)), some (.invokevirtual 304, 3, (8, 210, 0, 12)), none, none, some (.istore 5, 2, (0, 0, 0, 0)), none, some (.aload_n 0, 1, (0, 0, 0, 0)), some (.getfield 45, 3, (1, 12, 30, 1)), none, none, some (.iload_n 3, 1, (0, 0, 0, 0)), some (.iload 4, 2, (0, 0, 0, 0)), none, some (.iastore, 1, (0, 0, 0, 0)), some (.iload 5, 2, (0, 0, 0, 0)), none, some (.ifCond .eq 5, 3, (0, 0, 0, 0)), none, none, some (.iload_n 3, 1, (0, 0, 0, 0)), some (.ireturn, 1, (0, 0, 0, 0)), some (.iinc 3 1, 3, (0, 0, 0, 0)), none, none, some (.goto (-61), 3, (0, 0, 0, 0)), none, none, some (.iconst (-1), 1, (0, 0, 0, 0)), some (.ireturn, 1, (0, 0, 0, 0))]
def q_228 : ak_Q := (yX12_bars, cX12_bars, 6, (some .int), k_228, 12)
set_option maxRecDepth 100000 in
def k_229 : List ak_I := [some (.iload_n 1, 1, (0, 0, 0, 0)), some (.invokestatic 342, 3, (11, 230, 1, 0)), none, none, some (.ifCond .eq 23, 3, (0, 0, 0, 0)), none, none, some (.aload_n 0, 1, (0, 0, 0, 0)), some (.iload_n 2, 1, (0, 0, 0, 0)), some (.invokevirtual 93, 3, (8, 170, 1, 12)), none, none, some (.ifCond .eq 15, 3, (0, 0, 0, 0)), none, none, some (.iload_n 3, 1, (0, 0, 0, 0)), some (.i2l, 1, (0, 0, 0, 0)), some (.lconst 0, 1, (0, 0, 0, 0)), some (.ldc2_w 112, 3, (6, 0, 0, 5)), none, none, some (.invokestatic 85, 3, (11, 169, 3, 0)), none, none, some (.ifCond .ne 6, 3, (0, 0, 0, 0)), none, none, some (.bipush (-2), 2, (0, 0, 0, 0)), none, some (.ireturn, 1, (0, 0, 0, 0)), some (.aload_n 0, 1, (0, 0, 0, 0)), some (.getfield 63, 3, (1, 12, 40, 1)), none, none, some (.iload_n 1, 1, (0, 0, 0, 0)), some (.baload, 1, (0, 0, 0, 0)), some (.ifCond .ne 6, 3, (0, 0, 0, 0)), none, none, some (.bipush (-11), 2, (0, 0, 0, 0)), none, some (.ireturn, 1, (0, 0, 0, 0)), some (.aload_n 0, 1, (0, 0, 0, 0)), some (.getfield 69, 3, (1, 12, 42, 1)), none, none, some (.iload_n 1, 1, (0, 0, 0, 0)), some (.iaload, 1, (0, 0, 0, 0)), some (.bipush 8, 2, (0, 0, 0, 0)), none, some (.if_icmp .eq 6, 3, (0, 0, 0, 0)), none, none, some (.bipush (-2), 2, (0, 0, 0, 0)), none, some (.ireturn, 1, (0, 0, 0, 0)), some (.iload_n 3, 1, (0, 0, 0, 0)), some (.ifCond .ne 10, 3, (0, 0, 0, 0)), none, none, some (.aload_n 0, 1, (0, 0, 0, 0)), some (.iload_n 1, 1, (0, 0, 0, 0)), some (.iload_n 2, 1, (0, 0, 0, 0)), some (.invokevirtual 345, 3, (8, 231, 2, 12)), none, none, some (.ireturn, 1, (0, 0, 0, 0)), some (.iload_n 3, 1, (0, 0, 0, 0)), some (.iconst 1, 1, (0, 0, 0, 0)), some (.if_icmp .ne 8, 3, (0, 0, 0, 0)), none, none, some (.bipush 7, 2, (0, 0, 0, 0)), none, some (.goto 23, 3, (0, 0, 0, 0)), none, none, some (.iload_n 3, 1, (0, 0, 0, 0)), some (.iconst 2, 1, (0, 0, 0, 0)), some (.if_icmp .ne 7, 3, (0, 0, 0, 0)), none, none, some (.iconst 3, 1, (0, 0, 0, 0)), some (.goto 14, 3, (0, 0, 0, 0)), none, none, some (.iload_n 3, 1, (0, 0, 0, 0)), some (.iconst 5, 1, (0, 0, 0, 0)), some (.if_icmp .ne 8, 3, (0, 0, 0, 0)), none, none, some (.bipush 8, 2, (0, 0, 0, 0)), none, some (.goto 4, 3, (0, 0, 0, 0)), none, none, some (.iconst 5, 1, (0, 0, 0, 0)), some (.istore 4, 2, (0, 0, 0, 0)), none, some (.iload 4, 2, (0, 0, 0, 0)), none, some (.bipush 8, 2, (0, 0, 0, 0)), none, some (.if_icmp .ne 10, 3, (0, 0, 0, 0)), none, none, some (.aload_n 0, 1, (0, 0, 0, 0)), some (.getfield 109, 3, (1, 12, 4, 0)), none, none, some (.goto 10, 3, (0, 0, 0, 0)), none, none, some (.aload_n 0, 1, (0, 0, 0, 0)), some (.iload_n 2, 1, (0, 0, 0, 0)), some (.iload 4, 2, (0, 0, 0, 0)), none, some (.invokevirtual 101, 3, (8, 172, 2, 12)), none, none, some (.istore 5, 2, (0, 0, 0, 0)), none, some (.iload 4, 2, (0, 0, 0, 0)), none, some (.bipush 8, 2, (0, 0, 0, 0)), none, some (.if_icmp .ne 12, 3, (0, 0, 0, 0)), none, none, some (.aload_n 0, 1, (0, 0, 0, 0)), some (.getfield 79, 3, (1, 12, 3, 0)), none, none, some (.iconst 1, 1, (0, 0, 0, 0)), some (.isub, 1, (0, 0, 0, 0)), some (.goto 19, 3, (0, 0, 0, 0)), none, none, some (.iload 4, 2, (0, 0, 0, 0)), none, some (.bipush 7, 2, (0, 0, 0, 0)), none, some (.if_icmp .ne 7, 3, (0, 0, 0, 0)), none, none, some (.iconst 5, 1, (0, 0, 0, 0)), some (.goto 8, 3, (0, 0, 0, 0)), none, none, some (.iload 4, 2, (0, 0, 0, 0)), none, some (.invokestatic 97, 3, (11, 171, 1, 0)), none, none, some (.istore 6, 2, (0, 0, 0, 0)), none, some (.iconst 0, 1, (0, 0, 0, 0)), some (.istore 7, 2, (0, 0, 0, 0)), none, some (.iconst 0, 1, (0, 0, 0, 0)), some (.istore 8, 2, (0, 0, 0, 0)), none, some (.iconst (-1), 1, (0, 0, 0, 0)), some (.istore 9, 2, (0, 0, 0, 0)), none, some (.iload 6, 2, (0, 0, 0, 0)), none, some (.istore 10, 2, (0, 0, 0, 0)), none, some (.iload 10, 2, (0, 0, 0, 0)), none, some (.ifCond .lt 54, 3, (0, 0, 0, 0)), none, none, some (.aload_n 0, 1, (0, 0, 0, 0)), some (.iload 4, 2, (0, 0, 0, 0)), none, some (.iload_n 2, 1, (0, 0, 0, 0)), some (.iload 10, 2, (0, 0, 0, 0)), none, some (.invokevirtual 105, 3, (8, 197, 3, 12)), none, none, some (.aload_n 0, 1, (0, 0, 0, 0)), some (.iload_n 1, 1, (0, 0, 0, 0)), some (.iload_n 2, 1, (0, 0, 0, 0)), some (.invokevirtual 345, 3, (8, 231, 2, 12)), none, none, some (.iconst (-1), 1, (0, 0, 0, 0)), some (.if_icmp .ne 29, 3, (0, 0, 0, 0)), none, none, some (.iload 7, 2, (0, 0, 0, 0)), none, some (.iload 4, 2, (0, 0, 0, 0)), none, some (.iconst 5, 1, (0, 0, 0, 0)), some (.if_icmp .ne 7, 3, (0, 0, 0, 0)), none, none, some (.iconst 0, 1, (0, 0, 0, 0)), some (.goto 7, 3, (0, 0, 0, 0)), none, none, some (.iconst 1, 1, (0, 0, 0, 0)), some (.iload 10, 2, (0, 0, 0, 0)), none, some (.ishl, 1, (0, 0, 0, 0)), some (.ior, 1, (0, 0, 0, 0)), some (.istore 7, 2, (0, 0, 0, 0)), none, some (.iinc 8 1, 3, (0, 0, 0, 0)), none, none, some (.iload 10, 2, (0, 0, 0, 0)), none, some (.istore 9, 2, (0, 0, 0, 0)), none, some (.iinc 10 (-1), 3, (0, 0, 0, 0)), none, none, some (.goto (-53), 3, (0, 0, 0, 0)), none, none, some (.aload_n 0, 1, (0, 0, 0, 0)), some (.iload 4, 2, (0, 0, 0, 0)), none, some (.iload_n 2, 1, (0, 0, 0, 0)), some (.iload 5, 2, (0, 0, 0, 0)), none, some (.invokevirtual 105, 3, (8, 197, 3, 12)), none, none, some (.iload_n 3, 1, (0, 0, 0, 0)), some (.iconst 3, 1, (0, 0, 0, 0)), some (.if_icmp .ne 8, 3, (0, 0, 0, 0)), none, none, some (.iload 8, 2, (0, 0, 0, 0)), none, some (.goto 15, 3, (0, 0, 0, 0)), none, none, some (.iload_n 3, 1, (0, 0, 0, 0)), some (.iconst 4, 1, (0, 0, 0, 0)), some (.if_icmp .ne 8, 3, (0, 0, 0, 0)), none, none, some (.iload 9, 2, (0, 0, 0, 0)), none, some (.goto 5, 3, (0, 0, 0, 0)), none, none, some (.iload 7, 2, (0, 0, 0, 0)), none, some (.ireturn, 1, (0, 0, 0, 0))]
def q_229 : ak_Q := (yX12_tells, cX12_tells, 11, (some .int), k_229, 12)
set_option maxRecDepth 100000 in
def k_230 : List ak_I := [some (.iload_n 0, 1, (0, 0, 0, 0)), some (.i2l, 1, (0, 0, 0, 0)), some (.lconst 0, 1, (0, 0, 0, 0)), some (.ldc2_w 276, 3, (6, 0, 0, 3)), none, none, some (.invokestatic 85, 3, (11, 169, 3, 0)), none, none, some (.ireturn, 1, (0, 0, 0, 0))]
def q_230 : ak_Q := (yX12_isSheet, cX12_isSheet, 1, (some .boolean), k_230, 12)
set_option maxRecDepth 100000 in
def k_231 : List ak_I := [some (.iconst 0, 1, (0, 0, 0, 0)), some (.istore_n 3, 1, (0, 0, 0, 0)), some (.iload_n 3, 1, (0, 0, 0, 0)), some (.bipush 8, 2, (0, 0, 0, 0)), none, some (.if_icmp .ge 31, 3, (0, 0, 0, 0)), none, none, some (.aload_n 0, 1, (0, 0, 0, 0)), some (.iload_n 2, 1, (0, 0, 0, 0)), some (.iload_n 3, 1, (0, 0, 0, 0)), some (.invokevirtual 138, 3, (8, 173, 2, 12)), none, none, some (.aload_n 0, 1, (0, 0, 0, 0)), some (.getfield 72, 3, (1, 12, 43, 1)), none, none, some (.bipush 40, 2, (0, 0, 0, 0)), none, some (.iload_n 1, 1, (0, 0, 0, 0)), some (.imul, 1, (0, 0, 0, 0)), some (.iload_n 3, 1, (0, 0, 0, 0)), some (.iadd, 1, (0, 0, 0, 0)), some (.iaload, 1, (0, 0, 0, 0)), some (.if_icmp .eq 5, 3, (0, 0, 0, 0)), none, none, some (.iload_n 3, 1, (0, 0, 0, 0)), some (.ireturn, 1, (0, 0, 0, 0)), some (.iinc 3 1, 3, (0, 0, 0, 0)), none, none, some (.goto (-31), 3, (0, 0, 0, 0)), none, none, some (.iconst (-1), 1, (0, 0, 0, 0)), some (.ireturn, 1, (0, 0, 0, 0))]
def q_231 : ak_Q := (yX12_firstOther, cX12_firstOther, 4, (some .int), k_231, 12)
set_option maxRecDepth 100000 in
def k_232 : List ak_I := [some (.iload_n 1, 1, (0, 0, 0, 0)), some (.invokestatic 342, 3, (11, 230, 1, 0)), none, none, some (.ifCond .eq 11, 3, (0, 0, 0, 0)), none, none, some (.aload_n 0, 1, (0, 0, 0, 0)), some (.iload_n 2, 1, (0, 0, 0, 0)), some (.invokevirtual 93, 3, (8, 170, 1, 12)), none, none, some (.ifCond .ne 6, 3, (0, 0, 0, 0)), none, none, some (.bipush (-2), 2, (0, 0, 0, 0)), none, some (.ireturn, 1, (0, 0, 0, 0)), some (.aload_n 0, 1, (0, 0, 0, 0)), some (.iload_n 1, 1, (0, 0, 0, 0)), some (.iconst 1, 1, (0, 0, 0, 0)), some (.bipush 8, 2, (0, 0, 0, 0)), none, some (.invokevirtual 348, 3, (8, 233, 3, 12)), none, none, some (.pop, 1, (0, 0, 0, 0)), some (.iconst 0, 1, (0, 0, 0, 0)), some (.istore_n 3, 1, (0, 0, 0, 0)), some (.iload_n 3, 1, (0, 0, 0, 0)), some (.bipush 8, 2, (0, 0, 0, 0)), none, some (.if_icmp .ge 26, 3, (0, 0, 0, 0)), none, none, some (.aload_n 0, 1, (0, 0, 0, 0)), some (.getfield 72, 3, (1, 12, 43, 1)), none, none, some (.bipush 40, 2, (0, 0, 0, 0)), none, some (.iload_n 1, 1, (0, 0, 0, 0)), some (.imul, 1, (0, 0, 0, 0)), some (.iload_n 3, 1, (0, 0, 0, 0)), some (.iadd, 1, (0, 0, 0, 0)), some (.aload_n 0, 1, (0, 0, 0, 0)), some (.iload_n 2, 1, (0, 0, 0, 0)), some (.iload_n 3, 1, (0, 0, 0, 0)), some (.invokevirtual 138, 3, (8, 173, 2, 12)), none, none, some (.iastore, 1, (0, 0, 0, 0)), some (.iinc 3 1, 3, (0, 0, 0, 0)), none, none, some (.goto (-26), 3, (0, 0, 0, 0)), none, none, some (.bipush 8, 2, (0, 0, 0, 0)), none, some (.ireturn, 1, (0, 0, 0, 0))]
def q_232 : ak_Q := (yX12_film, cX12_film, 4, (some .int), k_232, 12)
set_option maxRecDepth 100000 in
def k_233 : List ak_I := [some (.iload_n 1, 1, (0, 0, 0, 0)), some (.invokestatic 342, 3, (11, 230, 1, 0)), none, none, some (.ifCond .eq 27, 3, (0, 0, 0, 0)), none, none, some (.iload_n 2, 1, (0, 0, 0, 0)), some (.i2l, 1, (0, 0, 0, 0)), some (.ldc2_w 360, 3, (6, 0, 0, -1)), none, none, some (.ldc2_w 293, 3, (6, 0, 0, 2)), none, none, some (.invokestatic 85, 3, (11, 169, 3, 0)), none, none, some (.ifCond .eq 13, 3, (0, 0, 0, 0)), none, none, some (.iload_n 2, 1, (0, 0, 0, 0)), some (.ifCond .lt 12, 3, (0, 0, 0, 0)), none, none, some (.iload_n 3, 1, (0, 0, 0, 0)), some (.bipush 40, 2, (0, 0, 0, 0)), none, some (.if_icmp .le 6, 3, (0, 0, 0, 0)), none, none, some (.bipush (-2), 2, (0, 0, 0, 0)), none, some (.ireturn, 1, (0, 0, 0, 0)), some (.iload_n 2, 1, (0, 0, 0, 0)), some (.ifCond .lt 10, 3, (0, 0, 0, 0)), none, none, some (.iload_n 3, 1, (0, 0, 0, 0)), some (.ifCond .ge 6, 3, (0, 0, 0, 0)), none, none, some (.bipush (-14), 2, (0, 0, 0, 0)), none, some (.ireturn, 1, (0, 0, 0, 0)), some (.aload_n 0, 1, (0, 0, 0, 0)), some (.getfield 63, 3, (1, 12, 40, 1)), none, none, some (.iload_n 1, 1, (0, 0, 0, 0)), some (.iload_n 2, 1, (0, 0, 0, 0)), some (.ifCond .lt 7, 3, (0, 0, 0, 0)), none, none, some (.iconst 1, 1, (0, 0, 0, 0)), some (.goto 4, 3, (0, 0, 0, 0)), none, none, some (.iconst 0, 1, (0, 0, 0, 0)), some (.bastore, 1, (0, 0, 0, 0)), some (.aload_n 0, 1, (0, 0, 0, 0)), some (.getfield 66, 3, (1, 12, 41, 1)), none, none, some (.iload_n 1, 1, (0, 0, 0, 0)), some (.iload_n 2, 1, (0, 0, 0, 0)), some (.iastore, 1, (0, 0, 0, 0)), some (.aload_n 0, 1, (0, 0, 0, 0)), some (.getfield 69, 3, (1, 12, 42, 1)), none, none, some (.iload_n 1, 1, (0, 0, 0, 0)), some (.iload_n 3, 1, (0, 0, 0, 0)), some (.iastore, 1, (0, 0, 0, 0)), some (.iconst 0, 1, (0, 0, 0, 0)), some (.istore 4, 2, (0, 0, 0, 0)), none, some (.iload 4, 2, (0, 0, 0, 0)), none, some (.iload_n 3, 1, (0, 0, 0, 0)), some (.if_icmp .ge 26, 3, (0, 0, 0, 0)), none, none, some (.iload_n 2, 1, (0, 0, 0, 0)), some (.ifCond .lt 22, 3, (0, 0, 0, 0)), none, none, some (.aload_n 0, 1, (0, 0, 0, 0)), some (.getfield 72, 3, (1, 12, 43, 1)), none, none, some (.bipush 40, 2, (0, 0, 0, 0)), none, some (.iload_n 1, 1, (0, 0, 0, 0)), some (.imul, 1, (0, 0, 0, 0)), some (.iload 4, 2, (0, 0, 0, 0)), none, some (.iadd, 1, (0, 0, 0, 0)), some (.iconst 0, 1, (0, 0, 0, 0)), some (.iastore, 1, (0, 0, 0, 0)), some (.iinc 4 1, 3, (0, 0, 0, 0)), none, none, some (.goto (-26), 3, (0, 0, 0, 0)), none, none, some (.iconst 1, 1, (0, 0, 0, 0)), some (.ireturn, 1, (0, 0, 0, 0))]
def q_233 : ak_Q := (yX12_sheet, cX12_sheet, 5, (some .int), k_233, 12)
set_option maxRecDepth 100000 in
def k_234 : List ak_I := [some (.aload_n 0, 1, (0, 0, 0, 0)), some (.iload_n 1, 1, (0, 0, 0, 0)), some (.invokevirtual 352, 3, (8, 235, 1, 12)), none, none, some (.aload_n 0, 1, (0, 0, 0, 0)), some (.invokevirtual 307, 3, (8, 215, 0, 12)), none, none, some (.ireturn, 1, (0, 0, 0, 0))]
def q_234 : ak_Q := (yX12_drawn, cX12_drawn, 2, (some .int), k_234, 12)
set_option maxRecDepth 100000 in
def k_235 : List ak_I := [some (.iload_n 1, 1, (0, 0, 0, 0)), some (.istore_n 2, 1, (0, 0, 0, 0)), some (.iconst 0, 1, (0, 0, 0, 0)), some (.istore_n 3, 1, (0, 0, 0, 0)), some (.iload_n 3, 1, (0, 0, 0, 0)), some (.aload_n 0, 1, (0, 0, 0, 0)), some (.getfield 82, 3, (1, 12, 11, 0)), none, none, some (.if_icmp .ge 53, 3, (0, 0, 0, 0)), none, none, some (.aload_n 0, 1, (0, 0, 0, 0)), some (.getfield 48, 3, (1, 12, 34, 1)), none, none, some (.iload_n 3, 1, (0, 0, 0, 0)), some (.aload_n 0, 1, (0, 0, 0, 0)), some (.getfield 29, 3, (1, 12, 9, 1)), none, none, some (.iconst 5, 1, (0, 0, 0, 0)), some (.iload_n 3, 1, (0, 0, 0, 0)), some (.imul, 1, (0, 0, 0, 0)), some (.iconst 2, 1, (0, 0, 0, 0)), some (.iadd, 1, (0, 0, 0, 0)), some (.iaload, 1, (0, 0, 0, 0)), some (.iastore, 1, (0, 0, 0, 0)), some (.iload_n 2, 1, (0, 0, 0, 0)), some (.ldc_w 351, 3, (4, 0, 0, 1103515245)), none, none, some (.imul, 1, (0, 0, 0, 0)), some (.sipush 12345, 3, (0, 0, 0, 0)), none, none, some (.iadd, 1, (0, 0, 0, 0)), some (.istore_n 2, 1, (0, 0, 0, 0)), some (.aload_n 0, 1, (0, 0, 0, 0)), some (.getfield 29, 3, (1, 12, 9, 1)), none, none, some (.iconst 5, 1, (0, 0, 0, 0)), some (.iload_n 3, 1, (0, 0, 0, 0)), some (.imul, 1, (0, 0, 0, 0)), some (.iconst 2, 1, (0, 0, 0, 0)), some (.iadd, 1, (0, 0, 0, 0)), some (.iload_n 2, 1, (0, 0, 0, 0)), some (.bipush 9, 2, (0, 0, 0, 0)), none, some (.iushr, 1, (0, 0, 0, 0)), some (.sipush 256, 3, (0, 0, 0, 0)), none, none, some (.irem, 1, (0, 0, 0, 0)), some (.iastore, 1, (0, 0, 0, 0)), some (.iinc 3 1, 3, (0, 0, 0, 0)), none, none, some (.goto (-55), 3, (0, 0, 0, 0)), none, none, some (.aload_n 0, 1, (0, 0, 0, 0)), some (.invokevirtual 336, 3, (8, 222, 0, 12)), none, none, some (.iconst 0, 1, (0, 0, 0, 0)), some (.istore_n 3, 1, (0, 0, 0, 0)), some (.iload_n 3, 1, (0, 0, 0, 0)), some (.aload_n 0, 1, (0, 0, 0, 0)), some (.getfield 82, 3, (1, 12, 11, 0)), none, none, some (.if_icmp .ge 25, 3, (0, 0, 0, 0)), none, none, some (.aload_n 0, 1, (0, 0, 0, 0)), some (.getfield 29, 3, (1, 12, 9, 1)), none, none, some (.iconst 5, 1, (0, 0, 0, 0)), some (.iload_n 3, 1, (0, 0, 0, 0)), some (.imul, 1, (0, 0, 0, 0)), some (.iconst 2, 1, (0, 0, 0, 0)), some (.iadd, 1, (0, 0, 0, 0)), some (.aload_n 0, 1, (0, 0, 0, 0)), some (.getfield 48, 3, (1, 12, 34, 1)), none, none, some (.iload_n 3, 1, (0, 0, 0, 0)), some (.iaload, 1, (0, 0, 0, 0)), some (.iastore, 1, (0, 0, 0, 0)), some (.iinc 3 1, 3, (0, 0, 0, 0)), none, none, some (.goto (-27), 3, (0, 0, 0, 0)), none, none, some (.return_, 1, (0, 0, 0, 0))]
def q_235 : ak_Q := (yX12_draws, cX12_draws, 4, none, k_235, 12)
set_option maxRecDepth 100000 in
def k_236 : List ak_I := [some (.iload_n 2, 1, (0, 0, 0, 0)), some (.i2l, 1, (0, 0, 0, 0)), some (.lconst 1, 1, (0, 0, 0, 0)), some (.ldc2_w 128, 3, (6, 0, 0, 20)), none, none, some (.invokestatic 85, 3, (11, 169, 3, 0)), none, none, some (.ifCond .eq 13, 3, (0, 0, 0, 0)), none, none, some (.iload_n 3, 1, (0, 0, 0, 0)), some (.i2l, 1, (0, 0, 0, 0)), some (.lconst 0, 1, (0, 0, 0, 0)), some (.lconst 1, 1, (0, 0, 0, 0)), some (.invokestatic 85, 3, (11, 169, 3, 0)), none, none, some (.ifCond .ne 7, 3, (0, 0, 0, 0)), none, none, some (.ldc2_w 355, 3, (6, 0, 0, -4611686018427387904)), none, none, some (.lreturn, 1, (0, 0, 0, 0)), some (.lconst 0, 1, (0, 0, 0, 0)), some (.lstore 4, 2, (0, 0, 0, 0)), none, some (.iconst 0, 1, (0, 0, 0, 0)), some (.istore 6, 2, (0, 0, 0, 0)), none, some (.iload 6, 2, (0, 0, 0, 0)), none, some (.iload_n 2, 1, (0, 0, 0, 0)), some (.if_icmp .ge 34, 3, (0, 0, 0, 0)), none, none, some (.aload_n 0, 1, (0, 0, 0, 0)), some (.iload_n 1, 1, (0, 0, 0, 0)), some (.iload 6, 2, (0, 0, 0, 0)), none, some (.iadd, 1, (0, 0, 0, 0)), some (.invokevirtual 352, 3, (8, 235, 1, 12)), none, none, some (.lload 4, 2, (0, 0, 0, 0)), none, some (.aload_n 0, 1, (0, 0, 0, 0)), some (.invokevirtual 339, 3, (8, 225, 0, 12)), none, none, some (.ifCond .ne 7, 3, (0, 0, 0, 0)), none, none, some (.lconst 1, 1, (0, 0, 0, 0)), some (.goto 4, 3, (0, 0, 0, 0)), none, none, some (.lconst 0, 1, (0, 0, 0, 0)), some (.ladd, 1, (0, 0, 0, 0)), some (.lstore 4, 2, (0, 0, 0, 0)), none, some (.iinc 6 1, 3, (0, 0, 0, 0)), none, none, some (.goto (-34), 3, (0, 0, 0, 0)), none, none, some (.lload 4, 2, (0, 0, 0, 0)), none, some (.lstore 6, 2, (0, 0, 0, 0)), none, some (.iload_n 2, 1, (0, 0, 0, 0)), some (.i2l, 1, (0, 0, 0, 0)), some (.lstore 8, 2, (0, 0, 0, 0)), none, some (.lload 8, 2, (0, 0, 0, 0)), none, some (.lconst 0, 1, (0, 0, 0, 0)), some (.lcmp, 1, (0, 0, 0, 0)), some (.ifCond .eq 21, 3, (0, 0, 0, 0)), none, none, some (.lload 6, 2, (0, 0, 0, 0)), none, some (.lload 8, 2, (0, 0, 0, 0)), none, some (.lrem, 1, (0, 0, 0, 0)), some (.lstore 10, 2, (0, 0, 0, 0)), none, some (.lload 8, 2, (0, 0, 0, 0)), none, some (.lstore 6, 2, (0, 0, 0, 0)), none, some (.lload 10, 2, (0, 0, 0, 0)), none, some (.lstore 8, 2, (0, 0, 0, 0)), none, some (.goto (-22), 3, (0, 0, 0, 0)), none, none, some (.iload_n 3, 1, (0, 0, 0, 0)), some (.ifCond .ne 11, 3, (0, 0, 0, 0)), none, none, some (.lload 4, 2, (0, 0, 0, 0)), none, some (.lload 6, 2, (0, 0, 0, 0)), none, some (.ldiv, 1, (0, 0, 0, 0)), some (.goto 8, 3, (0, 0, 0, 0)), none, none, some (.iload_n 2, 1, (0, 0, 0, 0)), some (.i2l, 1, (0, 0, 0, 0)), some (.lload 6, 2, (0, 0, 0, 0)), none, some (.ldiv, 1, (0, 0, 0, 0)), some (.lreturn, 1, (0, 0, 0, 0))]
def q_236 : ak_Q := (yX12_chance, cX12_chance, 12, (some .long), k_236, 12)
set_option maxRecDepth 100000 in
def k_237 : List ak_I := [some (.iconst 0, 1, (0, 0, 0, 0)), some (.istore_n 1, 1, (0, 0, 0, 0)), some (.iload_n 1, 1, (0, 0, 0, 0)), some (.iconst 3, 1, (0, 0, 0, 0)), some (.if_icmp .ge 21, 3, (0, 0, 0, 0)), none, none, some (.aload_n 0, 1, (0, 0, 0, 0)), some (.getfield 51, 3, (1, 12, 35, 1)), none, none, some (.iload_n 1, 1, (0, 0, 0, 0)), some (.aload_n 0, 1, (0, 0, 0, 0)), some (.getfield 23, 3, (1, 12, 7, 1)), none, none, some (.iload_n 1, 1, (0, 0, 0, 0)), some (.iaload, 1, (0, 0, 0, 0)), some (.iastore, 1, (0, 0, 0, 0)), some (.iinc 1 1, 3, (0, 0, 0, 0)), none, none, some (.goto (-20), 3, (0, 0, 0, 0)), none, none, some (.iconst 0, 1, (0, 0, 0, 0)), some (.istore_n 1, 1, (0, 0, 0, 0)), some (.iload_n 1, 1, (0, 0, 0, 0)), some (.bipush 20, 2, (0, 0, 0, 0)), none, some (.if_icmp .ge 21, 3, (0, 0, 0, 0)), none, none, some (.aload_n 0, 1, (0, 0, 0, 0)), some (.getfield 54, 3, (1, 12, 36, 1)), none, none, some (.iload_n 1, 1, (0, 0, 0, 0)), some (.aload_n 0, 1, (0, 0, 0, 0)), some (.getfield 29, 3, (1, 12, 9, 1)), none, none, some (.iload_n 1, 1, (0, 0, 0, 0)), some (.iaload, 1, (0, 0, 0, 0)), some (.iastore, 1, (0, 0, 0, 0)), some (.iinc 1 1, 3, (0, 0, 0, 0)), none, none, some (.goto (-21), 3, (0, 0, 0, 0)), none, none, some (.iconst 0, 1, (0, 0, 0, 0)), some (.istore_n 1, 1, (0, 0, 0, 0)), some (.iload_n 1, 1, (0, 0, 0, 0)), some (.iconst 4, 1, (0, 0, 0, 0)), some (.if_icmp .ge 21, 3, (0, 0, 0, 0)), none, none, some (.aload_n 0, 1, (0, 0, 0, 0)), some (.getfield 57, 3, (1, 12, 37, 1)), none, none, some (.iload_n 1, 1, (0, 0, 0, 0)), some (.aload_n 0, 1, (0, 0, 0, 0)), some (.getfield 32, 3, (1, 12, 10, 1)), none, none, some (.iload_n 1, 1, (0, 0, 0, 0)), some (.iaload, 1, (0, 0, 0, 0)), some (.iastore, 1, (0, 0, 0, 0)), some (.iinc 1 1, 3, (0, 0, 0, 0)), none, none, some (.goto (-20), 3, (0, 0, 0, 0)), none, none, some (.aload_n 0, 1, (0, 0, 0, 0)), some (.aload_n 0, 1, (0, 0, 0, 0)), some (.getfield 82, 3, (1, 12, 11, 0)), none, none, some (.putfield 60, 3, (1, 12, 38, 0)), none, none, some (.aload_n 0, 1, (0, 0, 0, 0)), some (.aload_n 0, 1, (0, 0, 0, 0)), some (.getfield 109, 3, (1, 12, 4, 0)), none, none, some (.putfield 357, 3, (1, 12, 39, 0)), none, none, some (.aload_n 0, 1, (0, 0, 0, 0)), some (.getfield 82, 3, (1, 12, 11, 0)), none, none, some (.ireturn, 1, (0, 0, 0, 0))]
def q_237 : ak_Q := (yX12_image, cX12_image, 2, (some .int), k_237, 12)
set_option maxRecDepth 100000 in
def k_238 : List ak_I := [some (.aload_n 0, 1, (0, 0, 0, 0)), some (.getfield 60, 3, (1, 12, 38, 0)), none, none, some (.iconst (-1), 1, (0, 0, 0, 0)), some (.if_icmp .ne 6, 3, (0, 0, 0, 0)), none, none, some (.bipush (-3), 2, (0, 0, 0, 0)), none, some (.ireturn, 1, (0, 0, 0, 0)), some (.iconst 0, 1, (0, 0, 0, 0)), some (.istore_n 1, 1, (0, 0, 0, 0)), some (.iload_n 1, 1, (0, 0, 0, 0)), some (.iconst 3, 1, (0, 0, 0, 0)), some (.if_icmp .ge 21, 3, (0, 0, 0, 0)), none, none, some (.aload_n 0, 1, (0, 0, 0, 0)), some (.getfield 23, 3, (1, 12, 7, 1)), none, none, some (.iload_n 1, 1, (0, 0, 0, 0)), some (.aload_n 0, 1, (0, 0, 0, 0)), some (.getfield 51, 3, (1, 12, 35, 1)), none, none, some (.iload_n 1, 1, (0, 0, 0, 0)), some (.iaload, 1, (0, 0, 0, 0)), some (.iastore, 1, (0, 0, 0, 0)), some (.iinc 1 1, 3, (0, 0, 0, 0)), none, none, some (.goto (-20), 3, (0, 0, 0, 0)), none, none, some (.iconst 0, 1, (0, 0, 0, 0)), some (.istore_n 1, 1, (0, 0, 0, 0)), some (.iload_n 1, 1, (0, 0, 0, 0)), some (.bipush 20, 2, (0, 0, 0, 0)), none, some (.if_icmp .ge 21, 3, (0, 0, 0, 0)), none, none, some (.aload_n 0, 1, (0, 0, 0, 0)), some (.getfield 29, 3, (1, 12, 9, 1)), none, none, some (.iload_n 1, 1, (0, 0, 0, 0)), some (.aload_n 0, 1, (0, 0, 0, 0)), some (.getfield 54, 3, (1, 12, 36, 1)), none, none, some (.iload_n 1, 1, (0, 0, 0, 0)), some (.iaload, 1, (0, 0, 0, 0)), some (.iastore, 1, (0, 0, 0, 0)), some (.iinc 1 1, 3, (0, 0, 0, 0)), none, none, some (.goto (-21), 3, (0, 0, 0, 0)), none, none, some (.iconst 0, 1, (0, 0, 0, 0)), some (.istore_n 1, 1, (0, 0, 0, 0)), some (.iload_n 1, 1, (0, 0, 0, 0)), some (.iconst 4, 1, (0, 0, 0, 0)), some (.if_icmp .ge 21, 3, (0, 0, 0, 0)), none, none, some (.aload_n 0, 1, (0, 0, 0, 0)), some (.getfield 32, 3, (1, 12, 10, 1)), none, none, some (.iload_n 1, 1, (0, 0, 0, 0)), some (.aload_n 0, 1, (0, 0, 0, 0)), some (.getfield 57, 3, (1, 12, 37, 1)), none, none, some (.iload_n 1, 1, (0, 0, 0, 0)), some (.iaload, 1, (0, 0, 0, 0)), some (.iastore, 1, (0, 0, 0, 0)), some (.iinc 1 1, 3, (0, 0, 0, 0)), none, none, some (.goto (-20), 3, (0, 0, 0, 0)), none, none, some (.aload_n 0, 1, (0, 0, 0, 0)), some (.aload_n 0, 1, (0, 0, 0, 0)), some (.getfield 60, 3, (1, 12, 38, 0)), none, none, some (.putfield 82, 3, (1, 12, 11, 0)), none, none, some (.aload_n 0, 1, (0, 0, 0, 0)), some (.aload_n 0, 1, (0, 0, 0, 0)), some (.getfield 357, 3, (1, 12, 39, 0)), none, none, some (.putfield 109, 3, (1, 12, 4, 0)), none, none, some (.aload_n 0, 1, (0, 0, 0, 0)), some (.getfield 82, 3, (1, 12, 11, 0)), none, none, some (.ireturn, 1, (0, 0, 0, 0))]
def q_238 : ak_Q := (yX12_back, cX12_back, 2, (some .int), k_238, 12)
set_option maxRecDepth 100000 in
def k_239 : List ak_I := [some (.iload_n 1, 1, (0, 0, 0, 0)), some (.i2l, 1, (0, 0, 0, 0)), some (.lconst 0, 1, (0, 0, 0, 0)), some (.ldc2_w 91, 3, (6, 0, 0, 6)), none, none, some (.invokestatic 85, 3, (11, 169, 3, 0)), none, none, some (.ifCond .ne 6, 3, (0, 0, 0, 0)), none, none, some (.bipush (-2), 2, (0, 0, 0, 0)), none, some (.ireturn, 1, (0, 0, 0, 0)), some (.iload_n 1, 1, (0, 0, 0, 0)), some (.iconst 3, 1, (0, 0, 0, 0)), some (.if_icmp .le 32, 3, (0, 0, 0, 0)), none, none, some (.iload_n 1, 1, (0, 0, 0, 0)), some (.iconst 4, 1, (0, 0, 0, 0)), some (.if_icmp .ne 10, 3, (0, 0, 0, 0)), none, none, some (.aload_n 0, 1, (0, 0, 0, 0)), some (.getfield 79, 3, (1, 12, 3, 0)), none, none, some (.goto 19, 3, (0, 0, 0, 0)), none, none, some (.iload_n 1, 1, (0, 0, 0, 0)), some (.iconst 5, 1, (0, 0, 0, 0)), some (.if_icmp .ne 10, 3, (0, 0, 0, 0)), none, none, some (.aload_n 0, 1, (0, 0, 0, 0)), some (.getfield 152, 3, (1, 12, 6, 0)), none, none, some (.goto 7, 3, (0, 0, 0, 0)), none, none, some (.aload_n 0, 1, (0, 0, 0, 0)), some (.getfield 109, 3, (1, 12, 4, 0)), none, none, some (.ireturn, 1, (0, 0, 0, 0)), some (.iconst 0, 1, (0, 0, 0, 0)), some (.istore_n 2, 1, (0, 0, 0, 0)), some (.iconst 0, 1, (0, 0, 0, 0)), some (.istore_n 3, 1, (0, 0, 0, 0)), some (.iconst 0, 1, (0, 0, 0, 0)), some (.istore 4, 2, (0, 0, 0, 0)), none, some (.iconst 0, 1, (0, 0, 0, 0)), some (.istore 5, 2, (0, 0, 0, 0)), none, some (.iload 5, 2, (0, 0, 0, 0)), none, some (.aload_n 0, 1, (0, 0, 0, 0)), some (.getfield 82, 3, (1, 12, 11, 0)), none, none, some (.if_icmp .ge 61, 3, (0, 0, 0, 0)), none, none, some (.iload_n 2, 1, (0, 0, 0, 0)), some (.aload_n 0, 1, (0, 0, 0, 0)), some (.getfield 29, 3, (1, 12, 9, 1)), none, none, some (.iconst 5, 1, (0, 0, 0, 0)), some (.iload 5, 2, (0, 0, 0, 0)), none, some (.imul, 1, (0, 0, 0, 0)), some (.iconst 4, 1, (0, 0, 0, 0)), some (.iadd, 1, (0, 0, 0, 0)), some (.iaload, 1, (0, 0, 0, 0)), some (.iconst (-1), 1, (0, 0, 0, 0)), some (.if_icmp .ne 7, 3, (0, 0, 0, 0)), none, none, some (.iconst 0, 1, (0, 0, 0, 0)), some (.goto 4, 3, (0, 0, 0, 0)), none, none, some (.iconst 1, 1, (0, 0, 0, 0)), some (.iadd, 1, (0, 0, 0, 0)), some (.istore_n 2, 1, (0, 0, 0, 0)), some (.iload_n 3, 1, (0, 0, 0, 0)), some (.aload_n 0, 1, (0, 0, 0, 0)), some (.getfield 32, 3, (1, 12, 10, 1)), none, none, some (.iload 5, 2, (0, 0, 0, 0)), none, some (.iaload, 1, (0, 0, 0, 0)), some (.invokestatic 284, 3, (11, 214, 1, 0)), none, none, some (.iadd, 1, (0, 0, 0, 0)), some (.istore_n 3, 1, (0, 0, 0, 0)), some (.iload 4, 2, (0, 0, 0, 0)), none, some (.aload_n 0, 1, (0, 0, 0, 0)), some (.getfield 29, 3, (1, 12, 9, 1)), none, none, some (.iconst 5, 1, (0, 0, 0, 0)), some (.iload 5, 2, (0, 0, 0, 0)), none, some (.imul, 1, (0, 0, 0, 0)), some (.iconst 3, 1, (0, 0, 0, 0)), some (.iadd, 1, (0, 0, 0, 0)), some (.iaload, 1, (0, 0, 0, 0)), some (.iadd, 1, (0, 0, 0, 0)), some (.istore 4, 2, (0, 0, 0, 0)), none, some (.iinc 5 1, 3, (0, 0, 0, 0)), none, none, some (.goto (-64), 3, (0, 0, 0, 0)), none, none, some (.iload_n 1, 1, (0, 0, 0, 0)), some (.ifCond .ne 10, 3, (0, 0, 0, 0)), none, none, some (.aload_n 0, 1, (0, 0, 0, 0)), some (.getfield 82, 3, (1, 12, 11, 0)), none, none, some (.goto 25, 3, (0, 0, 0, 0)), none, none, some (.iload_n 1, 1, (0, 0, 0, 0)), some (.iconst 1, 1, (0, 0, 0, 0)), some (.if_icmp .ne 7, 3, (0, 0, 0, 0)), none, none, some (.iload_n 2, 1, (0, 0, 0, 0)), some (.goto 16, 3, (0, 0, 0, 0)), none, none, some (.iload_n 1, 1, (0, 0, 0, 0)), some (.iconst 2, 1, (0, 0, 0, 0)), some (.if_icmp .ne 9, 3, (0, 0, 0, 0)), none, none, some (.iload_n 3, 1, (0, 0, 0, 0)), some (.iconst 2, 1, (0, 0, 0, 0)), some (.idiv, 1, (0, 0, 0, 0)), some (.goto 5, 3, (0, 0, 0, 0)), none, none, some (.iload 4, 2, (0, 0, 0, 0)), none, some (.ireturn, 1, (0, 0, 0, 0))]
def q_239 : ak_Q := (yX12_count, cX12_count, 6, (some .int), k_239, 12)
set_option maxRecDepth 100000 in
def k_240 : List ak_I := [some (.iload_n 1, 1, (0, 0, 0, 0)), some (.invokestatic 342, 3, (11, 230, 1, 0)), none, none, some (.ifCond .ne 6, 3, (0, 0, 0, 0)), none, none, some (.bipush (-2), 2, (0, 0, 0, 0)), none, some (.ireturn, 1, (0, 0, 0, 0)), some (.aload_n 0, 1, (0, 0, 0, 0)), some (.getfield 63, 3, (1, 12, 40, 1)), none, none, some (.iload_n 1, 1, (0, 0, 0, 0)), some (.baload, 1, (0, 0, 0, 0)), some (.ifCond .ne 6, 3, (0, 0, 0, 0)), none, none, some (.bipush (-11), 2, (0, 0, 0, 0)), none, some (.ireturn, 1, (0, 0, 0, 0)), some (.iload_n 2, 1, (0, 0, 0, 0)), some (.i2l, 1, (0, 0, 0, 0)), some (.lconst 0, 1, (0, 0, 0, 0)), some (.aload_n 0, 1, (0, 0, 0, 0)), some (.getfield 69, 3, (1, 12, 42, 1)), none, none, some (.iload_n 1, 1, (0, 0, 0, 0)), some (.iaload, 1, (0, 0, 0, 0)), some (.iconst 1, 1, (0, 0, 0, 0)), some (.isub, 1, (0, 0, 0, 0)), some (.i2l, 1, (0, 0, 0, 0)), some (.invokestatic 85, 3, (11, 169, 3, 0)), none, none, some (.ifCond .ne 6, 3, (0, 0, 0, 0)), none, none, some (.bipush (-12), 2, (0, 0, 0, 0)), none, some (.ireturn, 1, (0, 0, 0, 0)), some (.aload_n 0, 1, (0, 0, 0, 0)), some (.getfield 72, 3, (1, 12, 43, 1)), none, none, some (.bipush 40, 2, (0, 0, 0, 0)), none, some (.iload_n 1, 1, (0, 0, 0, 0)), some (.imul, 1, (0, 0, 0, 0)), some (.iload_n 2, 1, (0, 0, 0, 0)), some (.iadd, 1, (0, 0, 0, 0)), some (.aload_n 0, 1, (0, 0, 0, 0)), some (.getfield 66, 3, (1, 12, 41, 1)), none, none, some (.iload_n 1, 1, (0, 0, 0, 0)), some (.iaload, 1, (0, 0, 0, 0)), some (.ifCond .ne 8, 3, (0, 0, 0, 0)), none, none, some (.iload_n 3, 1, (0, 0, 0, 0)), some (.i2b, 1, (0, 0, 0, 0)), some (.goto 19, 3, (0, 0, 0, 0)), none, none, some (.aload_n 0, 1, (0, 0, 0, 0)), some (.getfield 66, 3, (1, 12, 41, 1)), none, none, some (.iload_n 1, 1, (0, 0, 0, 0)), some (.iaload, 1, (0, 0, 0, 0)), some (.iconst 1, 1, (0, 0, 0, 0)), some (.if_icmp .ne 8, 3, (0, 0, 0, 0)), none, none, some (.iload_n 3, 1, (0, 0, 0, 0)), some (.i2s, 1, (0, 0, 0, 0)), some (.goto 4, 3, (0, 0, 0, 0)), none, none, some (.iload_n 3, 1, (0, 0, 0, 0)), some (.iastore, 1, (0, 0, 0, 0)), some (.iconst 1, 1, (0, 0, 0, 0)), some (.ireturn, 1, (0, 0, 0, 0))]
def q_240 : ak_Q := (yX12_cell, cX12_cell, 4, (some .int), k_240, 12)
set_option maxRecDepth 100000 in
def k_241 : List ak_I := [some (.iload_n 1, 1, (0, 0, 0, 0)), some (.invokestatic 342, 3, (11, 230, 1, 0)), none, none, some (.ifCond .eq 10, 3, (0, 0, 0, 0)), none, none, some (.iload_n 3, 1, (0, 0, 0, 0)), some (.invokestatic 342, 3, (11, 230, 1, 0)), none, none, some (.ifCond .ne 6, 3, (0, 0, 0, 0)), none, none, some (.bipush (-2), 2, (0, 0, 0, 0)), none, some (.ireturn, 1, (0, 0, 0, 0)), some (.aload_n 0, 1, (0, 0, 0, 0)), some (.getfield 63, 3, (1, 12, 40, 1)), none, none, some (.iload_n 1, 1, (0, 0, 0, 0)), some (.baload, 1, (0, 0, 0, 0)), some (.ifCond .eq 12, 3, (0, 0, 0, 0)), none, none, some (.aload_n 0, 1, (0, 0, 0, 0)), some (.getfield 63, 3, (1, 12, 40, 1)), none, none, some (.iload_n 3, 1, (0, 0, 0, 0)), some (.baload, 1, (0, 0, 0, 0)), some (.ifCond .ne 6, 3, (0, 0, 0, 0)), none, none, some (.bipush (-11), 2, (0, 0, 0, 0)), none, some (.ireturn, 1, (0, 0, 0, 0)), some (.aload_n 0, 1, (0, 0, 0, 0)), some (.getfield 66, 3, (1, 12, 41, 1)), none, none, some (.iload_n 1, 1, (0, 0, 0, 0)), some (.iaload, 1, (0, 0, 0, 0)), some (.aload_n 0, 1, (0, 0, 0, 0)), some (.getfield 66, 3, (1, 12, 41, 1)), none, none, some (.iload_n 3, 1, (0, 0, 0, 0)), some (.iaload, 1, (0, 0, 0, 0)), some (.if_icmp .eq 6, 3, (0, 0, 0, 0)), none, none, some (.bipush (-13), 2, (0, 0, 0, 0)), none, some (.ireturn, 1, (0, 0, 0, 0)), some (.iload 5, 2, (0, 0, 0, 0)), none, some (.ifCond .lt 39, 3, (0, 0, 0, 0)), none, none, some (.iload_n 2, 1, (0, 0, 0, 0)), some (.ifCond .lt 35, 3, (0, 0, 0, 0)), none, none, some (.iload 4, 2, (0, 0, 0, 0)), none, some (.ifCond .lt 30, 3, (0, 0, 0, 0)), none, none, some (.iload_n 2, 1, (0, 0, 0, 0)), some (.aload_n 0, 1, (0, 0, 0, 0)), some (.getfield 69, 3, (1, 12, 42, 1)), none, none, some (.iload_n 1, 1, (0, 0, 0, 0)), some (.iaload, 1, (0, 0, 0, 0)), some (.iload 5, 2, (0, 0, 0, 0)), none, some (.isub, 1, (0, 0, 0, 0)), some (.if_icmp .gt 17, 3, (0, 0, 0, 0)), none, none, some (.iload 4, 2, (0, 0, 0, 0)), none, some (.aload_n 0, 1, (0, 0, 0, 0)), some (.getfield 69, 3, (1, 12, 42, 1)), none, none, some (.iload_n 3, 1, (0, 0, 0, 0)), some (.iaload, 1, (0, 0, 0, 0)), some (.iload 5, 2, (0, 0, 0, 0)), none, some (.isub, 1, (0, 0, 0, 0)), some (.if_icmp .le 6, 3, (0, 0, 0, 0)), none, none, some (.bipush (-12), 2, (0, 0, 0, 0)), none, some (.ireturn, 1, (0, 0, 0, 0)), some (.iload_n 1, 1, (0, 0, 0, 0)), some (.iload_n 3, 1, (0, 0, 0, 0)), some (.if_icmp .ne 13, 3, (0, 0, 0, 0)), none, none, some (.iload_n 2, 1, (0, 0, 0, 0)), some (.iload 4, 2, (0, 0, 0, 0)), none, some (.if_icmp .ge 7, 3, (0, 0, 0, 0)), none, none, some (.iconst 1, 1, (0, 0, 0, 0)), some (.goto 4, 3, (0, 0, 0, 0)), none, none, some (.iconst 0, 1, (0, 0, 0, 0)), some (.istore 6, 2, (0, 0, 0, 0)), none, some (.iconst 0, 1, (0, 0, 0, 0)), some (.istore 7, 2, (0, 0, 0, 0)), none, some (.iload 7, 2, (0, 0, 0, 0)), none, some (.iload 5, 2, (0, 0, 0, 0)), none, some (.if_icmp .ge 57, 3, (0, 0, 0, 0)), none, none, some (.iload 6, 2, (0, 0, 0, 0)), none, some (.ifCond .eq 13, 3, (0, 0, 0, 0)), none, none, some (.iload 5, 2, (0, 0, 0, 0)), none, some (.iconst 1, 1, (0, 0, 0, 0)), some (.isub, 1, (0, 0, 0, 0)), some (.iload 7, 2, (0, 0, 0, 0)), none, some (.isub, 1, (0, 0, 0, 0)), some (.goto 5, 3, (0, 0, 0, 0)), none, none, some (.iload 7, 2, (0, 0, 0, 0)), none, some (.istore 8, 2, (0, 0, 0, 0)), none, some (.aload_n 0, 1, (0, 0, 0, 0)), some (.getfield 72, 3, (1, 12, 43, 1)), none, none, some (.bipush 40, 2, (0, 0, 0, 0)), none, some (.iload_n 3, 1, (0, 0, 0, 0)), some (.imul, 1, (0, 0, 0, 0)), some (.iload 4, 2, (0, 0, 0, 0)), none, some (.iadd, 1, (0, 0, 0, 0)), some (.iload 8, 2, (0, 0, 0, 0)), none, some (.iadd, 1, (0, 0, 0, 0)), some (.aload_n 0, 1, (0, 0, 0, 0)), some (.getfield 72, 3, (1, 12, 43, 1)), none, none, some (.bipush 40, 2, (0, 0, 0, 0)), none, some (.iload_n 1, 1, (0, 0, 0, 0)), some (.imul, 1, (0, 0, 0, 0)), some (.iload_n 2, 1, (0, 0, 0, 0)), some (.iadd, 1, (0, 0, 0, 0)), some (.iload 8, 2, (0, 0, 0, 0)), none, some (.iadd, 1, (0, 0, 0, 0)), some (.iaload, 1, (0, 0, 0, 0)), some (.iastore, 1, (0, 0, 0, 0)), some (.iinc 7 1, 3, (0, 0, 0, 0)), none, none, some (.goto (-58), 3, (0, 0, 0, 0)), none, none, some (.iload 5, 2, (0, 0, 0, 0)), none, some (.ireturn, 1, (0, 0, 0, 0))]
def q_241 : ak_Q := (yX12_copy, cX12_copy, 9, (some .int), k_241, 12)
set_option maxRecDepth 100000 in
def k_242 : List ak_I := [some (.iload_n 1, 1, (0, 0, 0, 0)), some (.invokestatic 342, 3, (11, 230, 1, 0)), none, none, some (.ifCond .eq 28, 3, (0, 0, 0, 0)), none, none, some (.iload_n 2, 1, (0, 0, 0, 0)), some (.i2l, 1, (0, 0, 0, 0)), some (.lconst 0, 1, (0, 0, 0, 0)), some (.ldc2_w 293, 3, (6, 0, 0, 2)), none, none, some (.invokestatic 85, 3, (11, 169, 3, 0)), none, none, some (.ifCond .eq 16, 3, (0, 0, 0, 0)), none, none, some (.iload 4, 2, (0, 0, 0, 0)), none, some (.i2l, 1, (0, 0, 0, 0)), some (.lconst 0, 1, (0, 0, 0, 0)), some (.ldc2_w 116, 3, (6, 0, 0, 4)), none, none, some (.invokestatic 85, 3, (11, 169, 3, 0)), none, none, some (.ifCond .ne 6, 3, (0, 0, 0, 0)), none, none, some (.bipush (-2), 2, (0, 0, 0, 0)), none, some (.ireturn, 1, (0, 0, 0, 0)), some (.aload_n 0, 1, (0, 0, 0, 0)), some (.getfield 63, 3, (1, 12, 40, 1)), none, none, some (.iload_n 1, 1, (0, 0, 0, 0)), some (.baload, 1, (0, 0, 0, 0)), some (.ifCond .eq 16, 3, (0, 0, 0, 0)), none, none, some (.aload_n 0, 1, (0, 0, 0, 0)), some (.getfield 66, 3, (1, 12, 41, 1)), none, none, some (.iload_n 1, 1, (0, 0, 0, 0)), some (.iaload, 1, (0, 0, 0, 0)), some (.iload_n 2, 1, (0, 0, 0, 0)), some (.if_icmp .eq 6, 3, (0, 0, 0, 0)), none, none, some (.bipush (-13), 2, (0, 0, 0, 0)), none, some (.ireturn, 1, (0, 0, 0, 0)), some (.aload_n 0, 1, (0, 0, 0, 0)), some (.getfield 63, 3, (1, 12, 40, 1)), none, none, some (.iload_n 1, 1, (0, 0, 0, 0)), some (.baload, 1, (0, 0, 0, 0)), some (.ifCond .ne 6, 3, (0, 0, 0, 0)), none, none, some (.bipush (-11), 2, (0, 0, 0, 0)), none, some (.ireturn, 1, (0, 0, 0, 0)), some (.iconst 0, 1, (0, 0, 0, 0)), some (.istore 5, 2, (0, 0, 0, 0)), none, some (.iconst 0, 1, (0, 0, 0, 0)), some (.istore 6, 2, (0, 0, 0, 0)), none, some (.iload 6, 2, (0, 0, 0, 0)), none, some (.iload 4, 2, (0, 0, 0, 0)), none, some (.if_icmp .ge 88, 3, (0, 0, 0, 0)), none, none, some (.iload_n 3, 1, (0, 0, 0, 0)), some (.ifCond .lt 20, 3, (0, 0, 0, 0)), none, none, some (.iload_n 3, 1, (0, 0, 0, 0)), some (.aload_n 0, 1, (0, 0, 0, 0)), some (.getfield 69, 3, (1, 12, 42, 1)), none, none, some (.iload_n 1, 1, (0, 0, 0, 0)), some (.iaload, 1, (0, 0, 0, 0)), some (.iconst 3, 1, (0, 0, 0, 0)), some (.iload 6, 2, (0, 0, 0, 0)), none, some (.imul, 1, (0, 0, 0, 0)), some (.isub, 1, (0, 0, 0, 0)), some (.iconst 3, 1, (0, 0, 0, 0)), some (.isub, 1, (0, 0, 0, 0)), some (.if_icmp .le 6, 3, (0, 0, 0, 0)), none, none, some (.bipush (-12), 2, (0, 0, 0, 0)), none, some (.ireturn, 1, (0, 0, 0, 0)), some (.bipush 40, 2, (0, 0, 0, 0)), none, some (.iload_n 1, 1, (0, 0, 0, 0)), some (.imul, 1, (0, 0, 0, 0)), some (.iload_n 3, 1, (0, 0, 0, 0)), some (.iadd, 1, (0, 0, 0, 0)), some (.iconst 3, 1, (0, 0, 0, 0)), some (.iload 6, 2, (0, 0, 0, 0)), none, some (.imul, 1, (0, 0, 0, 0)), some (.iadd, 1, (0, 0, 0, 0)), some (.istore 7, 2, (0, 0, 0, 0)), none, some (.iload 5, 2, (0, 0, 0, 0)), none, some (.aload_n 0, 1, (0, 0, 0, 0)), some (.aload_n 0, 1, (0, 0, 0, 0)), some (.getfield 72, 3, (1, 12, 43, 1)), none, none, some (.iload 7, 2, (0, 0, 0, 0)), none, some (.iaload, 1, (0, 0, 0, 0)), some (.aload_n 0, 1, (0, 0, 0, 0)), some (.getfield 72, 3, (1, 12, 43, 1)), none, none, some (.iload 7, 2, (0, 0, 0, 0)), none, some (.iconst 1, 1, (0, 0, 0, 0)), some (.iadd, 1, (0, 0, 0, 0)), some (.iaload, 1, (0, 0, 0, 0)), some (.aload_n 0, 1, (0, 0, 0, 0)), some (.getfield 72, 3, (1, 12, 43, 1)), none, none, some (.iload 7, 2, (0, 0, 0, 0)), none, some (.iconst 2, 1, (0, 0, 0, 0)), some (.iadd, 1, (0, 0, 0, 0)), some (.iaload, 1, (0, 0, 0, 0)), some (.invokevirtual 362, 3, (8, 198, 3, 12)), none, none, some (.ifCond .lt 7, 3, (0, 0, 0, 0)), none, none, some (.iconst 1, 1, (0, 0, 0, 0)), some (.goto 4, 3, (0, 0, 0, 0)), none, none, some (.iconst 0, 1, (0, 0, 0, 0)), some (.iadd, 1, (0, 0, 0, 0)), some (.istore 5, 2, (0, 0, 0, 0)), none, some (.iinc 6 1, 3, (0, 0, 0, 0)), none, none, some (.goto (-89), 3, (0, 0, 0, 0)), none, none, some (.iload 5, 2, (0, 0, 0, 0)), none, some (.ireturn, 1, (0, 0, 0, 0))]
def q_242 : ak_Q := (yX12_clerks, cX12_clerks, 8, (some .int), k_242, 12)
set_option maxRecDepth 100000 in
def k_243 : List ak_I := [some (.iload_n 2, 1, (0, 0, 0, 0)), some (.i2l, 1, (0, 0, 0, 0)), some (.lconst 0, 1, (0, 0, 0, 0)), some (.ldc2_w 112, 3, (6, 0, 0, 5)), none, none, some (.invokestatic 85, 3, (11, 169, 3, 0)), none, none, some (.ifCond .ne 6, 3, (0, 0, 0, 0)), none, none, some (.bipush (-2), 2, (0, 0, 0, 0)), none, some (.ireturn, 1, (0, 0, 0, 0)), some (.aload_n 0, 1, (0, 0, 0, 0)), some (.iload_n 1, 1, (0, 0, 0, 0)), some (.invokevirtual 93, 3, (8, 170, 1, 12)), none, none, some (.ifCond .ne 6, 3, (0, 0, 0, 0)), none, none, some (.bipush (-11), 2, (0, 0, 0, 0)), none, some (.ireturn, 1, (0, 0, 0, 0)), some (.aload_n 0, 1, (0, 0, 0, 0)), some (.getfield 26, 3, (1, 12, 8, 1)), none, none, some (.iload_n 1, 1, (0, 0, 0, 0)), some (.iaload, 1, (0, 0, 0, 0)), some (.istore_n 3, 1, (0, 0, 0, 0)), some (.iload_n 3, 1, (0, 0, 0, 0)), some (.iconst (-1), 1, (0, 0, 0, 0)), some (.if_icmp .eq 16, 3, (0, 0, 0, 0)), none, none, some (.iload_n 3, 1, (0, 0, 0, 0)), some (.iload_n 2, 1, (0, 0, 0, 0)), some (.if_icmp .eq 11, 3, (0, 0, 0, 0)), none, none, some (.iload_n 3, 1, (0, 0, 0, 0)), some (.invokestatic 365, 3, (11, 244, 1, 0)), none, none, some (.istore_n 3, 1, (0, 0, 0, 0)), some (.goto (-15), 3, (0, 0, 0, 0)), none, none, some (.iload_n 3, 1, (0, 0, 0, 0)), some (.iload_n 2, 1, (0, 0, 0, 0)), some (.if_icmp .ne 14, 3, (0, 0, 0, 0)), none, none, some (.aload_n 0, 1, (0, 0, 0, 0)), some (.getfield 29, 3, (1, 12, 9, 1)), none, none, some (.iconst 5, 1, (0, 0, 0, 0)), some (.iload_n 1, 1, (0, 0, 0, 0)), some (.imul, 1, (0, 0, 0, 0)), some (.iaload, 1, (0, 0, 0, 0)), some (.goto 5, 3, (0, 0, 0, 0)), none, none, some (.bipush (-13), 2, (0, 0, 0, 0)), none, some (.ireturn, 1, (0, 0, 0, 0))]
def q_243 : ak_Q := (yX12_taken, cX12_taken, 4, (some .int), k_243, 12)
set_option maxRecDepth 100000 in
def k_244 : List ak_I := [some (.iload_n 0, 1, (0, 0, 0, 0)), some (.ifCond .ne 7, 3, (0, 0, 0, 0)), none, none, some (.iconst (-1), 1, (0, 0, 0, 0)), some (.goto 22, 3, (0, 0, 0, 0)), none, none, some (.iload_n 0, 1, (0, 0, 0, 0)), some (.iconst 3, 1, (0, 0, 0, 0)), some (.if_icmp .ne 7, 3, (0, 0, 0, 0)), none, none, some (.iconst 1, 1, (0, 0, 0, 0)), some (.goto 13, 3, (0, 0, 0, 0)), none, none, some (.iload_n 0, 1, (0, 0, 0, 0)), some (.iconst 4, 1, (0, 0, 0, 0)), some (.if_icmp .ne 7, 3, (0, 0, 0, 0)), none, none, some (.iconst 2, 1, (0, 0, 0, 0)), some (.goto 4, 3, (0, 0, 0, 0)), none, none, some (.iconst 0, 1, (0, 0, 0, 0)), some (.ireturn, 1, (0, 0, 0, 0))]
def q_244 : ak_Q := (yX12_over, cX12_over, 1, (some .int), k_244, 12)
def k_245_0 : List ak_I := [some (.new 7, 3, (7, 11, 0, 0)), none, none, some (.dup, 1, (0, 0, 0, 0)), some (.invokespecial 9, 3, (14, 0, 0, 11)), none, none, some (.astore_n 1, 1, (0, 0, 0, 0)), some (.new 10, 3, (7, 12, 0, 0)), none, none, some (.dup, 1, (0, 0, 0, 0)), some (.invokespecial 12, 3, (14, 166, 0, 12)), none, none, some (.astore_n 2, 1, (0, 0, 0, 0)), some (.iconst 0, 1, (0, 0, 0, 0)), some (.istore_n 3, 1, (0, 0, 0, 0)), some (.iload_n 3, 1, (0, 0, 0, 0)), some (.aload_n 0, 1, (0, 0, 0, 0)), some (.arraylength, 1, (0, 0, 0, 0)), some (.bipush 6, 2, (0, 0, 0, 0)), none, some (.isub, 1, (0, 0, 0, 0)), some (.if_icmp .gt 970, 3, (0, 0, 0, 0)), none, none, some (.aload_n 0, 1, (0, 0, 0, 0)), some (.iload_n 3, 1, (0, 0, 0, 0)), some (.iaload, 1, (0, 0, 0, 0)), some (.bipush 31, 2, (0, 0, 0, 0)), none, some (.iand, 1, (0, 0, 0, 0)), some (.tableswitch 955 0 26 #[123, 166, 209, 252, 285, 318, 341, 354, 377, 400, 413, 436, 459, 482, 515, 528, 571, 604, 627, 671, 684, 697, 720, 763, 806, 869, 922], 123, (0, 0, 0, 0)), none, none, none, none, none, none, none, none, none, none, none, none, none, none, none, none, none, none, none, none, none, none, none, none, none, none, none, none, none, none, none, none, none, none, none, none, none, none, none, none, none, none, none, none, none, none, none, none, none, none, none, none, none, none, none, none, none, none, none, none, none, none, none, none, none, none]
def k_245_1 : List ak_I := [none, none, none, none, none, none, none, none, none, none, none, none, none, none, none, none, none, none, none, none, none, none, none, none, none, none, none, none, none, none, none, none, none, none, none, none, none, none, none, none, none, none, none, none, none, none, none, none, none, none, none, none, none, none, none, none, some (.aload_n 1, 1, (0, 0, 0, 0)), some (.aload_n 0, 1, (0, 0, 0, 0)), some (.iload_n 3, 1, (0, 0, 0, 0)), some (.iconst 1, 1, (0, 0, 0, 0)), some (.iadd, 1, (0, 0, 0, 0)), some (.iaload, 1, (0, 0, 0, 0)), some (.aload_n 0, 1, (0, 0, 0, 0)), some (.iload_n 3, 1, (0, 0, 0, 0)), some (.iconst 2, 1, (0, 0, 0, 0)), some (.iadd, 1, (0, 0, 0, 0)), some (.iaload, 1, (0, 0, 0, 0)), some (.aload_n 0, 1, (0, 0, 0, 0)), some (.iload_n 3, 1, (0, 0, 0, 0)), some (.iconst 3, 1, (0, 0, 0, 0)), some (.iadd, 1, (0, 0, 0, 0)), some (.iaload, 1, (0, 0, 0, 0)), some (.invokevirtual 13, 3, (8, 14, 3, 11)), none, none, some (.aload_n 2, 1, (0, 0, 0, 0)), some (.aload_n 0, 1, (0, 0, 0, 0)), some (.iload_n 3, 1, (0, 0, 0, 0)), some (.iconst 1, 1, (0, 0, 0, 0)), some (.iadd, 1, (0, 0, 0, 0)), some (.iaload, 1, (0, 0, 0, 0)), some (.aload_n 0, 1, (0, 0, 0, 0)), some (.iload_n 3, 1, (0, 0, 0, 0)), some (.iconst 2, 1, (0, 0, 0, 0)), some (.iadd, 1, (0, 0, 0, 0)), some (.iaload, 1, (0, 0, 0, 0)), some (.aload_n 0, 1, (0, 0, 0, 0)), some (.iload_n 3, 1, (0, 0, 0, 0)), some (.iconst 3, 1, (0, 0, 0, 0)), some (.iadd, 1, (0, 0, 0, 0)), some (.iaload, 1, (0, 0, 0, 0)), some (.invokevirtual 17, 3, (8, 168, 3, 12)), none, none, some (.if_icmp .eq 794, 3, (0, 0, 0, 0)), none, none, some (.iconst 0, 1, (0, 0, 0, 0)), some (.ireturn, 1, (0, 0, 0, 0)), some (.aload_n 1, 1, (0, 0, 0, 0))]
def k_245_2 : List ak_I := [some (.aload_n 0, 1, (0, 0, 0, 0)), some (.iload_n 3, 1, (0, 0, 0, 0)), some (.iconst 1, 1, (0, 0, 0, 0)), some (.iadd, 1, (0, 0, 0, 0)), some (.iaload, 1, (0, 0, 0, 0)), some (.aload_n 0, 1, (0, 0, 0, 0)), some (.iload_n 3, 1, (0, 0, 0, 0)), some (.iconst 2, 1, (0, 0, 0, 0)), some (.iadd, 1, (0, 0, 0, 0)), some (.iaload, 1, (0, 0, 0, 0)), some (.aload_n 0, 1, (0, 0, 0, 0)), some (.iload_n 3, 1, (0, 0, 0, 0)), some (.iconst 3, 1, (0, 0, 0, 0)), some (.iadd, 1, (0, 0, 0, 0)), some (.iaload, 1, (0, 0, 0, 0)), some (.invokevirtual 18, 3, (8, 21, 3, 11)), none, none, some (.aload_n 2, 1, (0, 0, 0, 0)), some (.aload_n 0, 1, (0, 0, 0, 0)), some (.iload_n 3, 1, (0, 0, 0, 0)), some (.iconst 1, 1, (0, 0, 0, 0)), some (.iadd, 1, (0, 0, 0, 0)), some (.iaload, 1, (0, 0, 0, 0)), some (.aload_n 0, 1, (0, 0, 0, 0)), some (.iload_n 3, 1, (0, 0, 0, 0)), some (.iconst 2, 1, (0, 0, 0, 0)), some (.iadd, 1, (0, 0, 0, 0)), some (.iaload, 1, (0, 0, 0, 0)), some (.aload_n 0, 1, (0, 0, 0, 0)), some (.iload_n 3, 1, (0, 0, 0, 0)), some (.iconst 3, 1, (0, 0, 0, 0)), some (.iadd, 1, (0, 0, 0, 0)), some (.iaload, 1, (0, 0, 0, 0)), some (.invokevirtual 21, 3, (8, 198, 3, 12)), none, none, some (.if_icmp .eq 751, 3, (0, 0, 0, 0)), none, none, some (.iconst 0, 1, (0, 0, 0, 0)), some (.ireturn, 1, (0, 0, 0, 0)), some (.aload_n 1, 1, (0, 0, 0, 0)), some (.aload_n 0, 1, (0, 0, 0, 0)), some (.iload_n 3, 1, (0, 0, 0, 0)), some (.iconst 1, 1, (0, 0, 0, 0)), some (.iadd, 1, (0, 0, 0, 0)), some (.iaload, 1, (0, 0, 0, 0)), some (.aload_n 0, 1, (0, 0, 0, 0)), some (.iload_n 3, 1, (0, 0, 0, 0)), some (.iconst 2, 1, (0, 0, 0, 0)), some (.iadd, 1, (0, 0, 0, 0)), some (.iaload, 1, (0, 0, 0, 0)), some (.aload_n 0, 1, (0, 0, 0, 0)), some (.iload_n 3, 1, (0, 0, 0, 0)), some (.iconst 3, 1, (0, 0, 0, 0)), some (.iadd, 1, (0, 0, 0, 0)), some (.iaload, 1, (0, 0, 0, 0)), some (.invokevirtual 22, 3, (8, 24, 3, 11)), none, none, some (.aload_n 2, 1, (0, 0, 0, 0)), some (.aload_n 0, 1, (0, 0, 0, 0)), some (.iload_n 3, 1, (0, 0, 0, 0)), some (.iconst 1, 1, (0, 0, 0, 0)), some (.iadd, 1, (0, 0, 0, 0)), some (.iaload, 1, (0, 0, 0, 0)), some (.aload_n 0, 1, (0, 0, 0, 0)), some (.iload_n 3, 1, (0, 0, 0, 0)), some (.iconst 2, 1, (0, 0, 0, 0)), some (.iadd, 1, (0, 0, 0, 0)), some (.iaload, 1, (0, 0, 0, 0)), some (.aload_n 0, 1, (0, 0, 0, 0)), some (.iload_n 3, 1, (0, 0, 0, 0)), some (.iconst 3, 1, (0, 0, 0, 0)), some (.iadd, 1, (0, 0, 0, 0)), some (.iaload, 1, (0, 0, 0, 0)), some (.invokevirtual 25, 3, (8, 200, 3, 12)), none, none, some (.if_icmp .eq 708, 3, (0, 0, 0, 0)), none, none, some (.iconst 0, 1, (0, 0, 0, 0)), some (.ireturn, 1, (0, 0, 0, 0)), some (.aload_n 1, 1, (0, 0, 0, 0)), some (.aload_n 0, 1, (0, 0, 0, 0)), some (.iload_n 3, 1, (0, 0, 0, 0)), some (.iconst 1, 1, (0, 0, 0, 0)), some (.iadd, 1, (0, 0, 0, 0)), some (.iaload, 1, (0, 0, 0, 0)), some (.aload_n 0, 1, (0, 0, 0, 0)), some (.iload_n 3, 1, (0, 0, 0, 0)), some (.iconst 2, 1, (0, 0, 0, 0)), some (.iadd, 1, (0, 0, 0, 0)), some (.iaload, 1, (0, 0, 0, 0)), some (.invokevirtual 26, 3, (8, 25, 2, 11)), none, none, some (.aload_n 2, 1, (0, 0, 0, 0))]
def k_245_3 : List ak_I := [some (.aload_n 0, 1, (0, 0, 0, 0)), some (.iload_n 3, 1, (0, 0, 0, 0)), some (.iconst 1, 1, (0, 0, 0, 0)), some (.iadd, 1, (0, 0, 0, 0)), some (.iaload, 1, (0, 0, 0, 0)), some (.aload_n 0, 1, (0, 0, 0, 0)), some (.iload_n 3, 1, (0, 0, 0, 0)), some (.iconst 2, 1, (0, 0, 0, 0)), some (.iadd, 1, (0, 0, 0, 0)), some (.iaload, 1, (0, 0, 0, 0)), some (.invokevirtual 30, 3, (8, 201, 2, 12)), none, none, some (.if_icmp .eq 675, 3, (0, 0, 0, 0)), none, none, some (.iconst 0, 1, (0, 0, 0, 0)), some (.ireturn, 1, (0, 0, 0, 0)), some (.aload_n 1, 1, (0, 0, 0, 0)), some (.aload_n 0, 1, (0, 0, 0, 0)), some (.iload_n 3, 1, (0, 0, 0, 0)), some (.iconst 1, 1, (0, 0, 0, 0)), some (.iadd, 1, (0, 0, 0, 0)), some (.iaload, 1, (0, 0, 0, 0)), some (.aload_n 0, 1, (0, 0, 0, 0)), some (.iload_n 3, 1, (0, 0, 0, 0)), some (.iconst 2, 1, (0, 0, 0, 0)), some (.iadd, 1, (0, 0, 0, 0)), some (.iaload, 1, (0, 0, 0, 0)), some (.invokevirtual 31, 3, (8, 46, 2, 11)), none, none, some (.aload_n 2, 1, (0, 0, 0, 0)), some (.aload_n 0, 1, (0, 0, 0, 0)), some (.iload_n 3, 1, (0, 0, 0, 0)), some (.iconst 1, 1, (0, 0, 0, 0)), some (.iadd, 1, (0, 0, 0, 0)), some (.iaload, 1, (0, 0, 0, 0)), some (.aload_n 0, 1, (0, 0, 0, 0)), some (.iload_n 3, 1, (0, 0, 0, 0)), some (.iconst 2, 1, (0, 0, 0, 0)), some (.iadd, 1, (0, 0, 0, 0)), some (.iaload, 1, (0, 0, 0, 0)), some (.invokevirtual 34, 3, (8, 172, 2, 12)), none, none, some (.if_icmp .eq 642, 3, (0, 0, 0, 0)), none, none, some (.iconst 0, 1, (0, 0, 0, 0)), some (.ireturn, 1, (0, 0, 0, 0)), some (.aload_n 1, 1, (0, 0, 0, 0)), some (.aload_n 0, 1, (0, 0, 0, 0)), some (.iload_n 3, 1, (0, 0, 0, 0)), some (.iconst 1, 1, (0, 0, 0, 0)), some (.iadd, 1, (0, 0, 0, 0)), some (.iaload, 1, (0, 0, 0, 0)), some (.invokevirtual 35, 3, (8, 62, 1, 11)), none, none, some (.aload_n 2, 1, (0, 0, 0, 0)), some (.aload_n 0, 1, (0, 0, 0, 0)), some (.iload_n 3, 1, (0, 0, 0, 0)), some (.iconst 1, 1, (0, 0, 0, 0)), some (.iadd, 1, (0, 0, 0, 0)), some (.iaload, 1, (0, 0, 0, 0)), some (.invokevirtual 39, 3, (8, 204, 1, 12)), none, none, some (.if_icmp .eq 619, 3, (0, 0, 0, 0)), none, none, some (.iconst 0, 1, (0, 0, 0, 0)), some (.ireturn, 1, (0, 0, 0, 0)), some (.aload_n 1, 1, (0, 0, 0, 0)), some (.invokevirtual 40, 3, (8, 63, 0, 11)), none, none, some (.aload_n 2, 1, (0, 0, 0, 0)), some (.invokevirtual 44, 3, (8, 205, 0, 12)), none, none, some (.if_icmp .eq 606, 3, (0, 0, 0, 0)), none, none, some (.iconst 0, 1, (0, 0, 0, 0)), some (.ireturn, 1, (0, 0, 0, 0)), some (.aload_n 1, 1, (0, 0, 0, 0)), some (.aload_n 0, 1, (0, 0, 0, 0)), some (.iload_n 3, 1, (0, 0, 0, 0)), some (.iconst 1, 1, (0, 0, 0, 0)), some (.iadd, 1, (0, 0, 0, 0)), some (.iaload, 1, (0, 0, 0, 0)), some (.invokevirtual 45, 3, (8, 97, 1, 11)), none, none, some (.aload_n 2, 1, (0, 0, 0, 0)), some (.aload_n 0, 1, (0, 0, 0, 0)), some (.iload_n 3, 1, (0, 0, 0, 0)), some (.iconst 1, 1, (0, 0, 0, 0))]
def k_245_4 : List ak_I := [some (.iadd, 1, (0, 0, 0, 0)), some (.iaload, 1, (0, 0, 0, 0)), some (.invokevirtual 48, 3, (8, 206, 1, 12)), none, none, some (.if_icmp .eq 583, 3, (0, 0, 0, 0)), none, none, some (.iconst 0, 1, (0, 0, 0, 0)), some (.ireturn, 1, (0, 0, 0, 0)), some (.aload_n 1, 1, (0, 0, 0, 0)), some (.aload_n 0, 1, (0, 0, 0, 0)), some (.iload_n 3, 1, (0, 0, 0, 0)), some (.iconst 1, 1, (0, 0, 0, 0)), some (.iadd, 1, (0, 0, 0, 0)), some (.iaload, 1, (0, 0, 0, 0)), some (.invokevirtual 49, 3, (8, 98, 1, 11)), none, none, some (.aload_n 2, 1, (0, 0, 0, 0)), some (.aload_n 0, 1, (0, 0, 0, 0)), some (.iload_n 3, 1, (0, 0, 0, 0)), some (.iconst 1, 1, (0, 0, 0, 0)), some (.iadd, 1, (0, 0, 0, 0)), some (.iaload, 1, (0, 0, 0, 0)), some (.invokevirtual 52, 3, (8, 207, 1, 12)), none, none, some (.if_icmp .eq 560, 3, (0, 0, 0, 0)), none, none, some (.iconst 0, 1, (0, 0, 0, 0)), some (.ireturn, 1, (0, 0, 0, 0)), some (.aload_n 1, 1, (0, 0, 0, 0)), some (.invokevirtual 53, 3, (8, 110, 0, 11)), none, none, some (.aload_n 2, 1, (0, 0, 0, 0)), some (.invokevirtual 56, 3, (8, 216, 0, 12)), none, none, some (.if_icmp .eq 547, 3, (0, 0, 0, 0)), none, none, some (.iconst 0, 1, (0, 0, 0, 0)), some (.ireturn, 1, (0, 0, 0, 0)), some (.aload_n 1, 1, (0, 0, 0, 0)), some (.aload_n 0, 1, (0, 0, 0, 0)), some (.iload_n 3, 1, (0, 0, 0, 0)), some (.iconst 1, 1, (0, 0, 0, 0)), some (.iadd, 1, (0, 0, 0, 0)), some (.iaload, 1, (0, 0, 0, 0)), some (.invokevirtual 57, 3, (8, 112, 1, 11)), none, none, some (.aload_n 2, 1, (0, 0, 0, 0)), some (.aload_n 0, 1, (0, 0, 0, 0)), some (.iload_n 3, 1, (0, 0, 0, 0)), some (.iconst 1, 1, (0, 0, 0, 0)), some (.iadd, 1, (0, 0, 0, 0)), some (.iaload, 1, (0, 0, 0, 0)), some (.invokevirtual 60, 3, (8, 217, 1, 12)), none, none, some (.if_icmp .eq 524, 3, (0, 0, 0, 0)), none, none, some (.iconst 0, 1, (0, 0, 0, 0)), some (.ireturn, 1, (0, 0, 0, 0)), some (.aload_n 1, 1, (0, 0, 0, 0)), some (.aload_n 0, 1, (0, 0, 0, 0)), some (.iload_n 3, 1, (0, 0, 0, 0)), some (.iconst 1, 1, (0, 0, 0, 0)), some (.iadd, 1, (0, 0, 0, 0)), some (.iaload, 1, (0, 0, 0, 0)), some (.invokevirtual 61, 3, (8, 122, 1, 11)), none, none, some (.aload_n 2, 1, (0, 0, 0, 0)), some (.aload_n 0, 1, (0, 0, 0, 0)), some (.iload_n 3, 1, (0, 0, 0, 0)), some (.iconst 1, 1, (0, 0, 0, 0)), some (.iadd, 1, (0, 0, 0, 0)), some (.iaload, 1, (0, 0, 0, 0)), some (.invokevirtual 64, 3, (8, 221, 1, 12)), none, none, some (.if_icmp .eq 501, 3, (0, 0, 0, 0)), none, none, some (.iconst 0, 1, (0, 0, 0, 0)), some (.ireturn, 1, (0, 0, 0, 0)), some (.aload_n 1, 1, (0, 0, 0, 0)), some (.aload_n 0, 1, (0, 0, 0, 0)), some (.iload_n 3, 1, (0, 0, 0, 0)), some (.iconst 1, 1, (0, 0, 0, 0)), some (.iadd, 1, (0, 0, 0, 0)), some (.iaload, 1, (0, 0, 0, 0)), some (.invokevirtual 65, 3, (8, 127, 1, 11)), none]
def k_245_5 : List ak_I := [none, some (.aload_n 2, 1, (0, 0, 0, 0)), some (.aload_n 0, 1, (0, 0, 0, 0)), some (.iload_n 3, 1, (0, 0, 0, 0)), some (.iconst 1, 1, (0, 0, 0, 0)), some (.iadd, 1, (0, 0, 0, 0)), some (.iaload, 1, (0, 0, 0, 0)), some (.invokevirtual 68, 3, (8, 227, 1, 12)), none, none, some (.if_icmp .eq 478, 3, (0, 0, 0, 0)), none, none, some (.iconst 0, 1, (0, 0, 0, 0)), some (.ireturn, 1, (0, 0, 0, 0)), some (.aload_n 1, 1, (0, 0, 0, 0)), some (.aload_n 0, 1, (0, 0, 0, 0)), some (.iload_n 3, 1, (0, 0, 0, 0)), some (.iconst 1, 1, (0, 0, 0, 0)), some (.iadd, 1, (0, 0, 0, 0)), some (.iaload, 1, (0, 0, 0, 0)), some (.aload_n 0, 1, (0, 0, 0, 0)), some (.iload_n 3, 1, (0, 0, 0, 0)), some (.iconst 2, 1, (0, 0, 0, 0)), some (.iadd, 1, (0, 0, 0, 0)), some (.iaload, 1, (0, 0, 0, 0)), some (.invokevirtual 69, 3, (8, 130, 2, 11)), none, none, some (.aload_n 2, 1, (0, 0, 0, 0)), some (.aload_n 0, 1, (0, 0, 0, 0)), some (.iload_n 3, 1, (0, 0, 0, 0)), some (.iconst 1, 1, (0, 0, 0, 0)), some (.iadd, 1, (0, 0, 0, 0)), some (.iaload, 1, (0, 0, 0, 0)), some (.aload_n 0, 1, (0, 0, 0, 0)), some (.iload_n 3, 1, (0, 0, 0, 0)), some (.iconst 2, 1, (0, 0, 0, 0)), some (.iadd, 1, (0, 0, 0, 0)), some (.iaload, 1, (0, 0, 0, 0)), some (.invokevirtual 72, 3, (8, 228, 2, 12)), none, none, some (.if_icmp .eq 445, 3, (0, 0, 0, 0)), none, none, some (.iconst 0, 1, (0, 0, 0, 0)), some (.ireturn, 1, (0, 0, 0, 0)), some (.aload_n 1, 1, (0, 0, 0, 0)), some (.invokevirtual 73, 3, (8, 133, 0, 11)), none, none, some (.aload_n 2, 1, (0, 0, 0, 0)), some (.invokevirtual 76, 3, (8, 226, 0, 12)), none, none, some (.if_icmp .eq 432, 3, (0, 0, 0, 0)), none, none, some (.iconst 0, 1, (0, 0, 0, 0)), some (.ireturn, 1, (0, 0, 0, 0)), some (.aload_n 1, 1, (0, 0, 0, 0)), some (.aload_n 0, 1, (0, 0, 0, 0)), some (.iload_n 3, 1, (0, 0, 0, 0)), some (.iconst 1, 1, (0, 0, 0, 0)), some (.iadd, 1, (0, 0, 0, 0)), some (.iaload, 1, (0, 0, 0, 0)), some (.aload_n 0, 1, (0, 0, 0, 0)), some (.iload_n 3, 1, (0, 0, 0, 0)), some (.iconst 2, 1, (0, 0, 0, 0)), some (.iadd, 1, (0, 0, 0, 0)), some (.iaload, 1, (0, 0, 0, 0)), some (.aload_n 0, 1, (0, 0, 0, 0)), some (.iload_n 3, 1, (0, 0, 0, 0)), some (.iconst 3, 1, (0, 0, 0, 0)), some (.iadd, 1, (0, 0, 0, 0)), some (.iaload, 1, (0, 0, 0, 0)), some (.invokevirtual 77, 3, (8, 135, 3, 11)), none, none, some (.aload_n 2, 1, (0, 0, 0, 0)), some (.aload_n 0, 1, (0, 0, 0, 0)), some (.iload_n 3, 1, (0, 0, 0, 0)), some (.iconst 1, 1, (0, 0, 0, 0)), some (.iadd, 1, (0, 0, 0, 0)), some (.iaload, 1, (0, 0, 0, 0)), some (.aload_n 0, 1, (0, 0, 0, 0)), some (.iload_n 3, 1, (0, 0, 0, 0)), some (.iconst 2, 1, (0, 0, 0, 0)), some (.iadd, 1, (0, 0, 0, 0)), some (.iaload, 1, (0, 0, 0, 0)), some (.aload_n 0, 1, (0, 0, 0, 0)), some (.iload_n 3, 1, (0, 0, 0, 0)), some (.iconst 3, 1, (0, 0, 0, 0)), some (.iadd, 1, (0, 0, 0, 0)), some (.iaload, 1, (0, 0, 0, 0)), some (.invokevirtual 80, 3, (8, 229, 3, 12)), none, none, some (.if_icmp .eq 389, 3, (0, 0, 0, 0))]
def k_245_6 : List ak_I := [none, none, some (.iconst 0, 1, (0, 0, 0, 0)), some (.ireturn, 1, (0, 0, 0, 0)), some (.aload_n 1, 1, (0, 0, 0, 0)), some (.aload_n 0, 1, (0, 0, 0, 0)), some (.iload_n 3, 1, (0, 0, 0, 0)), some (.iconst 1, 1, (0, 0, 0, 0)), some (.iadd, 1, (0, 0, 0, 0)), some (.iaload, 1, (0, 0, 0, 0)), some (.aload_n 0, 1, (0, 0, 0, 0)), some (.iload_n 3, 1, (0, 0, 0, 0)), some (.iconst 2, 1, (0, 0, 0, 0)), some (.iadd, 1, (0, 0, 0, 0)), some (.iaload, 1, (0, 0, 0, 0)), some (.invokevirtual 81, 3, (8, 146, 2, 11)), none, none, some (.aload_n 2, 1, (0, 0, 0, 0)), some (.aload_n 0, 1, (0, 0, 0, 0)), some (.iload_n 3, 1, (0, 0, 0, 0)), some (.iconst 1, 1, (0, 0, 0, 0)), some (.iadd, 1, (0, 0, 0, 0)), some (.iaload, 1, (0, 0, 0, 0)), some (.aload_n 0, 1, (0, 0, 0, 0)), some (.iload_n 3, 1, (0, 0, 0, 0)), some (.iconst 2, 1, (0, 0, 0, 0)), some (.iadd, 1, (0, 0, 0, 0)), some (.iaload, 1, (0, 0, 0, 0)), some (.invokevirtual 84, 3, (8, 232, 2, 12)), none, none, some (.if_icmp .eq 356, 3, (0, 0, 0, 0)), none, none, some (.iconst 0, 1, (0, 0, 0, 0)), some (.ireturn, 1, (0, 0, 0, 0)), some (.aload_n 1, 1, (0, 0, 0, 0)), some (.aload_n 0, 1, (0, 0, 0, 0)), some (.iload_n 3, 1, (0, 0, 0, 0)), some (.iconst 1, 1, (0, 0, 0, 0)), some (.iadd, 1, (0, 0, 0, 0)), some (.iaload, 1, (0, 0, 0, 0)), some (.invokevirtual 85, 3, (8, 150, 1, 11)), none, none, some (.aload_n 2, 1, (0, 0, 0, 0)), some (.aload_n 0, 1, (0, 0, 0, 0)), some (.iload_n 3, 1, (0, 0, 0, 0)), some (.iconst 1, 1, (0, 0, 0, 0)), some (.iadd, 1, (0, 0, 0, 0)), some (.iaload, 1, (0, 0, 0, 0)), some (.invokevirtual 88, 3, (8, 234, 1, 12)), none, none, some (.if_icmp .eq 333, 3, (0, 0, 0, 0)), none, none, some (.iconst 0, 1, (0, 0, 0, 0)), some (.ireturn, 1, (0, 0, 0, 0)), some (.aload_n 1, 1, (0, 0, 0, 0)), some (.aload_n 0, 1, (0, 0, 0, 0)), some (.iload_n 3, 1, (0, 0, 0, 0)), some (.iconst 1, 1, (0, 0, 0, 0)), some (.iadd, 1, (0, 0, 0, 0)), some (.iaload, 1, (0, 0, 0, 0)), some (.aload_n 0, 1, (0, 0, 0, 0)), some (.iload_n 3, 1, (0, 0, 0, 0)), some (.iconst 2, 1, (0, 0, 0, 0)), some (.iadd, 1, (0, 0, 0, 0)), some (.iaload, 1, (0, 0, 0, 0)), some (.aload_n 0, 1, (0, 0, 0, 0)), some (.iload_n 3, 1, (0, 0, 0, 0)), some (.iconst 3, 1, (0, 0, 0, 0)), some (.iadd, 1, (0, 0, 0, 0)), some (.iaload, 1, (0, 0, 0, 0)), some (.invokevirtual 89, 3, (8, 152, 3, 11)), none, none, some (.aload_n 2, 1, (0, 0, 0, 0)), some (.aload_n 0, 1, (0, 0, 0, 0)), some (.iload_n 3, 1, (0, 0, 0, 0)), some (.iconst 1, 1, (0, 0, 0, 0)), some (.iadd, 1, (0, 0, 0, 0)), some (.iaload, 1, (0, 0, 0, 0)), some (.aload_n 0, 1, (0, 0, 0, 0)), some (.iload_n 3, 1, (0, 0, 0, 0)), some (.iconst 2, 1, (0, 0, 0, 0)), some (.iadd, 1, (0, 0, 0, 0)), some (.iaload, 1, (0, 0, 0, 0)), some (.aload_n 0, 1, (0, 0, 0, 0)), some (.iload_n 3, 1, (0, 0, 0, 0)), some (.iconst 3, 1, (0, 0, 0, 0)), some (.iadd, 1, (0, 0, 0, 0)), some (.iaload, 1, (0, 0, 0, 0)), some (.invokevirtual 93, 3, (8, 236, 3, 12)), none, none, some (.lcmp, 1, (0, 0, 0, 0)), some (.ifCond .eq 289, 3, (0, 0, 0, 0))]
def k_245_7 : List ak_I := [none, none, some (.iconst 0, 1, (0, 0, 0, 0)), some (.ireturn, 1, (0, 0, 0, 0)), some (.aload_n 1, 1, (0, 0, 0, 0)), some (.invokevirtual 94, 3, (8, 154, 0, 11)), none, none, some (.aload_n 2, 1, (0, 0, 0, 0)), some (.invokevirtual 97, 3, (8, 237, 0, 12)), none, none, some (.if_icmp .eq 276, 3, (0, 0, 0, 0)), none, none, some (.iconst 0, 1, (0, 0, 0, 0)), some (.ireturn, 1, (0, 0, 0, 0)), some (.aload_n 1, 1, (0, 0, 0, 0)), some (.invokevirtual 98, 3, (8, 155, 0, 11)), none, none, some (.aload_n 2, 1, (0, 0, 0, 0)), some (.invokevirtual 101, 3, (8, 238, 0, 12)), none, none, some (.if_icmp .eq 263, 3, (0, 0, 0, 0)), none, none, some (.iconst 0, 1, (0, 0, 0, 0)), some (.ireturn, 1, (0, 0, 0, 0)), some (.aload_n 1, 1, (0, 0, 0, 0)), some (.aload_n 0, 1, (0, 0, 0, 0)), some (.iload_n 3, 1, (0, 0, 0, 0)), some (.iconst 1, 1, (0, 0, 0, 0)), some (.iadd, 1, (0, 0, 0, 0)), some (.iaload, 1, (0, 0, 0, 0)), some (.invokevirtual 102, 3, (8, 156, 1, 11)), none, none, some (.aload_n 2, 1, (0, 0, 0, 0)), some (.aload_n 0, 1, (0, 0, 0, 0)), some (.iload_n 3, 1, (0, 0, 0, 0)), some (.iconst 1, 1, (0, 0, 0, 0)), some (.iadd, 1, (0, 0, 0, 0)), some (.iaload, 1, (0, 0, 0, 0)), some (.invokevirtual 105, 3, (8, 239, 1, 12)), none, none, some (.if_icmp .eq 240, 3, (0, 0, 0, 0)), none, none, some (.iconst 0, 1, (0, 0, 0, 0)), some (.ireturn, 1, (0, 0, 0, 0)), some (.aload_n 1, 1, (0, 0, 0, 0)), some (.aload_n 0, 1, (0, 0, 0, 0)), some (.iload_n 3, 1, (0, 0, 0, 0)), some (.iconst 1, 1, (0, 0, 0, 0)), some (.iadd, 1, (0, 0, 0, 0)), some (.iaload, 1, (0, 0, 0, 0)), some (.aload_n 0, 1, (0, 0, 0, 0)), some (.iload_n 3, 1, (0, 0, 0, 0)), some (.iconst 2, 1, (0, 0, 0, 0)), some (.iadd, 1, (0, 0, 0, 0)), some (.iaload, 1, (0, 0, 0, 0)), some (.aload_n 0, 1, (0, 0, 0, 0)), some (.iload_n 3, 1, (0, 0, 0, 0)), some (.iconst 3, 1, (0, 0, 0, 0)), some (.iadd, 1, (0, 0, 0, 0)), some (.iaload, 1, (0, 0, 0, 0)), some (.invokevirtual 106, 3, (8, 159, 3, 11)), none, none, some (.aload_n 2, 1, (0, 0, 0, 0)), some (.aload_n 0, 1, (0, 0, 0, 0)), some (.iload_n 3, 1, (0, 0, 0, 0)), some (.iconst 1, 1, (0, 0, 0, 0)), some (.iadd, 1, (0, 0, 0, 0)), some (.iaload, 1, (0, 0, 0, 0)), some (.aload_n 0, 1, (0, 0, 0, 0)), some (.iload_n 3, 1, (0, 0, 0, 0)), some (.iconst 2, 1, (0, 0, 0, 0)), some (.iadd, 1, (0, 0, 0, 0)), some (.iaload, 1, (0, 0, 0, 0)), some (.aload_n 0, 1, (0, 0, 0, 0)), some (.iload_n 3, 1, (0, 0, 0, 0)), some (.iconst 3, 1, (0, 0, 0, 0)), some (.iadd, 1, (0, 0, 0, 0)), some (.iaload, 1, (0, 0, 0, 0)), some (.invokevirtual 109, 3, (8, 233, 3, 12)), none, none, some (.if_icmp .eq 197, 3, (0, 0, 0, 0)), none, none, some (.iconst 0, 1, (0, 0, 0, 0)), some (.ireturn, 1, (0, 0, 0, 0)), some (.aload_n 1, 1, (0, 0, 0, 0)), some (.aload_n 0, 1, (0, 0, 0, 0)), some (.iload_n 3, 1, (0, 0, 0, 0)), some (.iconst 1, 1, (0, 0, 0, 0))]
def k_245_8 : List ak_I := [some (.iadd, 1, (0, 0, 0, 0)), some (.iaload, 1, (0, 0, 0, 0)), some (.aload_n 0, 1, (0, 0, 0, 0)), some (.iload_n 3, 1, (0, 0, 0, 0)), some (.iconst 2, 1, (0, 0, 0, 0)), some (.iadd, 1, (0, 0, 0, 0)), some (.iaload, 1, (0, 0, 0, 0)), some (.aload_n 0, 1, (0, 0, 0, 0)), some (.iload_n 3, 1, (0, 0, 0, 0)), some (.iconst 3, 1, (0, 0, 0, 0)), some (.iadd, 1, (0, 0, 0, 0)), some (.iaload, 1, (0, 0, 0, 0)), some (.invokevirtual 110, 3, (8, 161, 3, 11)), none, none, some (.aload_n 2, 1, (0, 0, 0, 0)), some (.aload_n 0, 1, (0, 0, 0, 0)), some (.iload_n 3, 1, (0, 0, 0, 0)), some (.iconst 1, 1, (0, 0, 0, 0)), some (.iadd, 1, (0, 0, 0, 0)), some (.iaload, 1, (0, 0, 0, 0)), some (.aload_n 0, 1, (0, 0, 0, 0)), some (.iload_n 3, 1, (0, 0, 0, 0)), some (.iconst 2, 1, (0, 0, 0, 0)), some (.iadd, 1, (0, 0, 0, 0)), some (.iaload, 1, (0, 0, 0, 0)), some (.aload_n 0, 1, (0, 0, 0, 0)), some (.iload_n 3, 1, (0, 0, 0, 0)), some (.iconst 3, 1, (0, 0, 0, 0)), some (.iadd, 1, (0, 0, 0, 0)), some (.iaload, 1, (0, 0, 0, 0)), some (.invokevirtual 113, 3, (8, 240, 3, 12)), none, none, some (.if_icmp .eq 154, 3, (0, 0, 0, 0)), none, none, some (.iconst 0, 1, (0, 0, 0, 0)), some (.ireturn, 1, (0, 0, 0, 0)), some (.aload_n 1, 1, (0, 0, 0, 0)), some (.aload_n 0, 1, (0, 0, 0, 0)), some (.iload_n 3, 1, (0, 0, 0, 0)), some (.iconst 1, 1, (0, 0, 0, 0)), some (.iadd, 1, (0, 0, 0, 0)), some (.iaload, 1, (0, 0, 0, 0)), some (.aload_n 0, 1, (0, 0, 0, 0)), some (.iload_n 3, 1, (0, 0, 0, 0)), some (.iconst 2, 1, (0, 0, 0, 0)), some (.iadd, 1, (0, 0, 0, 0)), some (.iaload, 1, (0, 0, 0, 0)), some (.aload_n 0, 1, (0, 0, 0, 0)), some (.iload_n 3, 1, (0, 0, 0, 0)), some (.iconst 3, 1, (0, 0, 0, 0)), some (.iadd, 1, (0, 0, 0, 0)), some (.iaload, 1, (0, 0, 0, 0)), some (.aload_n 0, 1, (0, 0, 0, 0)), some (.iload_n 3, 1, (0, 0, 0, 0)), some (.iconst 4, 1, (0, 0, 0, 0)), some (.iadd, 1, (0, 0, 0, 0)), some (.iaload, 1, (0, 0, 0, 0)), some (.aload_n 0, 1, (0, 0, 0, 0)), some (.iload_n 3, 1, (0, 0, 0, 0)), some (.iconst 5, 1, (0, 0, 0, 0)), some (.iadd, 1, (0, 0, 0, 0)), some (.iaload, 1, (0, 0, 0, 0)), some (.invokevirtual 114, 3, (8, 162, 5, 11)), none, none, some (.aload_n 2, 1, (0, 0, 0, 0)), some (.aload_n 0, 1, (0, 0, 0, 0)), some (.iload_n 3, 1, (0, 0, 0, 0)), some (.iconst 1, 1, (0, 0, 0, 0)), some (.iadd, 1, (0, 0, 0, 0)), some (.iaload, 1, (0, 0, 0, 0)), some (.aload_n 0, 1, (0, 0, 0, 0)), some (.iload_n 3, 1, (0, 0, 0, 0)), some (.iconst 2, 1, (0, 0, 0, 0)), some (.iadd, 1, (0, 0, 0, 0)), some (.iaload, 1, (0, 0, 0, 0)), some (.aload_n 0, 1, (0, 0, 0, 0)), some (.iload_n 3, 1, (0, 0, 0, 0)), some (.iconst 3, 1, (0, 0, 0, 0)), some (.iadd, 1, (0, 0, 0, 0)), some (.iaload, 1, (0, 0, 0, 0)), some (.aload_n 0, 1, (0, 0, 0, 0)), some (.iload_n 3, 1, (0, 0, 0, 0)), some (.iconst 4, 1, (0, 0, 0, 0)), some (.iadd, 1, (0, 0, 0, 0)), some (.iaload, 1, (0, 0, 0, 0)), some (.aload_n 0, 1, (0, 0, 0, 0)), some (.iload_n 3, 1, (0, 0, 0, 0)), some (.iconst 5, 1, (0, 0, 0, 0)), some (.iadd, 1, (0, 0, 0, 0)), some (.iaload, 1, (0, 0, 0, 0)), some (.invokevirtual 118, 3, (8, 241, 5, 12)), none, none, some (.if_icmp .eq 91, 3, (0, 0, 0, 0)), none, none]
def k_245_9 : List ak_I := [some (.iconst 0, 1, (0, 0, 0, 0)), some (.ireturn, 1, (0, 0, 0, 0)), some (.aload_n 1, 1, (0, 0, 0, 0)), some (.aload_n 0, 1, (0, 0, 0, 0)), some (.iload_n 3, 1, (0, 0, 0, 0)), some (.iconst 1, 1, (0, 0, 0, 0)), some (.iadd, 1, (0, 0, 0, 0)), some (.iaload, 1, (0, 0, 0, 0)), some (.aload_n 0, 1, (0, 0, 0, 0)), some (.iload_n 3, 1, (0, 0, 0, 0)), some (.iconst 2, 1, (0, 0, 0, 0)), some (.iadd, 1, (0, 0, 0, 0)), some (.iaload, 1, (0, 0, 0, 0)), some (.aload_n 0, 1, (0, 0, 0, 0)), some (.iload_n 3, 1, (0, 0, 0, 0)), some (.iconst 3, 1, (0, 0, 0, 0)), some (.iadd, 1, (0, 0, 0, 0)), some (.iaload, 1, (0, 0, 0, 0)), some (.aload_n 0, 1, (0, 0, 0, 0)), some (.iload_n 3, 1, (0, 0, 0, 0)), some (.iconst 4, 1, (0, 0, 0, 0)), some (.iadd, 1, (0, 0, 0, 0)), some (.iaload, 1, (0, 0, 0, 0)), some (.invokevirtual 119, 3, (8, 163, 4, 11)), none, none, some (.aload_n 2, 1, (0, 0, 0, 0)), some (.aload_n 0, 1, (0, 0, 0, 0)), some (.iload_n 3, 1, (0, 0, 0, 0)), some (.iconst 1, 1, (0, 0, 0, 0)), some (.iadd, 1, (0, 0, 0, 0)), some (.iaload, 1, (0, 0, 0, 0)), some (.aload_n 0, 1, (0, 0, 0, 0)), some (.iload_n 3, 1, (0, 0, 0, 0)), some (.iconst 2, 1, (0, 0, 0, 0)), some (.iadd, 1, (0, 0, 0, 0)), some (.iaload, 1, (0, 0, 0, 0)), some (.aload_n 0, 1, (0, 0, 0, 0)), some (.iload_n 3, 1, (0, 0, 0, 0)), some (.iconst 3, 1, (0, 0, 0, 0)), some (.iadd, 1, (0, 0, 0, 0)), some (.iaload, 1, (0, 0, 0, 0)), some (.aload_n 0, 1, (0, 0, 0, 0)), some (.iload_n 3, 1, (0, 0, 0, 0)), some (.iconst 4, 1, (0, 0, 0, 0)), some (.iadd, 1, (0, 0, 0, 0)), some (.iaload, 1, (0, 0, 0, 0)), some (.invokevirtual 123, 3, (8, 242, 4, 12)), none, none, some (.if_icmp .eq 38, 3, (0, 0, 0, 0)), none, none, some (.iconst 0, 1, (0, 0, 0, 0)), some (.ireturn, 1, (0, 0, 0, 0)), some (.aload_n 1, 1, (0, 0, 0, 0)), some (.aload_n 0, 1, (0, 0, 0, 0)), some (.iload_n 3, 1, (0, 0, 0, 0)), some (.iconst 1, 1, (0, 0, 0, 0)), some (.iadd, 1, (0, 0, 0, 0)), some (.iaload, 1, (0, 0, 0, 0)), some (.aload_n 0, 1, (0, 0, 0, 0)), some (.iload_n 3, 1, (0, 0, 0, 0)), some (.iconst 2, 1, (0, 0, 0, 0)), some (.iadd, 1, (0, 0, 0, 0)), some (.iaload, 1, (0, 0, 0, 0)), some (.invokevirtual 124, 3, (8, 164, 2, 11)), none, none, some (.aload_n 2, 1, (0, 0, 0, 0)), some (.aload_n 0, 1, (0, 0, 0, 0)), some (.iload_n 3, 1, (0, 0, 0, 0)), some (.iconst 1, 1, (0, 0, 0, 0)), some (.iadd, 1, (0, 0, 0, 0)), some (.iaload, 1, (0, 0, 0, 0)), some (.aload_n 0, 1, (0, 0, 0, 0)), some (.iload_n 3, 1, (0, 0, 0, 0)), some (.iconst 2, 1, (0, 0, 0, 0)), some (.iadd, 1, (0, 0, 0, 0)), some (.iaload, 1, (0, 0, 0, 0)), some (.invokevirtual 127, 3, (8, 243, 2, 12)), none, none, some (.if_icmp .eq 5, 3, (0, 0, 0, 0)), none, none, some (.iconst 0, 1, (0, 0, 0, 0)), some (.ireturn, 1, (0, 0, 0, 0)), some (.iinc 3 6, 3, (0, 0, 0, 0)), none, none, some (.goto (-973), 3, (0, 0, 0, 0)), none, none, some (.iconst 1, 1, (0, 0, 0, 0)), some (.ireturn, 1, (0, 0, 0, 0))]
def k_245 : List ak_I := k_245_0 ++ (k_245_1 ++ (k_245_2 ++ (k_245_3 ++ (k_245_4 ++ (k_245_5 ++ (k_245_6 ++ (k_245_7 ++ (k_245_8 ++ (k_245_9)))))))))
def q_245 : ak_Q := (yL_law, cL_law, 4, (some .boolean), k_245, 40)
set_option maxRecDepth 100000 in
def ak_M : List ak_Q := [q_0, q_1, q_2, q_3, q_4, q_5, q_6, q_7, q_8, q_9, q_10, q_11, q_12, q_13, q_14, q_15, q_16, q_17, q_18, q_19, q_20, q_21, q_22, q_23, q_24, q_25, q_26, q_27, q_28, q_29, q_30, q_31, q_32, q_33, q_34, q_35, q_36, q_37, q_38, q_39, q_40, q_41, q_42, q_43, q_44, q_45, q_46, q_47, q_48, q_49, q_50, q_51, q_52, q_53, q_54, q_55, q_56, q_57, q_58, q_59, q_60, q_61, q_62, q_63, q_64, q_65, q_66, q_67, q_68, q_69, q_70, q_71, q_72, q_73, q_74, q_75, q_76, q_77, q_78, q_79, q_80, q_81, q_82, q_83, q_84, q_85, q_86, q_87, q_88, q_89, q_90, q_91, q_92, q_93, q_94, q_95, q_96, q_97, q_98, q_99, q_100, q_101, q_102, q_103, q_104, q_105, q_106, q_107, q_108, q_109, q_110, q_111, q_112, q_113, q_114, q_115, q_116, q_117, q_118, q_119, q_120, q_121, q_122, q_123, q_124, q_125, q_126, q_127, q_128, q_129, q_130, q_131, q_132, q_133, q_134, q_135, q_136, q_137, q_138, q_139, q_140, q_141, q_142, q_143, q_144, q_145, q_146, q_147, q_148, q_149, q_150, q_151, q_152, q_153, q_154, q_155, q_156, q_157, q_158, q_159, q_160, q_161, q_162, q_163, q_164, q_165, q_166, q_167, q_168, q_169, q_170, q_171, q_172, q_173, q_174, q_175, q_176, q_177, q_178, q_179, q_180, q_181, q_182, q_183, q_184, q_185, q_186, q_187, q_188, q_189, q_190, q_191, q_192, q_193, q_194, q_195, q_196, q_197, q_198, q_199, q_200, q_201, q_202, q_203, q_204, q_205, q_206, q_207, q_208, q_209, q_210, q_211, q_212, q_213, q_214, q_215, q_216, q_217, q_218, q_219, q_220, q_221, q_222, q_223, q_224, q_225, q_226, q_227, q_228, q_229, q_230, q_231, q_232, q_233, q_234, q_235, q_236, q_237, q_238, q_239, q_240, q_241, q_242, q_243, q_244, q_245]
/-- which method an object of a class has by a name: 0 glad, 1 earns, 2 wants -/
def ak_fam (f c : Nat) : Option Nat := if f = 0 then (match c with | 0 => some 49 | 1 => some 50 | 2 => some 52 | 3 => some 54 | 4 => some 53 | 9 => some 51 | _ => none) else if f = 1 then (match c with | 0 => some 56 | 1 => some 57 | 2 => some 58 | 3 => some 60 | 4 => some 58 | 9 => some 59 | _ => none) else (match c with | 0 => some 40 | 1 => some 41 | 2 => some 42 | 3 => some 45 | 4 => some 45 | 9 => some 43 | _ => none)
end
section
/-! each method's table is what its bytes say -/
set_option maxRecDepth 100000 in
theorem kd_0 : ak_chk cX11_init 0 k_0 = true := by decide +kernel
set_option maxRecDepth 100000 in
theorem kd_1 : ak_chk cX8_init 0 k_1 = true := by decide +kernel
set_option maxRecDepth 100000 in
theorem kd_2 : ak_chk cX6_init 0 k_2 = true := by decide +kernel
set_option maxRecDepth 100000 in
theorem kd_3 : ak_chk cX3_init 0 k_3 = true := by decide +kernel
set_option maxRecDepth 100000 in
theorem kd_4 : ak_chk cX4_init 0 k_4 = true := by decide +kernel
set_option maxRecDepth 100000 in
theorem kd_5 : ak_chk cX9_init 0 k_5 = true := by decide +kernel
set_option maxRecDepth 100000 in
theorem kd_6 : ak_chk cX2_init 0 k_6 = true := by decide +kernel
set_option maxRecDepth 100000 in
theorem kd_7 : ak_chk cX1_init 0 k_7 = true := by decide +kernel
set_option maxRecDepth 100000 in
theorem kd_8 : ak_chk cX0_init 0 k_8 = true := by decide +kernel
set_option maxRecDepth 100000 in
theorem kd_9 : ak_chk cX10_init 0 k_9 = true := by decide +kernel
set_option maxRecDepth 100000 in
theorem kd_10 : ak_chk cX10_add 0 k_10 = true := by decide +kernel
set_option maxRecDepth 100000 in
theorem kd_11 : ak_chk cX10_endPart 0 k_11 = true := by decide +kernel
set_option maxRecDepth 100000 in
theorem kd_12 : ak_chk cX5_init 0 k_12 = true := by decide +kernel
set_option maxRecDepth 100000 in
theorem kd_13 : ak_chk cX7_init 0 k_13 = true := by decide +kernel
set_option maxRecDepth 100000 in
theorem kd_14 : ak_chk cX11_set 0 k_14 = true := by decide +kernel
set_option maxRecDepth 100000 in
theorem kd_15 : ak_chk cX8_has 0 k_15 = true := by decide +kernel
set_option maxRecDepth 100000 in
theorem kd_16 : ak_chk cX8_isOne 0 k_16 = true := by decide +kernel
set_option maxRecDepth 100000 in
theorem kd_17 : ak_chk cX8_fits 0 k_17 = true := by decide +kernel
set_option maxRecDepth 100000 in
theorem kd_18 : ak_chk cX8_number 0 k_18 = true := by decide +kernel
set_option maxRecDepth 100000 in
theorem kd_19 : ak_chk cX8_rowOf 0 k_19 = true := by decide +kernel
set_option maxRecDepth 100000 in
theorem kd_20 : ak_chk cX8_put 0 k_20 = true := by decide +kernel
set_option maxRecDepth 100000 in
theorem kd_21 : ak_chk cX11_clerk 0 k_21 = true := by decide +kernel
set_option maxRecDepth 100000 in
theorem kd_22 : ak_chk cX8_welcome 0 k_22 = true := by decide +kernel
set_option maxRecDepth 100000 in
theorem kd_23 : ak_chk cX8_setApart 0 k_23 = true := by decide +kernel
set_option maxRecDepth 100000 in
theorem kd_24 : ak_chk cX11_apart 0 k_24 = true := by decide +kernel
set_option maxRecDepth 100000 in
theorem kd_25 : ak_chk cX11_book 0 k_25 = true := by decide +kernel
set_option maxRecDepth 100000 in
theorem kd_26 : ak_chk cX11_isWeek 0 k_26 = true := by decide +kernel
set_option maxRecDepth 100000 in
theorem kd_27 : ak_chk cX6_canBe 0 k_27 = true := by decide +kernel
set_option maxRecDepth 100000 in
theorem kd_28 : ak_chk cX8_weeksFrom 0 k_28 = true := by decide +kernel
set_option maxRecDepth 100000 in
theorem kd_29 : ak_chk cX6_wants 0 k_29 = true := by decide +kernel
set_option maxRecDepth 100000 in
theorem kd_30 : ak_chk cX6_nameWeek 0 k_30 = true := by decide +kernel
set_option maxRecDepth 100000 in
theorem kd_31 : ak_chk cX6_nameOne 0 k_31 = true := by decide +kernel
set_option maxRecDepth 100000 in
theorem kd_32 : ak_chk cX8_wishesFor 0 k_32 = true := by decide +kernel
set_option maxRecDepth 100000 in
theorem kd_33 : ak_chk cX8_othersWishing 0 k_33 = true := by decide +kernel
set_option maxRecDepth 100000 in
theorem kd_34 : ak_chk cX6_textAt 0 k_34 = true := by decide +kernel
set_option maxRecDepth 100000 in
theorem kd_35 : ak_chk cX10_value 0 k_35 = true := by decide +kernel
set_option maxRecDepth 100000 in
theorem kd_36 : ak_chk cX10_operand 0 k_36 = true := by decide +kernel
set_option maxRecDepth 100000 in
theorem kd_37 : ak_chk cX10_turned 0 k_37 = true := by decide +kernel
set_option maxRecDepth 100000 in
theorem kd_38 : ak_chk cX10_joined 0 k_38 = true := by decide +kernel
set_option maxRecDepth 100000 in
theorem kd_39 : ak_chk cX6_kindAt 0 k_39 = true := by decide +kernel
set_option maxRecDepth 100000 in
theorem kd_40 : ak_chk cX0_wants 0 k_40 = true := by decide +kernel
set_option maxRecDepth 100000 in
theorem kd_41 : ak_chk cX1_wants 0 k_41 = true := by decide +kernel
set_option maxRecDepth 100000 in
theorem kd_42 : ak_chk cX2_wants 0 k_42 = true := by decide +kernel
set_option maxRecDepth 100000 in
theorem kd_43 : ak_chk cX9_wants 0 k_43 = true := by decide +kernel
set_option maxRecDepth 100000 in
theorem kd_44 : ak_chk cX3_isSummer 0 k_44 = true := by decide +kernel
set_option maxRecDepth 100000 in
theorem kd_45 : ak_chk cX3_wants 0 k_45 = true := by decide +kernel
set_option maxRecDepth 100000 in
theorem kd_46 : ak_chk cX11_told 0 k_46 = true := by decide +kernel
set_option maxRecDepth 100000 in
theorem kd_47 : ak_chk cX6_gladness 0 k_47 = true := by decide +kernel
set_option maxRecDepth 100000 in
theorem kd_48 : ak_chk cX6_glad 0 k_48 = true := by decide +kernel
set_option maxRecDepth 100000 in
theorem kd_49 : ak_chk cX0_glad 0 k_49 = true := by decide +kernel
set_option maxRecDepth 100000 in
theorem kd_50 : ak_chk cX1_glad 0 k_50 = true := by decide +kernel
set_option maxRecDepth 100000 in
theorem kd_51 : ak_chk cX9_glad 0 k_51 = true := by decide +kernel
set_option maxRecDepth 100000 in
theorem kd_52 : ak_chk cX2_glad 0 k_52 = true := by decide +kernel
set_option maxRecDepth 100000 in
theorem kd_53 : ak_chk cX4_glad 0 k_53 = true := by decide +kernel
set_option maxRecDepth 100000 in
theorem kd_54 : ak_chk cX3_glad 0 k_54 = true := by decide +kernel
set_option maxRecDepth 100000 in
theorem kd_55 : ak_chk cX6_earned 0 k_55 = true := by decide +kernel
set_option maxRecDepth 100000 in
theorem kd_56 : ak_chk cX0_earns 0 k_56 = true := by decide +kernel
set_option maxRecDepth 100000 in
theorem kd_57 : ak_chk cX1_earns 0 k_57 = true := by decide +kernel
set_option maxRecDepth 100000 in
theorem kd_58 : ak_chk cX4_earns 0 k_58 = true := by decide +kernel
set_option maxRecDepth 100000 in
theorem kd_59 : ak_chk cX9_earns 0 k_59 = true := by decide +kernel
set_option maxRecDepth 100000 in
theorem kd_60 : ak_chk cX3_earns 0 k_60 = true := by decide +kernel
set_option maxRecDepth 100000 in
theorem kd_61 : ak_chk cX11_toldOfWeek 0 k_61 = true := by decide +kernel
set_option maxRecDepth 100000 in
theorem kd_62 : ak_chk cX11_feed 0 k_62 = true := by decide +kernel
set_option maxRecDepth 100000 in
theorem kd_63 : ak_chk cX11_text 0 k_63 = true := by decide +kernel
set_option maxRecDepth 100000 in
theorem kd_64 : ak_chk cX10_read 0 k_64 = true := by decide +kernel
set_option maxRecDepth 100000 in
theorem kd_65 : ak_chk cX10_advance 0 k_65 = true := by decide +kernel
set_option maxRecDepth 100000 in
theorem kd_66 : ak_chk cX10_isBlank 0 k_66 = true := by decide +kernel
set_option maxRecDepth 100000 in
theorem kd_67 : ak_chk cX10_isLetter 0 k_67 = true := by decide +kernel
set_option maxRecDepth 100000 in
theorem kd_68 : ak_chk cX10_advanceOverWord 0 k_68 = true := by decide +kernel
set_option maxRecDepth 100000 in
theorem kd_69 : ak_chk cX10_key 0 k_69 = true := by decide +kernel
set_option maxRecDepth 100000 in
theorem kd_70 : ak_chk cX10_isWord 0 k_70 = true := by decide +kernel
set_option maxRecDepth 100000 in
theorem kd_71 : ak_chk cJ0_length_8abf5 0 k_71 = true := by decide +kernel
set_option maxRecDepth 100000 in
theorem kd_72 : ak_chk cJ0_coder_7d493 0 k_72 = true := by decide +kernel
set_option maxRecDepth 100000 in
theorem kd_73 : ak_chk cJ0_charAt_5068e 0 k_73 = true := by decide +kernel
set_option maxRecDepth 100000 in
theorem kd_74 : ak_chk cJ0_isLatin1_aae02 0 k_74 = true := by decide +kernel
set_option maxRecDepth 100000 in
theorem kd_75 : ak_chk cJ1_charAt_3b067 0 k_75 = true := by decide +kernel
set_option maxRecDepth 100000 in
theorem kd_76 : ak_chk cJ0_checkIndex_df160 0 k_76 = true := by decide +kernel
set_option maxRecDepth 100000 in
theorem kd_77 : ak_chk cJ3_checkIndex_8e157 0 k_77 = true := by decide +kernel
set_option maxRecDepth 100000 in
theorem kd_78 : ak_chk cJ2_charAt_3b067 0 k_78 = true := by decide +kernel
set_option maxRecDepth 100000 in
theorem kd_79 : ak_chk cJ2_checkIndex_2214a 0 k_79 = true := by decide +kernel
set_option maxRecDepth 100000 in
theorem kd_80 : ak_chk cJ2_length_9d52b 0 k_80 = true := by decide +kernel
set_option maxRecDepth 100000 in
theorem kd_81 : ak_chk cJ2_getChar_3b067 0 k_81 = true := by decide +kernel
set_option maxRecDepth 100000 in
theorem kd_82 : ak_chk cX10_name 0 k_82 = true := by decide +kernel
set_option maxRecDepth 100000 in
theorem kd_83 : ak_chk cX10_fail 0 k_83 = true := by decide +kernel
set_option maxRecDepth 100000 in
theorem kd_84 : ak_chk cX10_isNumeral 0 k_84 = true := by decide +kernel
set_option maxRecDepth 100000 in
theorem kd_85 : ak_chk cX10_advanceOverNumber 0 k_85 = true := by decide +kernel
set_option maxRecDepth 100000 in
theorem kd_86 : ak_chk cX10_isSign 0 k_86 = true := by decide +kernel
set_option maxRecDepth 100000 in
theorem kd_87 : ak_chk cX10_take 0 k_87 = true := by decide +kernel
set_option maxRecDepth 100000 in
theorem kd_88 : ak_chk cX10_readEither 0 k_88 = true := by decide +kernel
set_option maxRecDepth 100000 in
theorem kd_89 : ak_chk cX10_readBoth 0 k_89 = true := by decide +kernel
set_option maxRecDepth 100000 in
theorem kd_90 : ak_chk cX10_readNot 0 k_90 = true := by decide +kernel
set_option maxRecDepth 100000 in
theorem kd_91 : ak_chk cX10_readComparison 0 k_91 = true := by decide +kernel
set_option maxRecDepth 100000 in
theorem kd_92 : ak_chk cX10_readSum 0 k_92 = true := by decide +kernel
set_option maxRecDepth 100000 in
theorem kd_93 : ak_chk cX10_readTerm 0 k_93 = true := by decide +kernel
set_option maxRecDepth 100000 in
theorem kd_94 : ak_chk cX10_readOne 0 k_94 = true := by decide +kernel
set_option maxRecDepth 100000 in
theorem kd_95 : ak_chk cX10_addName 0 k_95 = true := by decide +kernel
set_option maxRecDepth 100000 in
theorem kd_96 : ak_chk cX10_openOne 0 k_96 = true := by decide +kernel
set_option maxRecDepth 100000 in
theorem kd_97 : ak_chk cX11_force 0 k_97 = true := by decide +kernel
set_option maxRecDepth 100000 in
theorem kd_98 : ak_chk cX11_plan 0 k_98 = true := by decide +kernel
set_option maxRecDepth 100000 in
theorem kd_99 : ak_chk cX5_look 0 k_99 = true := by decide +kernel
set_option maxRecDepth 100000 in
theorem kd_100 : ak_chk cX8_allows 0 k_100 = true := by decide +kernel
set_option maxRecDepth 100000 in
theorem kd_101 : ak_chk cJ6_bitCount_0f7a4 0 k_101 = true := by decide +kernel
set_option maxRecDepth 100000 in
theorem kd_102 : ak_chk cX5_lookAtOne 0 k_102 = true := by decide +kernel
set_option maxRecDepth 100000 in
theorem kd_103 : ak_chk cX5_gladnessOf 0 k_103 = true := by decide +kernel
set_option maxRecDepth 100000 in
theorem kd_104 : ak_chk cX5_takeBooked 0 k_104 = true := by decide +kernel
set_option maxRecDepth 100000 in
theorem kd_105 : ak_chk cX5_awayIn 0 k_105 = true := by decide +kernel
set_option maxRecDepth 100000 in
theorem kd_106 : ak_chk cX5_place 0 k_106 = true := by decide +kernel
set_option maxRecDepth 100000 in
theorem kd_107 : ak_chk cX5_holds 0 k_107 = true := by decide +kernel
set_option maxRecDepth 100000 in
theorem kd_108 : ak_chk cX5_firstWrongWeek 0 k_108 = true := by decide +kernel
set_option maxRecDepth 100000 in
theorem kd_109 : ak_chk cX5_all 0 k_109 = true := by decide +kernel
set_option maxRecDepth 100000 in
theorem kd_110 : ak_chk cX11_year 0 k_110 = true := by decide +kernel
set_option maxRecDepth 100000 in
theorem kd_111 : ak_chk cX8_pointsOfAll 0 k_111 = true := by decide +kernel
set_option maxRecDepth 100000 in
theorem kd_112 : ak_chk cX11_best 0 k_112 = true := by decide +kernel
set_option maxRecDepth 100000 in
theorem kd_113 : ak_chk cX5_search 0 k_113 = true := by decide +kernel
set_option maxRecDepth 100000 in
theorem kd_114 : ak_chk cX5_takeNone 0 k_114 = true := by decide +kernel
set_option maxRecDepth 100000 in
theorem kd_115 : ak_chk cX5_takeHopes 0 k_115 = true := by decide +kernel
set_option maxRecDepth 100000 in
theorem kd_116 : ak_chk cX5_extend 0 k_116 = true := by decide +kernel
set_option maxRecDepth 100000 in
theorem kd_117 : ak_chk cX5_keep 0 k_117 = true := by decide +kernel
set_option maxRecDepth 100000 in
theorem kd_118 : ak_chk cX5_weeksClosedTo 0 k_118 = true := by decide +kernel
set_option maxRecDepth 100000 in
theorem kd_119 : ak_chk cX5_canAdd 0 k_119 = true := by decide +kernel
set_option maxRecDepth 100000 in
theorem kd_120 : ak_chk cX5_least 0 k_120 = true := by decide +kernel
set_option maxRecDepth 100000 in
theorem kd_121 : ak_chk cX5_inDigits 0 k_121 = true := by decide +kernel
set_option maxRecDepth 100000 in
theorem kd_122 : ak_chk cX11_inTurn 0 k_122 = true := by decide +kernel
set_option maxRecDepth 100000 in
theorem kd_123 : ak_chk cX5_takeTurns 0 k_123 = true := by decide +kernel
set_option maxRecDepth 100000 in
theorem kd_124 : ak_chk cX5_nextInTurn 0 k_124 = true := by decide +kernel
set_option maxRecDepth 100000 in
theorem kd_125 : ak_chk cX5_gladdest 0 k_125 = true := by decide +kernel
set_option maxRecDepth 100000 in
theorem kd_126 : ak_chk cX5_withNone 0 k_126 = true := by decide +kernel
set_option maxRecDepth 100000 in
theorem kd_127 : ak_chk cX11_change 0 k_127 = true := by decide +kernel
set_option maxRecDepth 100000 in
theorem kd_128 : ak_chk cX5_changeTwo 0 k_128 = true := by decide +kernel
set_option maxRecDepth 100000 in
theorem kd_129 : ak_chk cX5_swap 0 k_129 = true := by decide +kernel
set_option maxRecDepth 100000 in
theorem kd_130 : ak_chk cX11_bars 0 k_130 = true := by decide +kernel
set_option maxRecDepth 100000 in
theorem kd_131 : ak_chk cX5_barring 0 k_131 = true := by decide +kernel
set_option maxRecDepth 100000 in
theorem kd_132 : ak_chk cX5_holdsWithout 0 k_132 = true := by decide +kernel
set_option maxRecDepth 100000 in
theorem kd_133 : ak_chk cX11_settle 0 k_133 = true := by decide +kernel
set_option maxRecDepth 100000 in
theorem kd_134 : ak_chk cX5_blockOf 0 k_134 = true := by decide +kernel
set_option maxRecDepth 100000 in
theorem kd_135 : ak_chk cX11_tells 0 k_135 = true := by decide +kernel
set_option maxRecDepth 100000 in
theorem kd_136 : ak_chk cX11_isSheet 0 k_136 = true := by decide +kernel
set_option maxRecDepth 100000 in
theorem kd_137 : ak_chk cX7_isMissing 0 k_137 = true := by decide +kernel
set_option maxRecDepth 100000 in
theorem kd_138 : ak_chk cX8_become 0 k_138 = true := by decide +kernel
set_option maxRecDepth 100000 in
theorem kd_139 : ak_chk cX11_firstOtherwise 0 k_139 = true := by decide +kernel
set_option maxRecDepth 100000 in
theorem kd_140 : ak_chk cX11_kindsTold 0 k_140 = true := by decide +kernel
set_option maxRecDepth 100000 in
theorem kd_141 : ak_chk cX11_numbersTold 0 k_141 = true := by decide +kernel
set_option maxRecDepth 100000 in
theorem kd_142 : ak_chk cX11_wishesTold 0 k_142 = true := by decide +kernel
set_option maxRecDepth 100000 in
theorem kd_143 : ak_chk cX11_isSoIfWished 0 k_143 = true := by decide +kernel
set_option maxRecDepth 100000 in
theorem kd_144 : ak_chk cX11_leastWishesTold 0 k_144 = true := by decide +kernel
set_option maxRecDepth 100000 in
theorem kd_145 : ak_chk cX11_textsTold 0 k_145 = true := by decide +kernel
set_option maxRecDepth 100000 in
theorem kd_146 : ak_chk cX11_film 0 k_146 = true := by decide +kernel
set_option maxRecDepth 100000 in
theorem kd_147 : ak_chk cX7_lay 0 k_147 = true := by decide +kernel
set_option maxRecDepth 100000 in
theorem kd_148 : ak_chk cX7_put 0 k_148 = true := by decide +kernel
set_option maxRecDepth 100000 in
theorem kd_149 : ak_chk cX7_reaches 0 k_149 = true := by decide +kernel
set_option maxRecDepth 100000 in
theorem kd_150 : ak_chk cX11_drawn 0 k_150 = true := by decide +kernel
set_option maxRecDepth 100000 in
theorem kd_151 : ak_chk cX11_drawWishes 0 k_151 = true := by decide +kernel
set_option maxRecDepth 100000 in
theorem kd_152 : ak_chk cX11_chance 0 k_152 = true := by decide +kernel
set_option maxRecDepth 100000 in
theorem kd_153 : ak_chk cX11_commonDivisor 0 k_153 = true := by decide +kernel
set_option maxRecDepth 100000 in
theorem kd_154 : ak_chk cX11_image 0 k_154 = true := by decide +kernel
set_option maxRecDepth 100000 in
theorem kd_155 : ak_chk cX11_back 0 k_155 = true := by decide +kernel
set_option maxRecDepth 100000 in
theorem kd_156 : ak_chk cX11_count 0 k_156 = true := by decide +kernel
set_option maxRecDepth 100000 in
theorem kd_157 : ak_chk cX8_booked 0 k_157 = true := by decide +kernel
set_option maxRecDepth 100000 in
theorem kd_158 : ak_chk cX8_twosApart 0 k_158 = true := by decide +kernel
set_option maxRecDepth 100000 in
theorem kd_159 : ak_chk cX11_sheet 0 k_159 = true := by decide +kernel
set_option maxRecDepth 100000 in
theorem kd_160 : ak_chk cX7_isSort 0 k_160 = true := by decide +kernel
set_option maxRecDepth 100000 in
theorem kd_161 : ak_chk cX11_cell 0 k_161 = true := by decide +kernel
set_option maxRecDepth 100000 in
theorem kd_162 : ak_chk cX11_copy 0 k_162 = true := by decide +kernel
set_option maxRecDepth 100000 in
theorem kd_163 : ak_chk cX11_clerks 0 k_163 = true := by decide +kernel
set_option maxRecDepth 100000 in
theorem kd_164 : ak_chk cX11_taken 0 k_164 = true := by decide +kernel
set_option maxRecDepth 100000 in
theorem kd_165 : ak_chk cX6_isKind 0 k_165 = true := by decide +kernel
set_option maxRecDepth 100000 in
theorem kd_166 : ak_chk cX12_init 0 k_166 = true := by decide +kernel
set_option maxRecDepth 100000 in
theorem kd_167 : ak_chk cX12_spell 0 k_167 = true := by decide +kernel
set_option maxRecDepth 100000 in
theorem kd_168 : ak_chk cX12_set 0 k_168 = true := by decide +kernel
set_option maxRecDepth 100000 in
theorem kd_169 : ak_chk cX12_in 0 k_169 = true := by decide +kernel
set_option maxRecDepth 100000 in
theorem kd_170 : ak_chk cX12_isOne 0 k_170 = true := by decide +kernel
set_option maxRecDepth 100000 in
theorem kd_171 : ak_chk cX12_mostOf 0 k_171 = true := by decide +kernel
set_option maxRecDepth 100000 in
theorem kd_172 : ak_chk cX12_told 0 k_172 = true := by decide +kernel
set_option maxRecDepth 100000 in
theorem kd_173 : ak_chk cX12_gladOf 0 k_173 = true := by decide +kernel
set_option maxRecDepth 100000 in
theorem kd_174 : ak_chk cX12_isWished 0 k_174 = true := by decide +kernel
set_option maxRecDepth 100000 in
theorem kd_175 : ak_chk cX12_asks 0 k_175 = true := by decide +kernel
set_option maxRecDepth 100000 in
theorem kd_176 : ak_chk cX12_read 0 k_176 = true := by decide +kernel
set_option maxRecDepth 100000 in
theorem kd_177 : ak_chk cX12_next 0 k_177 = true := by decide +kernel
set_option maxRecDepth 100000 in
theorem kd_178 : ak_chk cX12_byteAt 0 k_178 = true := by decide +kernel
set_option maxRecDepth 100000 in
theorem kd_179 : ak_chk cX12_isWord 0 k_179 = true := by decide +kernel
set_option maxRecDepth 100000 in
theorem kd_180 : ak_chk cX12_isLetter 0 k_180 = true := by decide +kernel
set_option maxRecDepth 100000 in
theorem kd_181 : ak_chk cX12_part 0 k_181 = true := by decide +kernel
set_option maxRecDepth 100000 in
theorem kd_182 : ak_chk cX12_fail 0 k_182 = true := by decide +kernel
set_option maxRecDepth 100000 in
theorem kd_183 : ak_chk cX12_either 0 k_183 = true := by decide +kernel
set_option maxRecDepth 100000 in
theorem kd_184 : ak_chk cX12_both 0 k_184 = true := by decide +kernel
set_option maxRecDepth 100000 in
theorem kd_185 : ak_chk cX12_not 0 k_185 = true := by decide +kernel
set_option maxRecDepth 100000 in
theorem kd_186 : ak_chk cX12_opens 0 k_186 = true := by decide +kernel
set_option maxRecDepth 100000 in
theorem kd_187 : ak_chk cX12_added 0 k_187 = true := by decide +kernel
set_option maxRecDepth 100000 in
theorem kd_188 : ak_chk cX12_term 0 k_188 = true := by decide +kernel
set_option maxRecDepth 100000 in
theorem kd_189 : ak_chk cX12_atom 0 k_189 = true := by decide +kernel
set_option maxRecDepth 100000 in
theorem kd_190 : ak_chk cX12_isSign 0 k_190 = true := by decide +kernel
set_option maxRecDepth 100000 in
theorem kd_191 : ak_chk cX12_name 0 k_191 = true := by decide +kernel
set_option maxRecDepth 100000 in
theorem kd_192 : ak_chk cX12_within 0 k_192 = true := by decide +kernel
set_option maxRecDepth 100000 in
theorem kd_193 : ak_chk cX12_wants 0 k_193 = true := by decide +kernel
set_option maxRecDepth 100000 in
theorem kd_194 : ak_chk cX12_hasOf 0 k_194 = true := by decide +kernel
set_option maxRecDepth 100000 in
theorem kd_195 : ak_chk cX12_weeksOf 0 k_195 = true := by decide +kernel
set_option maxRecDepth 100000 in
theorem kd_196 : ak_chk cX12_earnsOf 0 k_196 = true := by decide +kernel
set_option maxRecDepth 100000 in
theorem kd_197 : ak_chk cX12_lays 0 k_197 = true := by decide +kernel
set_option maxRecDepth 100000 in
theorem kd_198 : ak_chk cX12_clerk 0 k_198 = true := by decide +kernel
set_option maxRecDepth 100000 in
theorem kd_199 : ak_chk cX12_parts 0 k_199 = true := by decide +kernel
set_option maxRecDepth 100000 in
theorem kd_200 : ak_chk cX12_apart 0 k_200 = true := by decide +kernel
set_option maxRecDepth 100000 in
theorem kd_201 : ak_chk cX12_book 0 k_201 = true := by decide +kernel
set_option maxRecDepth 100000 in
theorem kd_202 : ak_chk cX12_isWeek 0 k_202 = true := by decide +kernel
set_option maxRecDepth 100000 in
theorem kd_203 : ak_chk cX12_canBe 0 k_203 = true := by decide +kernel
set_option maxRecDepth 100000 in
theorem kd_204 : ak_chk cX12_feed 0 k_204 = true := by decide +kernel
set_option maxRecDepth 100000 in
theorem kd_205 : ak_chk cX12_text 0 k_205 = true := by decide +kernel
set_option maxRecDepth 100000 in
theorem kd_206 : ak_chk cX12_force 0 k_206 = true := by decide +kernel
set_option maxRecDepth 100000 in
theorem kd_207 : ak_chk cX12_plan 0 k_207 = true := by decide +kernel
set_option maxRecDepth 100000 in
theorem kd_208 : ak_chk cX12_tables 0 k_208 = true := by decide +kernel
set_option maxRecDepth 100000 in
theorem kd_209 : ak_chk cX12_booked 0 k_209 = true := by decide +kernel
set_option maxRecDepth 100000 in
theorem kd_210 : ak_chk cX12_holds 0 k_210 = true := by decide +kernel
set_option maxRecDepth 100000 in
theorem kd_211 : ak_chk cX12_firstWrong 0 k_211 = true := by decide +kernel
set_option maxRecDepth 100000 in
theorem kd_212 : ak_chk cX12_isRight 0 k_212 = true := by decide +kernel
set_option maxRecDepth 100000 in
theorem kd_213 : ak_chk cX12_awayIn 0 k_213 = true := by decide +kernel
set_option maxRecDepth 100000 in
theorem kd_214 : ak_chk cX12_bitsOf 0 k_214 = true := by decide +kernel
set_option maxRecDepth 100000 in
theorem kd_215 : ak_chk cX12_allOf 0 k_215 = true := by decide +kernel
set_option maxRecDepth 100000 in
theorem kd_216 : ak_chk cX12_year 0 k_216 = true := by decide +kernel
set_option maxRecDepth 100000 in
theorem kd_217 : ak_chk cX12_best 0 k_217 = true := by decide +kernel
set_option maxRecDepth 100000 in
theorem kd_218 : ak_chk cX12_seeks 0 k_218 = true := by decide +kernel
set_option maxRecDepth 100000 in
theorem kd_219 : ak_chk cX12_leastOf 0 k_219 = true := by decide +kernel
set_option maxRecDepth 100000 in
theorem kd_220 : ak_chk cX12_digits 0 k_220 = true := by decide +kernel
set_option maxRecDepth 100000 in
theorem kd_221 : ak_chk cX12_inTurn 0 k_221 = true := by decide +kernel
set_option maxRecDepth 100000 in
theorem kd_222 : ak_chk cX12_turnsAll 0 k_222 = true := by decide +kernel
set_option maxRecDepth 100000 in
theorem kd_223 : ak_chk cX12_nextTurn 0 k_223 = true := by decide +kernel
set_option maxRecDepth 100000 in
theorem kd_224 : ak_chk cX12_takes 0 k_224 = true := by decide +kernel
set_option maxRecDepth 100000 in
theorem kd_225 : ak_chk cX12_noneMany 0 k_225 = true := by decide +kernel
set_option maxRecDepth 100000 in
theorem kd_226 : ak_chk cX12_settle 0 k_226 = true := by decide +kernel
set_option maxRecDepth 100000 in
theorem kd_227 : ak_chk cX12_change 0 k_227 = true := by decide +kernel
set_option maxRecDepth 100000 in
theorem kd_228 : ak_chk cX12_bars 0 k_228 = true := by decide +kernel
set_option maxRecDepth 100000 in
theorem kd_229 : ak_chk cX12_tells 0 k_229 = true := by decide +kernel
set_option maxRecDepth 100000 in
theorem kd_230 : ak_chk cX12_isSheet 0 k_230 = true := by decide +kernel
set_option maxRecDepth 100000 in
theorem kd_231 : ak_chk cX12_firstOther 0 k_231 = true := by decide +kernel
set_option maxRecDepth 100000 in
theorem kd_232 : ak_chk cX12_film 0 k_232 = true := by decide +kernel
set_option maxRecDepth 100000 in
theorem kd_233 : ak_chk cX12_sheet 0 k_233 = true := by decide +kernel
set_option maxRecDepth 100000 in
theorem kd_234 : ak_chk cX12_drawn 0 k_234 = true := by decide +kernel
set_option maxRecDepth 100000 in
theorem kd_235 : ak_chk cX12_draws 0 k_235 = true := by decide +kernel
set_option maxRecDepth 100000 in
theorem kd_236 : ak_chk cX12_chance 0 k_236 = true := by decide +kernel
set_option maxRecDepth 100000 in
theorem kd_237 : ak_chk cX12_image 0 k_237 = true := by decide +kernel
set_option maxRecDepth 100000 in
theorem kd_238 : ak_chk cX12_back 0 k_238 = true := by decide +kernel
set_option maxRecDepth 100000 in
theorem kd_239 : ak_chk cX12_count 0 k_239 = true := by decide +kernel
set_option maxRecDepth 100000 in
theorem kd_240 : ak_chk cX12_cell 0 k_240 = true := by decide +kernel
set_option maxRecDepth 100000 in
theorem kd_241 : ak_chk cX12_copy 0 k_241 = true := by decide +kernel
set_option maxRecDepth 100000 in
theorem kd_242 : ak_chk cX12_clerks 0 k_242 = true := by decide +kernel
set_option maxRecDepth 100000 in
theorem kd_243 : ak_chk cX12_taken 0 k_243 = true := by decide +kernel
set_option maxRecDepth 100000 in
theorem kd_244 : ak_chk cX12_over 0 k_244 = true := by decide +kernel
set_option maxRecDepth 100000 in
theorem kd_245_0 : ak_chk cL_law 0 k_245_0 = true := by decide +kernel
set_option maxRecDepth 100000 in
theorem kd_245_1 : ak_chk cL_law 100 k_245_1 = true := by decide +kernel
set_option maxRecDepth 100000 in
theorem kd_245_2 : ak_chk cL_law 200 k_245_2 = true := by decide +kernel
set_option maxRecDepth 100000 in
theorem kd_245_3 : ak_chk cL_law 300 k_245_3 = true := by decide +kernel
set_option maxRecDepth 100000 in
theorem kd_245_4 : ak_chk cL_law 400 k_245_4 = true := by decide +kernel
set_option maxRecDepth 100000 in
theorem kd_245_5 : ak_chk cL_law 500 k_245_5 = true := by decide +kernel
set_option maxRecDepth 100000 in
theorem kd_245_6 : ak_chk cL_law 600 k_245_6 = true := by decide +kernel
set_option maxRecDepth 100000 in
theorem kd_245_7 : ak_chk cL_law 700 k_245_7 = true := by decide +kernel
set_option maxRecDepth 100000 in
theorem kd_245_8 : ak_chk cL_law 800 k_245_8 = true := by decide +kernel
set_option maxRecDepth 100000 in
theorem kd_245_9 : ak_chk cL_law 900 k_245_9 = true := by decide +kernel
theorem kd_245 : ak_chk cL_law 0 k_245 = true := ak_chk_app rfl kd_245_0 (ak_chk_app rfl kd_245_1 (ak_chk_app rfl kd_245_2 (ak_chk_app rfl kd_245_3 (ak_chk_app rfl kd_245_4 (ak_chk_app rfl kd_245_5 (ak_chk_app rfl kd_245_6 (ak_chk_app rfl kd_245_7 (ak_chk_app rfl kd_245_8 (kd_245_9)))))))))
end
section
/-- a cell's kind: an object of a class, or an array of a type and a length -/
abbrev ak_K : Type := Nat ⊕ (Nat × Nat)
/-- the heap: kinds, whole numbers, long numbers, references -/
abbrev ak_H : Type := List ak_K × (Nat → Nat → Int32) × (Nat → Nat → Int64) × (Nat → Nat → Option Nat)
abbrev ak_L : Type := List (Option Value)
/-- a step comes to: the next place; an answer; a call -/
abbrev ak_O : Type := (Nat × ak_L × List Value × ak_H) ⊕ (Option Value) ⊕ (Nat × List Value × List Value)
def ak_up {α : Type} (f : Nat → Nat → α) (i j : Nat) (v : α) : Nat → Nat → α := fun a b => if a = i ∧ b = j then v else f a b
def ak_cpy (f : Nat → Nat → Int32) (src sp dst dp n : Nat) : Nat → Nat → Int32 := fun a k => if a = dst ∧ dp ≤ k ∧ k < dp + n then f src (sp + (k - dp)) else f a k
def ak_inb (i : Int32) (n : Nat) : Bool := !(decide (i < 0)) && decide (i.toNatClampNeg < n)
/-- static arrays: what stands at the places from 1000000 on: type, length, contents; the script is (L, xs) -/
abbrev ak_Z : Type := Nat × (Nat → Int32)
def ak_strs : List (List Int32) := [[106, 111, 121, 115], [101, 97, 114, 110, 115], [109, 97, 121], [111, 114], [97, 110, 100], [110, 111, 116], [119, 101, 101, 107], [119, 105, 115, 104, 101, 100], [110, 117, 109, 98, 101, 114], [108, 101, 110, 103, 116, 104], [112, 111, 105, 110, 116, 115], [97, 119, 97, 121]]
def ak_from : List Int32 := [0, 0, 0, 0, 1, 0, 0]
def ak_to : List Int32 := [999, 4, 15, 9, 4, 255, 999]
/-- a read-only array of whole numbers: whether of bytes, its length, what it holds -/
def ak_sa (Z : ak_Z) (r : Nat) : Option (Bool × Nat × (Nat → Int32)) :=
  if r = 2000000 then some (false, 7, fun j => ak_from.getD j 0)
  else if r = 2000001 then some (false, 7, fun j => ak_to.getD j 0)
  else if r = 4000000 then some (false, Z.1, Z.2)
  else if 1000100 ≤ r ∧ r < 1000112 then some (true, (ak_strs.getD (r - 1000100) []).length, fun j => (ak_strs.getD (r - 1000100) []).getD j 0)
  else none
/-- instructions of the stack alone -/
def ak_stk (ins : Instr) (x : ak_X) (S : List Value) : Option (List Value) := match ins with
  | .iconst n => some (.int (Int32.ofInt n) :: S)
  | .bipush n => some (.int (Int8.ofInt n).toInt32 :: S)
  | .sipush n => some (.int (Int16.ofInt n).toInt32 :: S)
  | .lconst n => some (.long (Int64.ofNat (n : Nat)) :: S)
  | .ldc _ => match x with
    | (4, _, _, v) => some (.int (Int32.ofInt v) :: S)
    | (5, k, _, _) => some (.ref (1000000 + k) :: S)
    | _ => none
  | .ldc_w _ => match x with
    | (4, _, _, v) => some (.int (Int32.ofInt v) :: S)
    | _ => none
  | .ldc2_w _ => match x with
    | (6, _, _, v) => some (.long (Int64.ofInt v) :: S)
    | _ => none
  | .iadd => match S with | .int b :: .int a :: r => some (.int (a + b) :: r) | _ => none
  | .isub => match S with | .int b :: .int a :: r => some (.int (a - b) :: r) | _ => none
  | .imul => match S with | .int b :: .int a :: r => some (.int (a * b) :: r) | _ => none
  | .iand => match S with | .int b :: .int a :: r => some (.int (a &&& b) :: r) | _ => none
  | .ior => match S with | .int b :: .int a :: r => some (.int (a ||| b) :: r) | _ => none
  | .ixor => match S with | .int b :: .int a :: r => some (.int (a ^^^ b) :: r) | _ => none
  | .idiv => match S with | .int b :: .int a :: r => if b = 0 then none else some (.int (a / b) :: r) | _ => none
  | .irem => match S with | .int b :: .int a :: r => if b = 0 then none else some (.int (a - a / b * b) :: r) | _ => none
  | .ineg => match S with | .int a :: r => some (.int (-a) :: r) | _ => none
  | .ishl => match S with | .int b :: .int a :: r => some (.int (a <<< (b &&& 31)) :: r) | _ => none
  | .ishr => match S with | .int b :: .int a :: r => some (.int (a >>> (b &&& 31)) :: r) | _ => none
  | .iushr => match S with | .int b :: .int a :: r => some (.int (a.toUInt32 >>> (b.toUInt32 &&& Int32.toUInt32 31)).toInt32 :: r) | _ => none
  | .ladd => match S with | .long b :: .long a :: r => some (.long (a + b) :: r) | _ => none
  | .lsub => match S with | .long b :: .long a :: r => some (.long (a - b) :: r) | _ => none
  | .lmul => match S with | .long b :: .long a :: r => some (.long (a * b) :: r) | _ => none
  | .ldiv => match S with | .long b :: .long a :: r => if b = 0 then none else some (.long (a / b) :: r) | _ => none
  | .lrem => match S with | .long b :: .long a :: r => if b = 0 then none else some (.long (a - a / b * b) :: r) | _ => none
  | .lcmp => match S with | .long b :: .long a :: r => some (.int (lg_cmp a b) :: r) | _ => none
  | .i2l => match S with | .int a :: r => some (.long a.toInt64 :: r) | _ => none
  | .l2i => match S with | .long a :: r => some (.int a.toInt32 :: r) | _ => none
  | .i2b => match S with | .int a :: r => some (.int a.toInt8.toInt32 :: r) | _ => none
  | .i2s => match S with | .int a :: r => some (.int a.toInt16.toInt32 :: r) | _ => none
  | .i2c => match S with | .int a :: r => some (.int (a.toUInt32 % 65536).toInt32 :: r) | _ => none
  | .dup => match S with
    | .int a :: r => some (.int a :: .int a :: r)
    | .ref a :: r => some (.ref a :: .ref a :: r)
    | _ => none
  | .pop => match S with | .int _ :: r => some r | _ => none
  | .dup2 => match S with | .int a :: .ref b :: r => some (.int a :: .ref b :: .int a :: .ref b :: r) | _ => none
  | _ => none
/-- reading a local -/
def ak_ldi (L : ak_L) (k : Nat) (S : List Value) : Option (List Value) := match L[k]? with
  | some (some (.int v)) => some (.int v :: S)
  | _ => none
def ak_ldl (L : ak_L) (k : Nat) (S : List Value) : Option (List Value) := match L[k]? with
  | some (some (.long v)) => some (.long v :: S)
  | _ => none
def ak_lda (L : ak_L) (k : Nat) (S : List Value) : Option (List Value) := match L[k]? with
  | some (some (.ref v)) => some (.ref v :: S)
  | _ => none
def ak_load (ins : Instr) (L : ak_L) (S : List Value) : Option (List Value) := match ins with
  | .iload_n k => ak_ldi L k S
  | .iload k => ak_ldi L k S
  | .lload_n k => ak_ldl L k S
  | .lload k => ak_ldl L k S
  | .aload_n k => ak_lda L k S
  | .aload k => ak_lda L k S
  | _ => none
/-- a long that stands one place before goes -/
def ak_kill (L : ak_L) (k : Nat) : ak_L := match k with
  | 0 => L
  | k + 1 => match L[k]? with
    | some (some u) => if u.category = 2 then L.set k none else L
    | _ => L
def ak_st1 (L : ak_L) (k : Nat) (v : Value) : Option ak_L := if k < L.length then some ((ak_kill L k).set k (some v)) else none
def ak_st2 (L : ak_L) (k : Nat) (v : Value) : Option ak_L := if k + 1 < L.length then some (((ak_kill L k).set k (some v)).set (k + 1) none) else none
def ak_stoi (L : ak_L) (k : Nat) (S : List Value) : Option (ak_L × List Value) := match S with
  | .int v :: r => (ak_st1 L k (.int v)).map (fun l => (l, r))
  | _ => none
def ak_stol (L : ak_L) (k : Nat) (S : List Value) : Option (ak_L × List Value) := match S with
  | .long v :: r => (ak_st2 L k (.long v)).map (fun l => (l, r))
  | _ => none
def ak_stoa (L : ak_L) (k : Nat) (S : List Value) : Option (ak_L × List Value) := match S with
  | .ref v :: r => (ak_st1 L k (.ref v)).map (fun l => (l, r))
  | _ => none
def ak_store (ins : Instr) (L : ak_L) (S : List Value) : Option (ak_L × List Value) := match ins with
  | .istore_n k => ak_stoi L k S
  | .istore k => ak_stoi L k S
  | .lstore_n k => ak_stol L k S
  | .lstore k => ak_stol L k S
  | .astore_n k => ak_stoa L k S
  | .astore k => ak_stoa L k S
  | .iinc k n => match L[k]? with
    | some (some (.int v)) => (ak_st1 L k (.int (v + Int32.ofInt n))).map (fun l => (l, S))
    | _ => none
  | _ => none
def ak_cnd (c : Jvm.ClassFile.Cond) (a b : Int32) : Bool := match c with
  | .eq => decide (a = b)
  | .ne => !decide (a = b)
  | .lt => decide (a < b)
  | .ge => decide (b ≤ a)
  | .gt => decide (b < a)
  | .le => decide (a ≤ b)
/-- branches: the place (as a whole number) and the stack -/
def ak_jump (ins : Instr) (w pc : Nat) (S : List Value) : Option (Int × List Value) := match ins with
  | .goto off => some ((pc : Int) + off, S)
  | .ifCond c off => match S with
    | .int a :: r => some (if ak_cnd c a 0 then (pc : Int) + off else ((pc + w : Nat) : Int), r)
    | _ => none
  | .if_icmp c off => match S with
    | .int b :: .int a :: r => some (if ak_cnd c a b then (pc : Int) + off else ((pc + w : Nat) : Int), r)
    | _ => none
  | .tableswitch dflt lo hi offs => match S with
    | .int a :: r => if a.toInt < lo ∨ hi < a.toInt then some ((pc : Int) + dflt, r) else (offs[(a.toInt - lo).toNat]?).map (fun o => ((pc : Int) + o, r))
    | _ => none
  | _ => none
/-- the fields of our classes: 0 int, 1 boolean, 2 long, 3 reference -/
def ak_F : List (List Nat) := [[], [], [], [], [], [3, 3, 3, 3, 3, 3, 3, 3, 3, 3, 1, 0], [0, 3, 3, 3, 3], [0, 0, 3], [0, 0, 0, 0, 0, 3, 3, 3, 3, 3, 3, 3], [], [3, 3, 0, 0, 3, 0, 0, 0, 0, 0, 0, 0], [3, 3, 3, 1, 3, 0, 3, 3, 3], [0, 3, 3, 0, 0, 3, 0, 3, 3, 3, 3, 0, 0, 0, 0, 0, 0, 0, 0, 0, 0, 0, 0, 2, 0, 1, 0, 3, 3, 3, 3, 1, 0, 0, 3, 3, 3, 3, 0, 0, 3, 3, 3, 3]]
/-- a field's value -/
def ak_fv (h : ak_H) (ci r k : Nat) : Option Value := match (ak_F.getD ci []).getD k 9 with
  | 0 => some (.int (h.2.1 r k))
  | 1 => some (.int (h.2.1 r k))
  | 2 => some (.long (h.2.2.1 r k))
  | 3 => some (va_rf (h.2.2.2 r k))
  | _ => none
/-- a field laid -/
def ak_fp (h : ak_H) (ci r k : Nat) (v : Value) : Option ak_H := match (ak_F.getD ci []).getD k 9, v with
  | 0, .int a => some (h.1, ak_up h.2.1 r k a, h.2.2.1, h.2.2.2)
  | 1, .int a => if a = 0 ∨ a = 1 then some (h.1, ak_up h.2.1 r k a, h.2.2.1, h.2.2.2) else none
  | 2, .long a => some (h.1, h.2.1, ak_up h.2.2.1 r k a, h.2.2.2)
  | 3, .ref a => some (h.1, h.2.1, h.2.2.1, ak_up h.2.2.2 r k (some a))
  | _, _ => none
/-- whether a class is under another (its name's number): 0 apprentice, 1 boss, 2 bride, 3 clerk, 4 parent, 9 single -/
def ak_sub (c j : Nat) : Bool := c == j || (j == 3 && (c == 0 || c == 1 || c == 2 || c == 4 || c == 9)) || (j == 4 && c == 2) || (j == 9 && c == 1)
/-- a cell's room -/
def ak_sz (k : ak_K) : Nat := match k with
  | .inl ci => (ak_F.getD ci []).length
  | .inr q => q.2
def ak_nS (h : ak_H) : Nat := (h.1.map ak_sz).sum
def ak_arr (t : Nat) : Bool := t == 2 || t == 3 || t == 4
/-- the class of what an array of references holds -/
def ak_el (t : Nat) : Nat := if t = 2 then 10 else if t = 3 then 3 else 7
/-- how many cells there are once both objects are made -/
def ak_N0 : Nat := 93
/-- instructions of the heap; d: how many calls deep one may still go -/
def ak_mem (Z : ak_Z) (d : Nat) (own : Nat) (isInit : Bool) (ins : Instr) (x : ak_X) (S : List Value) (h : ak_H) : Option (List Value × ak_H) := match ins with
  | .getfield _ => match x, S with
    | (1, ci, k, _), .ref r :: st => if h.1[r]? = some (.inl ci) then (ak_fv h ci r k).map (fun v => (v :: st, h)) else none
    | (2, f, _, _), .ref r :: st => if 1000000 ≤ r ∧ r < 1000012 then (if f = 0 then some (.ref (r + 100) :: st, h) else some (.int 0 :: st, h)) else none
    | _, _ => none
  | .putfield _ => match x, S with
    | (1, ci, k, fin), v :: .ref r :: st => if h.1[r]? = some (.inl ci) ∧ (fin = 0 ∨ (isInit = true ∧ own = ci)) then (ak_fp h ci r k v).map (fun h' => (st, h')) else none
    | _, _ => none
  | .getstatic _ => match x with
    | (3, 0, _, _) => some (.ref 2000000 :: S, h)
    | (3, 1, _, _) => some (.ref 2000001 :: S, h)
    | (3, 2, _, _) => some (.int 1 :: S, h)
    | (3, 3, _, _) => some (.retAddr 0 :: S, h)
    | _ => none
  | .iaload => match S with
    | .int i :: .ref r :: st => match h.1[r]? with
      | some (.inr (0, n)) => if ak_inb i n = true then some (.int (h.2.1 r i.toNatClampNeg) :: st, h) else none
      | some _ => none
      | none => match ak_sa Z r with
        | some (false, n, f) => if ak_inb i n = true then some (.int (f i.toNatClampNeg) :: st, h) else none
        | _ => none
    | _ => none
  | .baload => match S with
    | .int i :: .ref r :: st => match h.1[r]? with
      | some (.inr (1, n)) => if ak_inb i n = true then some (.int (h.2.1 r i.toNatClampNeg) :: st, h) else none
      | some _ => none
      | none => match ak_sa Z r with
        | some (true, n, f) => if ak_inb i n = true then some (.int (f i.toNatClampNeg) :: st, h) else none
        | _ => none
    | _ => none
  | .aaload => match S with
    | .int i :: .ref r :: st => match h.1[r]? with
      | some (.inr (t, n)) => if ak_arr t = true ∧ ak_inb i n = true then some (va_rf (h.2.2.2 r i.toNatClampNeg) :: st, h) else none
      | _ => none
    | _ => none
  | .arraylength => match S with
    | .ref r :: st => match h.1[r]? with
      | some (.inr (t, n)) => if t < 5 then some (.int (Int32.ofNat n) :: st, h) else none
      | some _ => none
      | none => match ak_sa Z r with
        | some (_, n, _) => some (.int (Int32.ofNat n) :: st, h)
        | _ => none
    | _ => none
  | .iastore => match S with
    | .int v :: .int i :: .ref r :: st => match h.1[r]? with
      | some (.inr (0, n)) => if ak_inb i n = true then some (st, (h.1, ak_up h.2.1 r i.toNatClampNeg v, h.2.2.1, h.2.2.2)) else none
      | _ => none
    | _ => none
  | .bastore => match S with
    | .int v :: .int i :: .ref r :: st => match h.1[r]? with
      | some (.inr (1, n)) => if ak_inb i n = true ∧ (v = 0 ∨ v = 1) then some (st, (h.1, ak_up h.2.1 r i.toNatClampNeg v, h.2.2.1, h.2.2.2)) else none
      | _ => none
    | _ => none
  | .aastore => match S with
    | .ref v :: .int i :: .ref r :: st => match h.1[r]?, h.1[v]? with
      | some (.inr (t, n)), some (.inl c) => if ak_arr t = true ∧ ak_sub c (ak_el t) = true ∧ ak_inb i n = true then some (st, (h.1, h.2.1, h.2.2.1, ak_up h.2.2.2 r i.toNatClampNeg (some v))) else none
      | _, _ => none
    | _ => none
  | .new _ => match x with
    | (7, ci, _, _) => if ci < 13 ∧ h.1.length < ak_N0 then some (.ref h.1.length :: S, (h.1 ++ [.inl ci], fun a k => if a = h.1.length then 0 else h.2.1 a k, fun a k => if a = h.1.length then 0 else h.2.2.1 a k, fun a k => if a = h.1.length then none else h.2.2.2 a k)) else none
    | _ => none
  | .newarray at_ => match S with
    | .int n :: st => if (at_ = .int ∨ at_ = .boolean) ∧ ¬ n < 0 ∧ n.toNatClampNeg ≤ 10000 ∧ h.1.length < ak_N0 then some (.ref h.1.length :: st, (h.1 ++ [.inr (if at_ = .int then 0 else 1, n.toNatClampNeg)], fun a k => if a = h.1.length then 0 else h.2.1 a k, h.2.2.1, h.2.2.2)) else none
    | _ => none
  | .anewarray _ => match x, S with
    | (7, ci, t, _), .int n :: st => if ak_arr t = true ∧ ci = ak_el t ∧ ¬ n < 0 ∧ n.toNatClampNeg ≤ 10000 ∧ h.1.length < ak_N0 then some (.ref h.1.length :: st, (h.1 ++ [.inr (t, n.toNatClampNeg)], h.2.1, h.2.2.1, fun a k => if a = h.1.length then none else h.2.2.2 a k)) else none
    | _, _ => none
  | .instanceof _ => match x, S with
    | (7, j, _, _), .ref r :: st => match h.1[r]? with
      | some (.inl c) => if (c = 0 ∨ c = 1 ∨ c = 2 ∨ c = 3 ∨ c = 4 ∨ c = 9) ∧ (j = 0 ∨ j = 1 ∨ j = 2 ∨ j = 4 ∨ j = 9) then some (.int (if ak_sub c j = true then 1 else 0) :: st, h) else none
      | _ => none
    | _, _ => none
  | .invokespecial _ => match x, S with
    | (16, _, _, _), .ref _ :: st => if d ≠ 0 ∧ (st.map fun v => v.category).sum ≤ 8 then some (st, h) else none
    | _, _ => none
  | .invokestatic _ => match x, S with
    | (19, _, _, _), .int b :: .int a :: st => if d ≠ 0 ∧ (st.map fun v => v.category).sum ≤ 8 then some (.int (if b < a then b else a) :: st, h) else none
    | (20, _, _, _), .int b :: .int a :: st => if d ≠ 0 ∧ (st.map fun v => v.category).sum ≤ 8 then some (.int (if a < b then b else a) :: st, h) else none
    | (17, _, _, _), .int n :: .int dp :: .ref b :: .int sp :: .ref a :: st => match h.1[a]?, h.1[b]? with
      | some (.inr (0, n0)), some (.inr (0, n1)) => if d ≠ 0 ∧ ak_N0 ≤ h.1.length ∧ (st.map fun v => v.category).sum ≤ 8 ∧ ¬ sp < 0 ∧ ¬ dp < 0 ∧ ¬ n < 0 ∧ sp.toNatClampNeg + n.toNatClampNeg ≤ n0 ∧ dp.toNatClampNeg + n.toNatClampNeg ≤ n1 then some (st, (h.1, ak_cpy h.2.1 a sp.toNatClampNeg b dp.toNatClampNeg n.toNatClampNeg, h.2.2.1, h.2.2.2)) else none
      | _, _ => none
    | _, _ => none
  | _ => none
/-- calls: of which method, with what, and what stays on the stack -/
def ak_call (ins : Instr) (x : ak_X) (S : List Value) (h : ak_H) : Option (Nat × List Value × List Value) := match ins with
  | .invokevirtual _ => match x, S.drop x.2.2.1 with
    | (8, mi, n, ci), .ref r :: st => if h.1[r]? = some (.inl ci.toNat) ∧ (S.take n).length = n ∧ (st.map fun v => v.category).sum ≤ 8 then some (mi, .ref r :: (S.take n).reverse, st) else none
    | (9, mi, n, _), .ref r :: st => if (1000000 ≤ r ∧ r < 1000012) ∧ (S.take n).length = n ∧ (st.map fun v => v.category).sum ≤ 8 then some (mi, .ref r :: (S.take n).reverse, st) else none
    | (10, f, n, _), .ref r :: st => match h.1[r]? with
      | some (.inl c) => match ak_fam f c with
        | some mi => if (S.take n).length = n ∧ (st.map fun v => v.category).sum ≤ 8 then some (mi, .ref r :: (S.take n).reverse, st) else none
        | none => none
      | _ => none
    | _, _ => none
  | .invokespecial _ => match x, S.drop x.2.2.1 with
    | (14, mi, n, ci), .ref r :: st => if h.1[r]? = some (.inl ci.toNat) ∧ (S.take n).length = n ∧ (st.map fun v => v.category).sum ≤ 8 then some (mi, .ref r :: (S.take n).reverse, st) else none
    | (15, mi, n, _), .ref r :: st => match h.1[r]? with
      | some (.inl _) => if (S.take n).length = n ∧ (st.map fun v => v.category).sum ≤ 8 then some (mi, .ref r :: (S.take n).reverse, st) else none
      | _ => none
    | (18, mi, n, _), .ref r :: st => match h.1[r]? with
      | some (.inl _) => if (S.take n).length = n ∧ (st.map fun v => v.category).sum ≤ 8 then some (mi, .ref r :: (S.take n).reverse, st) else none
      | _ => none
    | _, _ => none
  | .invokestatic _ => match x with
    | (11, mi, n, _) => if (S.take n).length = n ∧ ((S.drop n).map fun v => v.category).sum ≤ 8 then some (mi, (S.take n).reverse, S.drop n) else none
    | (12, mi, n, _) => if (S.take n).length = n ∧ ((S.drop n).map fun v => v.category).sum ≤ 8 then some (mi, (S.take n).reverse, S.drop n) else none
    | (13, mi, n, _) => if (S.take n).length = n ∧ ((S.drop n).map fun v => v.category).sum ≤ 8 then some (mi, (S.take n).reverse, S.drop n) else none
    | _ => none
  | _ => none
/-- answers -/
def ak_ret (ret : Option FieldType) (ins : Instr) (S : List Value) : Option (Option Value) := match ins, S with
  | .ireturn, [.int v] => match ret with
    | some .int => some (some (.int v))
    | some .boolean => if v = 0 ∨ v = 1 then some (some (.int v)) else none
    | some .byte => if narrow .byte (.int v) = .int v then some (some (.int v)) else none
    | some .char => if narrow .char (.int v) = .int v then some (some (.int v)) else none
    | _ => none
  | .lreturn, [.long v] => match ret with
    | some .long => some (some (.long v))
    | _ => none
  | .areturn, [.ref v] => match ret with
    | some (.object _) => some (some (.ref v))
    | some (.array _) => some (some (.ref v))
    | _ => none
  | .return_, [] => match ret with
    | none => some none
    | _ => none
  | _, _ => none
/-- which instruction is of which sort -/
def ak_sort (ins : Instr) : Nat := match ins with
  | .iload_n _ => 1
  | .iload _ => 1
  | .lload_n _ => 1
  | .lload _ => 1
  | .aload_n _ => 1
  | .aload _ => 1
  | .istore_n _ => 2
  | .istore _ => 2
  | .lstore_n _ => 2
  | .lstore _ => 2
  | .astore_n _ => 2
  | .astore _ => 2
  | .iinc _ _ => 2
  | .goto _ => 3
  | .ifCond _ _ => 3
  | .if_icmp _ _ => 3
  | .tableswitch _ _ _ _ => 3
  | .getfield _ => 4
  | .putfield _ => 4
  | .getstatic _ => 4
  | .iaload => 4
  | .baload => 4
  | .aaload => 4
  | .arraylength => 4
  | .iastore => 4
  | .bastore => 4
  | .aastore => 4
  | .new _ => 4
  | .newarray _ => 4
  | .anewarray _ => 4
  | .instanceof _ => 4
  | .invokevirtual _ => 5
  | .invokespecial _ => 5
  | .invokestatic _ => 5
  | .ireturn => 6
  | .lreturn => 6
  | .areturn => 6
  | .return_ => 6
  | _ => 0
/-- one step -/
def ak_step (Z : ak_Z) (d own : Nat) (isInit : Bool) (ret : Option FieldType) (ins : Instr) (w : Nat) (x : ak_X) (pc : Nat) (L : ak_L) (S : List Value) (h : ak_H) : Option ak_O := match ak_sort ins with
  | 0 => (ak_stk ins x S).map (fun S' => .inl (pc + w, L, S', h))
  | 1 => (ak_load ins L S).map (fun S' => .inl (pc + w, L, S', h))
  | 2 => (ak_store ins L S).map (fun q => .inl (pc + w, q.1, q.2, h))
  | 3 => match ak_jump ins w pc S with
    | some (.ofNat t, S') => some (.inl (t, L, S', h))
    | _ => none
  | 4 => (ak_mem Z d own isInit ins x S h).map (fun q => .inl (pc + w, L, q.1, q.2))
  | 5 => match ak_mem Z d own isInit ins x S h with
    | some q => some (.inl (pc + w, L, q.1, q.2))
    | none => (ak_call ins x S h).map (fun q => .inr (.inr q))
  | 6 => (ak_ret ret ins S).map (fun r => .inr (.inl r))
  | _ => none
/-- a method's locals as it begins -/
def ak_ent (n : Nat) (args : List Value) : ak_L := match args with
  | [] => List.replicate n none
  | v :: r => if v.category = 2 then some v :: none :: ak_ent (n - 2) r else some v :: ak_ent (n - 1) r
/-- the machine: n steps at most, d calls deep at most -/
def ak_run (Z : ak_Z) : Nat → Nat → Nat → Nat → ak_L → List Value → ak_H → Option (Option Value × ak_H)
  | 0, _, _, _, _, _, _ => none
  | n + 1, d, mi, pc, L, S, h => match ak_M[mi]? with
    | none => none
    | some q => match q.2.2.2.2.1[pc]? with
      | some (some (ins, w, x)) => match ak_step Z d q.2.2.2.2.2 (q.1.name == "<init>") q.2.2.2.1 ins w x pc L S h with
        | some (.inl (pc', L', S', h')) => ak_run Z n d mi pc' L' S' h'
        | some (.inr (.inl r)) => some (r, h)
        | some (.inr (.inr (mj, as, rest))) => match d with
          | 0 => none
          | d' + 1 => match ak_M[mj]? with
            | none => none
            | some qj => if (ak_ent qj.2.2.1 as).length = qj.2.2.1 then (match ak_run Z n d' mj 0 (ak_ent qj.2.2.1 as) [] h with
              | some (r, h') => ak_run Z n d mi (pc + 3) L (r.toList ++ rest) h'
              | none => none) else none
        | none => none
      | _ => none
end
section
/-! what the small machine's heap is in the machine's own -/
/-- the classes' numbers and slots; the array classes; where our cells begin; where the others stand; what the one static of the JDK holds -/
abbrev ak_E : Type := va_G × (Nat → ClassId) × Nat × (Nat → Nat) × Value
def ak_ad (E : ak_E) (i : Nat) : Nat := if i < 1000000 then E.2.2.1 + i else E.2.2.2.1 i
def ak_cv (E : ak_E) (v : Value) : Value := match v with
  | .ref i => .ref (ak_ad E i)
  | .retAddr _ => E.2.2.2.2
  | v => v
def ak_fvc (E : ak_E) (h : ak_H) (ci i j : Nat) : Value := match ak_fv h ci i j with
  | some v => ak_cv E v
  | none => .null
def ak_fs (E : ak_E) (h : ak_H) (ci i : Nat) : List Value := (List.range (ak_F.getD ci []).length).map (fun j => ak_fvc E h ci i j)
def ak_as (E : ak_E) (h : ak_H) (i t n : Nat) : vp_A := if ak_arr t = true then (n, .inr (.inr (.inr (.inr (fun j => (h.2.2.2 i j).map (ak_ad E)))))) else (n, .inl (h.2.1 i))
def ak_cell (E : ak_E) (h : ak_H) (i : Nat) (k : ak_K) : va_E := match k with
  | .inl ci => .inr (ci, ak_fs E h ci i)
  | .inr q => .inl (E.2.1 q.1, ak_as E h i q.1 q.2)
def ak_ws (E : ak_E) (h : ak_H) : va_W := h.1.mapIdx (fun i k => (ak_ad E i, ak_cell E h i k))
theorem ak_ws_at (E : ak_E) (h : ak_H) (i : Nat) : (ak_ws E h)[i]? = (h.1[i]?).map (fun k => (ak_ad E i, ak_cell E h i k)) := by
  unfold ak_ws
  rw [List.getElem?_mapIdx]
theorem ak_ws_obj {E : ak_E} {h : ak_H} {i ci : Nat} (hi : h.1[i]? = some (.inl ci)) : (ak_ws E h)[i]? = some (ak_ad E i, .inr (ci, ak_fs E h ci i)) := by
  rw [ak_ws_at, hi]; rfl
theorem ak_ws_arr {E : ak_E} {h : ak_H} {i t n : Nat} (hi : h.1[i]? = some (.inr (t, n))) : (ak_ws E h)[i]? = some (ak_ad E i, .inl (E.2.1 t, ak_as E h i t n)) := by
  rw [ak_ws_at, hi]; rfl
theorem ak_ws_len (E : ak_E) (h : ak_H) : (ak_ws E h).length = h.1.length := by
  unfold ak_ws
  simp
theorem ak_fs_at {E : ak_E} {h : ak_H} {ci i k : Nat} {v : Value} (hv : ak_fv h ci i k = some v) (hk : k < (ak_F.getD ci []).length) : (ak_fs E h ci i)[k]? = some (ak_cv E v) := by
  unfold ak_fs
  rw [List.getElem?_map, List.getElem?_range hk]
  show some (ak_fvc E h ci i k) = _
  unfold ak_fvc
  rw [hv]
theorem ak_fs_len (E : ak_E) (h : ak_H) (ci i : Nat) : (ak_fs E h ci i).length = (ak_F.getD ci []).length := by
  unfold ak_fs
  simp
/-- the addresses are apart, and ours -/
theorem ak_D (E : ak_E) (h : ak_H) (hl : h.1.length ≤ 1000000) : va_D (fun a => E.2.2.1 ≤ a) (ak_ws E h) := by
  have key : ∀ (k : Nat) (q : Nat × va_E), (ak_ws E h)[k]? = some q → k < h.1.length ∧ q.1 = E.2.2.1 + k := by
    intro k q hq
    rw [ak_ws_at] at hq
    cases hk : h.1[k]? with
    | none => rw [hk] at hq; cases hq
    | some x =>
      rw [hk] at hq
      have hlt := (List.getElem?_eq_some_iff.mp hk).1
      cases hq
      refine ⟨hlt, ?_⟩
      show ak_ad E k = _
      unfold ak_ad
      rw [if_pos (by omega)]
  refine ⟨fun i j p q hp hq he => ?_, fun k q hq => ?_⟩
  · have h1 := key i p hp
    have h2 := key j q hq
    have h3 := h1.2
    have h4 := h2.2
    omega
  · have h1 := (key k q hq).2
    show E.2.2.1 ≤ q.1
    omega
/-- a heap that differs in one cell alone -/
theorem ak_ws_set {E : ak_E} {h h' : ak_H} {r : Nat} {e : va_E} (h1 : h'.1 = h.1) (hr : ∀ k, h.1[r]? = some k → ak_cell E h' r k = e) (ho : ∀ i k, i ≠ r → ak_cell E h' i k = ak_cell E h i k) : (ak_ws E h).set r (ak_ad E r, e) = ak_ws E h' := by
  apply List.ext_getElem?
  intro i
  by_cases hi : i = r
  · subst hi
    rw [List.getElem?_set_self', ak_ws_at, ak_ws_at, h1]
    cases hk : h.1[i]? with
    | none => rfl
    | some k => simp [hr k hk]
  · rw [List.getElem?_set_ne (Ne.symm hi), ak_ws_at, ak_ws_at, h1]
    cases hk : h.1[i]? with
    | none => rfl
    | some k => simp [ho i k hi]
theorem ak_fvc_eq {E : ak_E} {h h' : ak_H} {ci i j : Nat} (e1 : h'.2.1 i j = h.2.1 i j) (e2 : h'.2.2.1 i j = h.2.2.1 i j) (e3 : h'.2.2.2 i j = h.2.2.2 i j) : ak_fvc E h' ci i j = ak_fvc E h ci i j := by
  unfold ak_fvc ak_fv
  rw [e1, e2, e3]
theorem ak_cell_eq {E : ak_E} {h h' : ak_H} {i : Nat} {k : ak_K} (e1 : h'.2.1 i = h.2.1 i) (e2 : h'.2.2.1 i = h.2.2.1 i) (e3 : h'.2.2.2 i = h.2.2.2 i) : ak_cell E h' i k = ak_cell E h i k := by
  cases k with
  | inl ci =>
    show Sum.inr (ci, ak_fs E h' ci i) = Sum.inr (ci, ak_fs E h ci i)
    unfold ak_fs
    congr 2
    refine List.map_congr_left fun j _ => ak_fvc_eq (by rw [e1]) (by rw [e2]) (by rw [e3])
  | inr q =>
    show Sum.inl (E.2.1 q.1, ak_as E h' i q.1 q.2) = Sum.inl (E.2.1 q.1, ak_as E h i q.1 q.2)
    unfold ak_as
    rw [e1, e3]
theorem ak_up_ne {α : Type} {f : Nat → Nat → α} {i j a : Nat} {v : α} (h : a ≠ i) : ak_up f i j v a = f a := by
  funext b
  unfold ak_up
  rw [if_neg (fun z => h z.1)]
theorem ak_up_row {f : Nat → Nat → Int32} {i j : Nat} {v : Int32} : ak_up f i j v i = upd (f i) j v := by
  funext b
  unfold ak_up upd
  by_cases hb : b = j
  · rw [if_pos ⟨rfl, hb⟩, if_pos hb]
  · rw [if_neg (fun z => hb z.2), if_neg hb]
theorem ak_up_same {α : Type} {f : Nat → Nat → α} {i j : Nat} {v : α} : ak_up f i j v i j = v := by
  unfold ak_up
  rw [if_pos ⟨rfl, rfl⟩]
theorem ak_up_oth {α : Type} {f : Nat → Nat → α} {i j a b : Nat} {v : α} (h : b ≠ j) : ak_up f i j v a b = f a b := by
  unfold ak_up
  rw [if_neg (fun z => h z.2)]
theorem ak_fp_1 {h h' : ak_H} {ci r k : Nat} {v : Value} (hp : ak_fp h ci r k v = some h') : h'.1 = h.1 := by
  unfold ak_fp at hp
  split at hp
  · cases hp; rfl
  · split at hp
    · cases hp; rfl
    · cases hp
  · cases hp; rfl
  · cases hp; rfl
  · cases hp
/-- a field laid is the field's place in the cell set -/
theorem ak_ws_fp {E : ak_E} {h h' : ak_H} {ci r k : Nat} {v : Value} (hp : ak_fp h ci r k v = some h') (hr : h.1[r]? = some (.inl ci)) (hk : k < (ak_F.getD ci []).length) : (ak_ws E h).set r (ak_ad E r, .inr (ci, (ak_fs E h ci r).set k (ak_cv E v))) = ak_ws E h' := by
  have key : h'.1 = h.1 ∧ ak_fvc E h' ci r k = ak_cv E v ∧ (∀ j, j ≠ k → ak_fvc E h' ci r j = ak_fvc E h ci r j) ∧ ∀ i kk, i ≠ r → ak_cell E h' i kk = ak_cell E h i kk := by
    unfold ak_fp at hp
    split at hp
    · rename_i e
      cases hp
      refine ⟨rfl, ?_, fun j hj => ak_fvc_eq (ak_up_oth hj) rfl rfl, fun i kk hi => ak_cell_eq (ak_up_ne hi) rfl rfl⟩
      unfold ak_fvc ak_fv
      rw [e]
      show ak_cv E (.int (ak_up _ r k _ r k)) = _
      rw [ak_up_same]
    · rename_i e
      split at hp
      · cases hp
        refine ⟨rfl, ?_, fun j hj => ak_fvc_eq (ak_up_oth hj) rfl rfl, fun i kk hi => ak_cell_eq (ak_up_ne hi) rfl rfl⟩
        unfold ak_fvc ak_fv
        rw [e]
        show ak_cv E (.int (ak_up _ r k _ r k)) = _
        rw [ak_up_same]
      · cases hp
    · rename_i e
      cases hp
      refine ⟨rfl, ?_, fun j hj => ak_fvc_eq rfl (ak_up_oth hj) rfl, fun i kk hi => ak_cell_eq rfl (ak_up_ne hi) rfl⟩
      unfold ak_fvc ak_fv
      rw [e]
      show ak_cv E (.long (ak_up _ r k _ r k)) = _
      rw [ak_up_same]
    · rename_i e
      cases hp
      refine ⟨rfl, ?_, fun j hj => ak_fvc_eq rfl rfl (ak_up_oth hj), fun i kk hi => ak_cell_eq rfl rfl (ak_up_ne hi)⟩
      unfold ak_fvc ak_fv
      rw [e]
      show ak_cv E (va_rf (ak_up _ r k _ r k)) = _
      rw [ak_up_same]
      rfl
    · cases hp
  obtain ⟨k1, k2, k3, k4⟩ := key
  refine ak_ws_set k1 (fun kk hkk => ?_) k4
  cases hr.symm.trans hkk
  show Sum.inr (ci, ak_fs E h' ci r) = Sum.inr (ci, _)
  congr 2
  apply List.ext_getElem?
  intro j
  by_cases hj : j = k
  · subst hj
    rw [List.getElem?_set_self (by rw [ak_fs_len]; exact hk)]
    unfold ak_fs
    rw [List.getElem?_map, List.getElem?_range hk]
    exact congrArg some k2
  · rw [List.getElem?_set_ne (Ne.symm hj)]
    unfold ak_fs
    rw [List.getElem?_map, List.getElem?_map]
    by_cases hl : j < (ak_F.getD ci []).length
    · rw [List.getElem?_range hl]
      exact congrArg some (k3 j hj)
    · rw [List.getElem?_eq_none (by simpa using hl)]
      rfl
/-- locals -/
def ak_fl (E : ak_E) : Nat → ak_L → List (Nat × Value)
  | _, [] => []
  | i, none :: t => ak_fl E (i + 1) t
  | i, some v :: t => (i, ak_cv E v) :: ak_fl E (i + 1) t
theorem ak_fl_of {E : ak_E} : ∀ {L : ak_L} {i : Nat} {q : Nat × Value}, q ∈ ak_fl E i L → ∃ (j : Nat) (u : Value), q = (i + j, ak_cv E u) ∧ L[j]? = some (some u)
  | none :: t, i, q, h => by
    obtain ⟨j, u, h1, h2⟩ := ak_fl_of (L := t) (i := i + 1) h
    exact ⟨j + 1, u, by rw [h1]; congr 1; omega, by rw [List.getElem?_cons_succ]; exact h2⟩
  | some v :: t, i, q, h => by
    rcases List.mem_cons.mp h with h | h
    · exact ⟨0, v, by rw [h]; rfl, rfl⟩
    · obtain ⟨j, u, h1, h2⟩ := ak_fl_of (L := t) (i := i + 1) h
      exact ⟨j + 1, u, by rw [h1]; congr 1; omega, by rw [List.getElem?_cons_succ]; exact h2⟩
theorem ak_fl_in {E : ak_E} : ∀ {L : ak_L} {i j : Nat} {u : Value}, L[j]? = some (some u) → (i + j, ak_cv E u) ∈ ak_fl E i L
  | a :: t, i, 0, u, h => by
    rw [List.getElem?_cons_zero] at h
    cases h
    exact List.mem_cons_self
  | none :: t, i, j + 1, u, h => by
    rw [List.getElem?_cons_succ] at h
    have := ak_fl_in (E := E) (i := i + 1) h
    rw [show i + 1 + j = i + (j + 1) by omega] at this
    exact this
  | some v :: t, i, j + 1, u, h => by
    rw [List.getElem?_cons_succ] at h
    have := ak_fl_in (E := E) (i := i + 1) h
    rw [show i + 1 + j = i + (j + 1) by omega] at this
    exact List.mem_cons_of_mem _ this
/-- the machine's locals hold L -/
def ak_ls (E : ak_E) (ls : Array Slot) (n : Nat) (L : ak_L) : Prop := lv_has ls n (ak_fl E 0 L) ∧ L.length = n
theorem ak_ls_at {E : ak_E} {ls : Array Slot} {n : Nat} {L : ak_L} {k : Nat} {u : Value} (h : ak_ls E ls n L) (hk : L[k]? = some (some u)) : ls[k]? = some (.val (ak_cv E u)) := by
  have := ak_fl_in (E := E) (i := 0) hk
  rw [Nat.zero_add] at this
  exact h.1.2.2 _ this
theorem ak_cat {E : ak_E} (hz : E.2.2.2.2.category = 1) (u : Value) : (ak_cv E u).category = u.category := by
  cases u <;> first | rfl | exact hz
theorem ak_ls_of {E : ak_E} {ls : Array Slot} {n : Nat} {l : List (Nat × Value)} {L : ak_L} (h : lv_has ls n l) (hl : L.length = n) (hm : ∀ j u, L[j]? = some (some u) → (j, ak_cv E u) ∈ l) : ak_ls E ls n L := by
  refine ⟨⟨h.1, h.2.1, fun q hq => ?_⟩, hl⟩
  obtain ⟨j, u, h1, h2⟩ := ak_fl_of hq
  rw [Nat.zero_add] at h1
  rw [h1]
  exact h.2.2 _ (hm j u h2)
theorem ak_kill_len (L : ak_L) (k : Nat) : (ak_kill L k).length = L.length := by
  cases k with
  | zero => rfl
  | succ k =>
    unfold ak_kill
    dsimp only
    split
    · split <;> simp
    · rfl
theorem ak_kill_at {L : ak_L} {k i : Nat} {u : Value} : (ak_kill L k)[i]? = some (some u) ↔ L[i]? = some (some u) ∧ ¬ (i + 1 = k ∧ u.category = 2) := by
  cases k with
  | zero => exact ⟨fun h => ⟨h, fun z => by omega⟩, fun h => h.1⟩
  | succ k =>
    unfold ak_kill
    dsimp only
    split
    · rename_i w hw
      split
      · rename_i hc
        by_cases hi : i = k
        · subst hi
          rw [List.getElem?_set_self (List.getElem?_eq_some_iff.mp hw).1]
          refine ⟨fun h => (by cases h), fun h => ?_⟩
          rw [hw] at h
          obtain ⟨h1, h2⟩ := h
          cases h1
          exact absurd ⟨rfl, hc⟩ h2
        · rw [List.getElem?_set_ne (Ne.symm hi)]
          exact ⟨fun h => ⟨h, fun z => hi (by omega)⟩, fun h => h.1⟩
      · rename_i hc
        refine ⟨fun h => ⟨h, fun z => ?_⟩, fun h => h.1⟩
        have hi : i = k := by omega
        subst hi
        rw [hw] at h
        cases h
        exact hc z.2
    · rename_i hw
      refine ⟨fun h => ⟨h, fun z => ?_⟩, fun h => h.1⟩
      have hi : i = k := by omega
      subst hi
      exact hw u h
theorem ak_kill_in {E : ak_E} (hz : E.2.2.2.2.category = 1) {L : ak_L} {k j : Nat} {u : Value} (h : (ak_kill L k)[j]? = some (some u)) : (j, ak_cv E u) ∈ ak_fl E 0 L ∧ ¬ (j + 1 = k ∧ (ak_cv E u).category = 2) := by
  obtain ⟨h1, h2⟩ := ak_kill_at.mp h
  refine ⟨by have := ak_fl_in (E := E) (i := 0) h1; rwa [Nat.zero_add] at this, ?_⟩
  rw [ak_cat hz]
  exact h2
theorem ak_st1_ok {E : ak_E} (hz : E.2.2.2.2.category = 1) {L L' : ak_L} {k : Nat} {v : Value} (h : ak_st1 L k v = some L') : k < L.length ∧ L'.length = L.length ∧ ∀ j u, L'[j]? = some (some u) → (j, ak_cv E u) ∈ (k, ak_cv E v) :: (ak_fl E 0 L).filter (fun q => !(q.1 == k) && !(q.1 + 1 == k && q.2.category == 2)) := by
  unfold ak_st1 at h
  split at h
  · rename_i hc
    cases h
    refine ⟨hc, by simp [ak_kill_len], fun j u hj => ?_⟩
    by_cases hjk : j = k
    · subst hjk
      rw [List.getElem?_set_self (by rw [ak_kill_len]; exact hc)] at hj
      cases hj
      exact List.mem_cons_self
    · rw [List.getElem?_set_ne (Ne.symm hjk)] at hj
      obtain ⟨h1, h2⟩ := ak_kill_in hz hj
      refine List.mem_cons_of_mem _ (List.mem_filter.mpr ⟨h1, ?_⟩)
      simp only [Bool.and_eq_true, Bool.not_eq_true', beq_eq_false_iff_ne, ne_eq, Bool.and_eq_false_iff]
      refine ⟨hjk, ?_⟩
      by_cases h3 : j + 1 = k
      · exact Or.inr (fun h4 => h2 ⟨h3, h4⟩)
      · exact Or.inl h3
  · cases h
theorem ak_st2_ok {E : ak_E} (hz : E.2.2.2.2.category = 1) {L L' : ak_L} {k : Nat} {v : Value} (h : ak_st2 L k v = some L') : k + 1 < L.length ∧ L'.length = L.length ∧ ∀ j u, L'[j]? = some (some u) → (j, ak_cv E u) ∈ (k, ak_cv E v) :: (ak_fl E 0 L).filter (fun q => !(q.1 == k) && (!(q.1 == k + 1) && !(q.1 + 1 == k && q.2.category == 2))) := by
  unfold ak_st2 at h
  split at h
  · rename_i hc
    cases h
    refine ⟨hc, by simp [ak_kill_len], fun j u hj => ?_⟩
    by_cases hj2 : j = k + 1
    · subst hj2
      rw [List.getElem?_set_self (by simp [ak_kill_len]; exact hc)] at hj
      cases hj
    rw [List.getElem?_set_ne (Ne.symm hj2)] at hj
    by_cases hjk : j = k
    · subst hjk
      rw [List.getElem?_set_self (by rw [ak_kill_len]; omega)] at hj
      cases hj
      exact List.mem_cons_self
    · rw [List.getElem?_set_ne (Ne.symm hjk)] at hj
      obtain ⟨h1, h2⟩ := ak_kill_in hz hj
      refine List.mem_cons_of_mem _ (List.mem_filter.mpr ⟨h1, ?_⟩)
      simp only [Bool.and_eq_true, Bool.not_eq_true', beq_eq_false_iff_ne, ne_eq, Bool.and_eq_false_iff]
      refine ⟨hjk, hj2, ?_⟩
      by_cases h3 : j + 1 = k
      · exact Or.inr (fun h4 => h2 ⟨h3, h4⟩)
      · exact Or.inl h3
  · cases h
end
section
/-! what the tables say of each entry, and what stands fast beside our cells -/
def ak_Ts : List Cond := lw_tbl.filter goodWord
theorem ak_w {w : Cond} (i : Nat) (h : lw_tbl[i]? = some w) (g : goodWord w = true) : w ∈ ak_Ts := List.mem_filter.mpr ⟨List.mem_of_getElem? h, g⟩
theorem ak_Ts_in {args : Array Value} {s : State} (h : ∀ w ∈ lw_tbl, w.before args s = true) : ∀ w ∈ ak_Ts, w.before args s = true := fun w hw => h w (List.mem_filter.mp hw).1
theorem ak_Ts_good {ws : List Cond} (h : ∀ w ∈ ws, w ∈ ak_Ts) : GoodIn ak_Ts ws := fun w hw => ⟨h w hw, good_of_word (List.mem_filter.mp (h w hw)).2⟩
def ak_sx : List (Nat × String) := [(139, "joys"), (145, "earns"), (147, "may"), (149, "or"), (151, "and"), (153, "not"), (155, "week"), (157, "wished"), (159, "number"), (161, "length"), (163, "points"), (165, "away")]
def ak_nw : List Cond := [.methodLinkNest RX8 67 yX11_isWeek RX11, .methodLinkNest RX5 82 yX11_isWeek RX11, .castable RX2 RX4, .castable RX1 RX9, .castable RX4 RX3, .castable RX9 RX3, .castable RX2 RX3, .castable RX1 RX3, .castable RX0 RX3]
def ak_idx : Instr → Option Nat
  | .ldc i => some i
  | .ldc_w i => some i
  | .ldc2_w i => some i
  | .getfield i => some i
  | .putfield i => some i
  | .getstatic i => some i
  | .new i => some i
  | .anewarray i => some i
  | .instanceof i => some i
  | .invokevirtual i => some i
  | .invokespecial i => some i
  | .invokestatic i => some i
  | _ => none
def ak_par (y : MethodName) : Option Nat := (parseMethodDescriptor y.desc).map (fun d => d.parameters.length)
def ak_nmh (C : String) : Prop := C ≠ "java/lang/invoke/MethodHandle" ∧ C ≠ "java/lang/invoke/VarHandle"
/-- a method that may be called: its words -/
def ak_mok (q : ak_Q) : Prop := Cond.code q.1 q.2.1 q.2.2.1 q.2.2.2.1 ∈ ak_Ts ∧ Cond.initialized q.1.cls ∈ ak_Ts ∧ ak_nmh q.1.cls ∧ plainName q.1.cls = true ∧ q.2.2.1 ≤ 20
def ak_stn : List (String × String × String) := [("NotBothInAugust$Shop", "FROM", "[I"), ("NotBothInAugust$Shop", "TO", "[I"), ("java/lang/String", "COMPACT_STRINGS", "Z"), ("jdk/internal/util/Preconditions", "SIOOBE_FORMATTER", "Ljava/util/function/BiFunction;")]
/-- an entry of a class's pool: what the tables say of it -/
def ak_okr (own : String) (idx : Nat) (x : ak_X) : Prop := match x with
  | (1, ci, k, fin) => ∃ q : vw_C, vwCl[ci]? = some q ∧ k < q.2.2 ∧ Cond.fieldLink own idx (q.2.1 k).1 (q.2.1 k).2.1 (q.2.1 k).2.2.1 ∈ ak_Ts ∧ (q.2.1 k).2.2.2 = !decide (fin = 0)
  | (2, f, _, _) => Cond.fieldLink own idx "java/lang/String" (if f = 0 then "value" else "coder") (if f = 0 then "[B" else "B") ∈ ak_Ts
  | (3, a, _, _) => ∃ q, ak_stn[a]? = some q ∧ Cond.fieldLink own idx q.1 q.2.1 q.2.2 ∈ ak_Ts
  | (4, _, _, v) => Cond.constant own idx (Int32.ofInt v) ∈ ak_Ts
  | (5, k, _, _) => own = RX10 ∧ ∃ tx, ak_sx[k]? = some (idx, tx)
  | (6, _, _, v) => Cond.constantLong own idx (Int64.ofInt v) ∈ ak_Ts
  | (7, ci, _, _) => ∃ q : vw_C, vwCl[ci]? = some q ∧ Cond.classLink own idx q.1 ∈ ak_Ts
  | (8, mi, n, ci) => ∃ (m : ak_Q) (q : vw_C), ak_M[mi]? = some m ∧ ak_mok m ∧ vwCl[ci.toNat]? = some q ∧ m.1.cls = q.1 ∧ ak_par m.1 = some n ∧ Cond.methodLink own idx m.1 ∈ ak_Ts ∧ Cond.instanceMethod m.1 ∈ ak_Ts ∧ Cond.selects q.1 m.1 m.1 ∈ ak_Ts
  | (9, mi, n, _) => ∃ (m : ak_Q), ak_M[mi]? = some m ∧ ak_mok m ∧ m.1.cls = "java/lang/String" ∧ ak_par m.1 = some n ∧ Cond.methodLink own idx m.1 ∈ ak_Ts ∧ Cond.instanceMethod m.1 ∈ ak_Ts ∧ Cond.selects "java/lang/String" m.1 m.1 ∈ ak_Ts
  | (10, f, n, _) => ∃ (z : ak_Q), ak_mok z ∧ z.1.cls = RX3 ∧ Cond.methodLink own idx z.1 ∈ ak_Ts ∧ Cond.sameMethod RX3 RX3 z.1.name z.1.desc ∈ ak_Ts ∧ Cond.instanceMethod z.1 ∈ ak_Ts ∧ ak_par z.1 = some n ∧
      ∀ c mi, ak_fam f c = some mi → ∃ (m : ak_Q) (q : vw_C), ak_M[mi]? = some m ∧ ak_mok m ∧ vwCl[c]? = some q ∧ Cond.selects q.1 z.1 m.1 ∈ ak_Ts ∧ Cond.instanceMethod m.1 ∈ ak_Ts
  | (11, mi, n, _) => ∃ (m : ak_Q), ak_M[mi]? = some m ∧ ak_mok m ∧ ak_par m.1 = some n ∧ Cond.methodLink own idx m.1 ∈ ak_Ts ∧ Cond.static m.1 ∈ ak_Ts
  | (12, mi, n, _) => ∃ (m : ak_Q), ak_M[mi]? = some m ∧ ak_mok m ∧ ak_par m.1 = some n ∧ Cond.methodLinkNest own idx m.1 RX11 ∈ ak_nw ∧ Cond.static m.1 ∈ ak_Ts
  | (13, mi, n, _) => ∃ (m : ak_Q), ak_M[mi]? = some m ∧ ak_mok m ∧ ak_par m.1 = some n ∧ Cond.methodLink own idx ⟨own, m.1.name, m.1.desc⟩ ∈ ak_Ts ∧ Cond.sameMethod own m.1.cls m.1.name m.1.desc ∈ ak_Ts ∧ Cond.static m.1 ∈ ak_Ts
  | (14, mi, n, ci) => ∃ (m : ak_Q) (q : vw_C), ak_M[mi]? = some m ∧ ak_mok m ∧ vwCl[ci.toNat]? = some q ∧ m.1.cls = q.1 ∧ m.1.name = "<init>" ∧ m.2.2.2.1 = none ∧ ak_par m.1 = some n ∧ Cond.methodLink own idx m.1 ∈ ak_Ts ∧ Cond.instanceMethod m.1 ∈ ak_Ts
  | (15, mi, n, _) => ∃ (m : ak_Q), ak_M[mi]? = some m ∧ ak_mok m ∧ ak_par m.1 = some n ∧ m.1.name ≠ "<init>" ∧ Cond.methodLink own idx m.1 ∈ ak_Ts ∧ Cond.sameMethod m.1.cls m.1.cls m.1.name m.1.desc ∈ ak_Ts ∧ Cond.superclass own m.1.cls ∈ ak_Ts ∧ Cond.instanceMethod m.1 ∈ ak_Ts
  | (18, mi, n, _) => ∃ (m : ak_Q), ak_M[mi]? = some m ∧ ak_mok m ∧ ak_par m.1 = some n ∧ m.1.name ≠ "<init>" ∧ own = RX2 ∧ m.1.cls = RX3 ∧ Cond.methodLink own idx ⟨RX4, m.1.name, m.1.desc⟩ ∈ ak_Ts ∧ Cond.sameMethod RX4 m.1.cls m.1.name m.1.desc ∈ ak_Ts ∧ Cond.superclass own RX4 ∈ ak_Ts ∧ Cond.superclass RX4 m.1.cls ∈ ak_Ts ∧ Cond.instanceMethod m.1 ∈ ak_Ts
  | (16, _, _, _) => Cond.methodLink own idx objectInit ∈ ak_Ts
  | (17, _, _, _) => Cond.methodLink own idx arraycopyName ∈ ak_Ts
  | (19, _, _, _) => Cond.methodLink own idx Lib.Math.min.name ∈ ak_Ts
  | (20, _, _, _) => Cond.methodLink own idx Lib.Math.max.name ∈ ak_Ts
  | _ => True
/-- what stands fast: static arrays, the texts' constants, statics, words of the tables that aren't of the common sort -/
def ak_G (E : ak_E) (Z : ak_Z) (U : State) (H : Heap) : Prop :=
  (∀ r b n f, ak_sa Z r = some (b, n, f) → va_T (if b = true then .byte else .int) (E.2.2.2.1 r) n (fun j => .int (f j)) (fun a => E.2.2.1 ≤ a) U H) ∧
  (∀ k, k < 12 → va_O "java/lang/String" (E.2.2.2.1 (1000000 + k)) (fun a => E.2.2.1 ≤ a) U H ∧ va_OF "java/lang/String" "coder" "B" (.int 0) (E.2.2.2.1 (1000000 + k)) (fun a => E.2.2.1 ≤ a) U H ∧ va_OF "java/lang/String" "value" "[B" (.ref (E.2.2.2.1 (1000100 + k))) (E.2.2.2.1 (1000000 + k)) (fun a => E.2.2.1 ≤ a) U H) ∧
  (va_Z "NotBothInAugust$Shop" "FROM" "[I" (.ref (E.2.2.2.1 2000000)) (fun a => E.2.2.1 ≤ a) U H ∧ va_Z "NotBothInAugust$Shop" "TO" "[I" (.ref (E.2.2.2.1 2000001)) (fun a => E.2.2.1 ≤ a) U H ∧ va_Z "java/lang/String" "COMPACT_STRINGS" "Z" (.int 1) (fun a => E.2.2.1 ≤ a) U H ∧ va_Z "jdk/internal/util/Preconditions" "SIOOBE_FORMATTER" "Ljava/util/function/BiFunction;" E.2.2.2.2 (fun a => E.2.2.1 ≤ a) U H) ∧
  (∀ k idx tx, ak_sx[k]? = some (idx, tx) → vk_R RX10 idx tx (E.2.2.2.1 (1000000 + k)) U) ∧
  (∀ w ∈ ak_nw, va_Nw w U) ∧
  (∀ c ∈ [RX0, RX1, RX2, RX3, RX4, RX9], ∀ t ∈ [RX0, RX1, RX2, RX4, RX9], c ≠ t → (c = RX2 ∧ t = RX4) ∨ (c = RX1 ∧ t = RX9) ∨ va_Nc c t U) ∧
  (∀ C ∈ [RX10, RX3, RX7], va_AO C U) ∧
  E.2.2.2.2.category = 1
theorem ak_nw_warm {s U : State} (hW : s.WarmedH U.vm) {w : Cond} (hw : w ∈ ak_nw) (h : va_Nw w s) : va_Nw w U := by
  simp only [ak_nw, List.mem_cons, List.not_mem_nil, or_false] at hw
  rcases hw with rfl | rfl | rfl | rfl | rfl | rfl | rfl | rfl | rfl
  · exact va_Nw.warmM hW h
  · exact va_Nw.warmM hW h
  all_goals exact va_Nw.warmC hW h
theorem ak_nw_same {s U : State} (hv : s.vm = U.vm) {w : Cond} (hw : w ∈ ak_nw) (h : va_Nw w s) : va_Nw w U := by
  simp only [ak_nw, List.mem_cons, List.not_mem_nil, or_false] at hw
  rcases hw with rfl | rfl | rfl | rfl | rfl | rfl | rfl | rfl | rfl
  all_goals exact va_Nw.same rfl hv h
/-- from a frame's start to a call's start -/
theorem ak_G.warm {E : ak_E} {Z : ak_Z} {s U : State} {H0 H : Heap} (h : ak_G E Z s H0) (hW : s.WarmedH U.vm) (hq : ∀ a : Nat, a < H0.size → ¬ E.2.2.1 ≤ a → H[a]? = H0[a]?) : ak_G E Z U H := by
  obtain ⟨h1, h2, ⟨h3, h4, h5, h6⟩, h7, h8, h9, h10, h11⟩ := h
  refine ⟨fun r b n f hs => ((h1 r b n f hs).kept hq).moved hW.alike, fun k hk => ?_, ⟨(h3.kept hq).moved hW.alike, (h4.kept hq).moved hW.alike, (h5.kept hq).moved hW.alike, (h6.kept hq).moved hW.alike⟩, fun k idx tx hk => (h7 k idx tx hk).warm hW, fun w hw => ak_nw_warm hW hw (h8 w hw), fun c hc t ht hct => ?_, fun C hC => (h10 C hC).moved hW.alike, h11⟩
  · obtain ⟨g1, g2, g3⟩ := h2 k hk
    exact ⟨(g1.kept hq).moved hW.alike, (g2.kept hq).moved hW.alike, (g3.kept hq).moved hW.alike⟩
  · rcases h9 c hc t ht hct with g | g | g
    · exact Or.inl g
    · exact Or.inr (Or.inl g)
    · exact Or.inr (Or.inr (g.moved hW.alike))
theorem ak_G.same {E : ak_E} {Z : ak_Z} {s U : State} {H : Heap} (h : ak_G E Z s H) (hv : U.vm = s.vm) : ak_G E Z U H := by
  have ha : s.vm.Alike U.vm := by rw [hv]; exact Vm.Alike.refl s.vm
  obtain ⟨h1, h2, ⟨h3, h4, h5, h6⟩, h7, h8, h9, h10, h11⟩ := h
  refine ⟨fun r b n f hs => (h1 r b n f hs).moved ha, fun k hk => ?_, ⟨h3.moved ha, h4.moved ha, h5.moved ha, h6.moved ha⟩, fun k idx tx hk => (h7 k idx tx hk).same hv, fun w hw => ak_nw_same hv.symm hw (h8 w hw), fun c hc t ht hct => ?_, fun C hC => (h10 C hC).moved ha, h11⟩
  · obtain ⟨g1, g2, g3⟩ := h2 k hk
    exact ⟨g1.moved ha, g2.moved ha, g3.moved ha⟩
  · rcases h9 c hc t ht hct with g | g | g
    · exact Or.inl g
    · exact Or.inr (Or.inl g)
    · exact Or.inr (Or.inr (g.moved ha))
end
section
/-! each entry of a pool, and each method, by the words of the tables -/
theorem ak_wc_1 {w : Cond} (i : Nat) (h : tables_1_1[i]? = some w) (g : goodWord w = true) : w ∈ ak_Ts := List.mem_filter.mpr ⟨by
  have h := List.mem_of_getElem? h
  unfold lw_tbl tables_1
  exact List.mem_append_right _ (List.mem_append_left _ h), g⟩
theorem ak_wc_2 {w : Cond} (i : Nat) (h : tables_1_2[i]? = some w) (g : goodWord w = true) : w ∈ ak_Ts := List.mem_filter.mpr ⟨by
  have h := List.mem_of_getElem? h
  unfold lw_tbl tables_1
  exact List.mem_append_right _ (List.mem_append_right _ (List.mem_append_left _ h)), g⟩
theorem ak_wc_3 {w : Cond} (i : Nat) (h : tables_1_3[i]? = some w) (g : goodWord w = true) : w ∈ ak_Ts := List.mem_filter.mpr ⟨by
  have h := List.mem_of_getElem? h
  unfold lw_tbl tables_1
  exact List.mem_append_right _ (List.mem_append_right _ (List.mem_append_right _ (List.mem_append_left _ h))), g⟩
theorem ak_wc_4 {w : Cond} (i : Nat) (h : tables_1_4[i]? = some w) (g : goodWord w = true) : w ∈ ak_Ts := List.mem_filter.mpr ⟨by
  have h := List.mem_of_getElem? h
  unfold lw_tbl tables_1
  exact List.mem_append_right _ (List.mem_append_right _ (List.mem_append_right _ (List.mem_append_right _ (List.mem_append_left _ h)))), g⟩
theorem ak_wc_5 {w : Cond} (i : Nat) (h : tables_1_5[i]? = some w) (g : goodWord w = true) : w ∈ ak_Ts := List.mem_filter.mpr ⟨by
  have h := List.mem_of_getElem? h
  unfold lw_tbl tables_1
  exact List.mem_append_right _ (List.mem_append_right _ (List.mem_append_right _ (List.mem_append_right _ (List.mem_append_right _ (List.mem_append_left _ h))))), g⟩
theorem ak_wc_6 {w : Cond} (i : Nat) (h : tables_1_6[i]? = some w) (g : goodWord w = true) : w ∈ ak_Ts := List.mem_filter.mpr ⟨by
  have h := List.mem_of_getElem? h
  unfold lw_tbl tables_1
  exact List.mem_append_right _ (List.mem_append_right _ (List.mem_append_right _ (List.mem_append_right _ (List.mem_append_right _ (List.mem_append_right _ (List.mem_append_left _ h)))))), g⟩
theorem ak_wc_7 {w : Cond} (i : Nat) (h : tables_1_7[i]? = some w) (g : goodWord w = true) : w ∈ ak_Ts := List.mem_filter.mpr ⟨by
  have h := List.mem_of_getElem? h
  unfold lw_tbl tables_1
  exact List.mem_append_right _ (List.mem_append_right _ (List.mem_append_right _ (List.mem_append_right _ (List.mem_append_right _ (List.mem_append_right _ (List.mem_append_right _ (h))))))), g⟩
theorem ak_minw : Cond.static Lib.Math.min.name ∈ ak_Ts ∧ Cond.initialized "java/lang/Math" ∈ ak_Ts ∧ Cond.code Lib.Math.min.name Lib.Math.min.code 2 (some .int) ∈ ak_Ts := ⟨ak_wc_2 156 (by decide +kernel) (by decide +kernel), ak_wc_1 14 (by decide +kernel) (by decide +kernel), ak_wc_2 157 (by decide +kernel) (by decide +kernel)⟩
theorem ak_maxw : Cond.static Lib.Math.max.name ∈ ak_Ts ∧ Cond.initialized "java/lang/Math" ∈ ak_Ts ∧ Cond.code Lib.Math.max.name Lib.Math.max.code 2 (some .int) ∈ ak_Ts := ⟨ak_wc_2 210 (by decide +kernel) (by decide +kernel), ak_wc_1 14 (by decide +kernel) (by decide +kernel), ak_wc_2 211 (by decide +kernel) (by decide +kernel)⟩
theorem ak_objw : Cond.instanceMethod objectInit ∈ ak_Ts ∧ Cond.code objectInit ⟨#[0xb1]⟩ 1 none ∈ ak_Ts := ⟨ak_wc_1 27 (by decide +kernel) (by decide +kernel), ak_wc_1 28 (by decide +kernel) (by decide +kernel)⟩
theorem ak_cpyw : Cond.native arraycopyName ∈ ak_Ts ∧ Cond.static arraycopyName ∈ ak_Ts ∧ Cond.initialized "java/lang/System" ∈ ak_Ts := ⟨ak_wc_4 234 (by decide +kernel) (by decide +kernel), ak_wc_4 233 (by decide +kernel) (by decide +kernel), ak_wc_1 20 (by decide +kernel) (by decide +kernel)⟩
theorem ak_arrw : Cond.arrayClass .int ∈ ak_Ts ∧ Cond.arrayClass .boolean ∈ ak_Ts := ⟨ak_wc_1 90 (by decide +kernel) (by decide +kernel), ak_wc_2 12 (by decide +kernel) (by decide +kernel)⟩
theorem mk_0 : ak_mok q_0 := ⟨ak_wc_1 25 (by decide +kernel) (by decide +kernel), ak_wc_1 1 (by decide +kernel) (by decide +kernel), ⟨by decide, by decide⟩, by decide +kernel, by decide⟩
theorem mk_1 : ak_mok q_1 := ⟨ak_wc_1 33 (by decide +kernel) (by decide +kernel), ak_wc_1 2 (by decide +kernel) (by decide +kernel), ⟨by decide, by decide⟩, by decide +kernel, by decide⟩
theorem mk_2 : ak_mok q_2 := ⟨ak_wc_1 95 (by decide +kernel) (by decide +kernel), ak_wc_1 3 (by decide +kernel) (by decide +kernel), ⟨by decide, by decide⟩, by decide +kernel, by decide⟩
theorem mk_3 : ak_mok q_3 := ⟨ak_wc_1 104 (by decide +kernel) (by decide +kernel), ak_wc_1 4 (by decide +kernel) (by decide +kernel), ⟨by decide, by decide⟩, by decide +kernel, by decide⟩
theorem mk_4 : ak_mok q_4 := ⟨ak_wc_1 111 (by decide +kernel) (by decide +kernel), ak_wc_1 5 (by decide +kernel) (by decide +kernel), ⟨by decide, by decide⟩, by decide +kernel, by decide⟩
theorem mk_5 : ak_mok q_5 := ⟨ak_wc_1 118 (by decide +kernel) (by decide +kernel), ak_wc_1 6 (by decide +kernel) (by decide +kernel), ⟨by decide, by decide⟩, by decide +kernel, by decide⟩
theorem mk_6 : ak_mok q_6 := ⟨ak_wc_1 125 (by decide +kernel) (by decide +kernel), ak_wc_1 7 (by decide +kernel) (by decide +kernel), ⟨by decide, by decide⟩, by decide +kernel, by decide⟩
theorem mk_7 : ak_mok q_7 := ⟨ak_wc_1 132 (by decide +kernel) (by decide +kernel), ak_wc_1 8 (by decide +kernel) (by decide +kernel), ⟨by decide, by decide⟩, by decide +kernel, by decide⟩
theorem mk_8 : ak_mok q_8 := ⟨ak_wc_1 139 (by decide +kernel) (by decide +kernel), ak_wc_1 9 (by decide +kernel) (by decide +kernel), ⟨by decide, by decide⟩, by decide +kernel, by decide⟩
theorem mk_9 : ak_mok q_9 := ⟨ak_wc_1 145 (by decide +kernel) (by decide +kernel), ak_wc_1 10 (by decide +kernel) (by decide +kernel), ⟨by decide, by decide⟩, by decide +kernel, by decide⟩
theorem mk_10 : ak_mok q_10 := ⟨ak_wc_1 187 (by decide +kernel) (by decide +kernel), ak_wc_1 10 (by decide +kernel) (by decide +kernel), ⟨by decide, by decide⟩, by decide +kernel, by decide⟩
theorem mk_11 : ak_mok q_11 := ⟨ak_wc_1 191 (by decide +kernel) (by decide +kernel), ak_wc_1 10 (by decide +kernel) (by decide +kernel), ⟨by decide, by decide⟩, by decide +kernel, by decide⟩
theorem mk_12 : ak_mok q_12 := ⟨ak_wc_1 213 (by decide +kernel) (by decide +kernel), ak_wc_1 11 (by decide +kernel) (by decide +kernel), ⟨by decide, by decide⟩, by decide +kernel, by decide⟩
theorem mk_13 : ak_mok q_13 := ⟨ak_wc_2 18 (by decide +kernel) (by decide +kernel), ak_wc_1 12 (by decide +kernel) (by decide +kernel), ⟨by decide, by decide⟩, by decide +kernel, by decide⟩
theorem mk_14 : ak_mok q_14 := ⟨ak_wc_2 64 (by decide +kernel) (by decide +kernel), ak_wc_1 1 (by decide +kernel) (by decide +kernel), ⟨by decide, by decide⟩, by decide +kernel, by decide⟩
theorem mk_15 : ak_mok q_15 := ⟨ak_wc_2 68 (by decide +kernel) (by decide +kernel), ak_wc_1 2 (by decide +kernel) (by decide +kernel), ⟨by decide, by decide⟩, by decide +kernel, by decide⟩
theorem mk_16 : ak_mok q_16 := ⟨ak_wc_2 72 (by decide +kernel) (by decide +kernel), ak_wc_1 2 (by decide +kernel) (by decide +kernel), ⟨by decide, by decide⟩, by decide +kernel, by decide⟩
theorem mk_17 : ak_mok q_17 := ⟨ak_wc_2 76 (by decide +kernel) (by decide +kernel), ak_wc_1 2 (by decide +kernel) (by decide +kernel), ⟨by decide, by decide⟩, by decide +kernel, by decide⟩
theorem mk_18 : ak_mok q_18 := ⟨ak_wc_2 84 (by decide +kernel) (by decide +kernel), ak_wc_1 2 (by decide +kernel) (by decide +kernel), ⟨by decide, by decide⟩, by decide +kernel, by decide⟩
theorem mk_19 : ak_mok q_19 := ⟨ak_wc_2 88 (by decide +kernel) (by decide +kernel), ak_wc_1 2 (by decide +kernel) (by decide +kernel), ⟨by decide, by decide⟩, by decide +kernel, by decide⟩
theorem mk_20 : ak_mok q_20 := ⟨ak_wc_2 92 (by decide +kernel) (by decide +kernel), ak_wc_1 2 (by decide +kernel) (by decide +kernel), ⟨by decide, by decide⟩, by decide +kernel, by decide⟩
theorem mk_21 : ak_mok q_21 := ⟨ak_wc_2 96 (by decide +kernel) (by decide +kernel), ak_wc_1 1 (by decide +kernel) (by decide +kernel), ⟨by decide, by decide⟩, by decide +kernel, by decide⟩
theorem mk_22 : ak_mok q_22 := ⟨ak_wc_2 100 (by decide +kernel) (by decide +kernel), ak_wc_1 2 (by decide +kernel) (by decide +kernel), ⟨by decide, by decide⟩, by decide +kernel, by decide⟩
theorem mk_23 : ak_mok q_23 := ⟨ak_wc_2 104 (by decide +kernel) (by decide +kernel), ak_wc_1 2 (by decide +kernel) (by decide +kernel), ⟨by decide, by decide⟩, by decide +kernel, by decide⟩
theorem mk_24 : ak_mok q_24 := ⟨ak_wc_2 108 (by decide +kernel) (by decide +kernel), ak_wc_1 1 (by decide +kernel) (by decide +kernel), ⟨by decide, by decide⟩, by decide +kernel, by decide⟩
theorem mk_25 : ak_mok q_25 := ⟨ak_wc_2 114 (by decide +kernel) (by decide +kernel), ak_wc_1 1 (by decide +kernel) (by decide +kernel), ⟨by decide, by decide⟩, by decide +kernel, by decide⟩
theorem mk_26 : ak_mok q_26 := ⟨ak_wc_2 117 (by decide +kernel) (by decide +kernel), ak_wc_1 1 (by decide +kernel) (by decide +kernel), ⟨by decide, by decide⟩, by decide +kernel, by decide⟩
theorem mk_27 : ak_mok q_27 := ⟨ak_wc_2 121 (by decide +kernel) (by decide +kernel), ak_wc_1 3 (by decide +kernel) (by decide +kernel), ⟨by decide, by decide⟩, by decide +kernel, by decide⟩
theorem mk_28 : ak_mok q_28 := ⟨ak_wc_2 125 (by decide +kernel) (by decide +kernel), ak_wc_1 2 (by decide +kernel) (by decide +kernel), ⟨by decide, by decide⟩, by decide +kernel, by decide⟩
theorem mk_29 : ak_mok q_29 := ⟨ak_wc_2 130 (by decide +kernel) (by decide +kernel), ak_wc_1 3 (by decide +kernel) (by decide +kernel), ⟨by decide, by decide⟩, by decide +kernel, by decide⟩
theorem mk_30 : ak_mok q_30 := ⟨ak_wc_2 134 (by decide +kernel) (by decide +kernel), ak_wc_1 3 (by decide +kernel) (by decide +kernel), ⟨by decide, by decide⟩, by decide +kernel, by decide⟩
theorem mk_31 : ak_mok q_31 := ⟨ak_wc_2 138 (by decide +kernel) (by decide +kernel), ak_wc_1 3 (by decide +kernel) (by decide +kernel), ⟨by decide, by decide⟩, by decide +kernel, by decide⟩
theorem mk_32 : ak_mok q_32 := ⟨ak_wc_2 142 (by decide +kernel) (by decide +kernel), ak_wc_1 2 (by decide +kernel) (by decide +kernel), ⟨by decide, by decide⟩, by decide +kernel, by decide⟩
theorem mk_33 : ak_mok q_33 := ⟨ak_wc_2 146 (by decide +kernel) (by decide +kernel), ak_wc_1 2 (by decide +kernel) (by decide +kernel), ⟨by decide, by decide⟩, by decide +kernel, by decide⟩
theorem mk_34 : ak_mok q_34 := ⟨ak_wc_2 150 (by decide +kernel) (by decide +kernel), ak_wc_1 3 (by decide +kernel) (by decide +kernel), ⟨by decide, by decide⟩, by decide +kernel, by decide⟩
theorem mk_35 : ak_mok q_35 := ⟨ak_wc_2 154 (by decide +kernel) (by decide +kernel), ak_wc_1 10 (by decide +kernel) (by decide +kernel), ⟨by decide, by decide⟩, by decide +kernel, by decide⟩
theorem mk_36 : ak_mok q_36 := ⟨ak_wc_2 160 (by decide +kernel) (by decide +kernel), ak_wc_1 10 (by decide +kernel) (by decide +kernel), ⟨by decide, by decide⟩, by decide +kernel, by decide⟩
theorem mk_37 : ak_mok q_37 := ⟨ak_wc_2 163 (by decide +kernel) (by decide +kernel), ak_wc_1 10 (by decide +kernel) (by decide +kernel), ⟨by decide, by decide⟩, by decide +kernel, by decide⟩
theorem mk_38 : ak_mok q_38 := ⟨ak_wc_2 166 (by decide +kernel) (by decide +kernel), ak_wc_1 10 (by decide +kernel) (by decide +kernel), ⟨by decide, by decide⟩, by decide +kernel, by decide⟩
theorem mk_39 : ak_mok q_39 := ⟨ak_wc_2 170 (by decide +kernel) (by decide +kernel), ak_wc_1 3 (by decide +kernel) (by decide +kernel), ⟨by decide, by decide⟩, by decide +kernel, by decide⟩
theorem mk_40 : ak_mok q_40 := ⟨ak_wc_2 177 (by decide +kernel) (by decide +kernel), ak_wc_1 9 (by decide +kernel) (by decide +kernel), ⟨by decide, by decide⟩, by decide +kernel, by decide⟩
theorem mk_41 : ak_mok q_41 := ⟨ak_wc_2 180 (by decide +kernel) (by decide +kernel), ak_wc_1 8 (by decide +kernel) (by decide +kernel), ⟨by decide, by decide⟩, by decide +kernel, by decide⟩
theorem mk_42 : ak_mok q_42 := ⟨ak_wc_2 183 (by decide +kernel) (by decide +kernel), ak_wc_1 7 (by decide +kernel) (by decide +kernel), ⟨by decide, by decide⟩, by decide +kernel, by decide⟩
theorem mk_43 : ak_mok q_43 := ⟨ak_wc_2 190 (by decide +kernel) (by decide +kernel), ak_wc_1 6 (by decide +kernel) (by decide +kernel), ⟨by decide, by decide⟩, by decide +kernel, by decide⟩
theorem mk_44 : ak_mok q_44 := ⟨ak_wc_2 194 (by decide +kernel) (by decide +kernel), ak_wc_1 4 (by decide +kernel) (by decide +kernel), ⟨by decide, by decide⟩, by decide +kernel, by decide⟩
theorem mk_45 : ak_mok q_45 := ⟨ak_wc_2 195 (by decide +kernel) (by decide +kernel), ak_wc_1 4 (by decide +kernel) (by decide +kernel), ⟨by decide, by decide⟩, by decide +kernel, by decide⟩
theorem mk_46 : ak_mok q_46 := ⟨ak_wc_2 199 (by decide +kernel) (by decide +kernel), ak_wc_1 1 (by decide +kernel) (by decide +kernel), ⟨by decide, by decide⟩, by decide +kernel, by decide⟩
theorem mk_47 : ak_mok q_47 := ⟨ak_wc_2 203 (by decide +kernel) (by decide +kernel), ak_wc_1 3 (by decide +kernel) (by decide +kernel), ⟨by decide, by decide⟩, by decide +kernel, by decide⟩
theorem mk_48 : ak_mok q_48 := ⟨ak_wc_2 207 (by decide +kernel) (by decide +kernel), ak_wc_1 3 (by decide +kernel) (by decide +kernel), ⟨by decide, by decide⟩, by decide +kernel, by decide⟩
theorem mk_49 : ak_mok q_49 := ⟨ak_wc_2 218 (by decide +kernel) (by decide +kernel), ak_wc_1 9 (by decide +kernel) (by decide +kernel), ⟨by decide, by decide⟩, by decide +kernel, by decide⟩
theorem mk_50 : ak_mok q_50 := ⟨ak_wc_2 221 (by decide +kernel) (by decide +kernel), ak_wc_1 8 (by decide +kernel) (by decide +kernel), ⟨by decide, by decide⟩, by decide +kernel, by decide⟩
theorem mk_51 : ak_mok q_51 := ⟨ak_wc_2 224 (by decide +kernel) (by decide +kernel), ak_wc_1 6 (by decide +kernel) (by decide +kernel), ⟨by decide, by decide⟩, by decide +kernel, by decide⟩
theorem mk_52 : ak_mok q_52 := ⟨ak_wc_2 228 (by decide +kernel) (by decide +kernel), ak_wc_1 7 (by decide +kernel) (by decide +kernel), ⟨by decide, by decide⟩, by decide +kernel, by decide⟩
theorem mk_53 : ak_mok q_53 := ⟨ak_wc_2 231 (by decide +kernel) (by decide +kernel), ak_wc_1 5 (by decide +kernel) (by decide +kernel), ⟨by decide, by decide⟩, by decide +kernel, by decide⟩
theorem mk_54 : ak_mok q_54 := ⟨ak_wc_2 237 (by decide +kernel) (by decide +kernel), ak_wc_1 4 (by decide +kernel) (by decide +kernel), ⟨by decide, by decide⟩, by decide +kernel, by decide⟩
theorem mk_55 : ak_mok q_55 := ⟨ak_wc_3 1 (by decide +kernel) (by decide +kernel), ak_wc_1 3 (by decide +kernel) (by decide +kernel), ⟨by decide, by decide⟩, by decide +kernel, by decide⟩
theorem mk_56 : ak_mok q_56 := ⟨ak_wc_3 9 (by decide +kernel) (by decide +kernel), ak_wc_1 9 (by decide +kernel) (by decide +kernel), ⟨by decide, by decide⟩, by decide +kernel, by decide⟩
theorem mk_57 : ak_mok q_57 := ⟨ak_wc_3 13 (by decide +kernel) (by decide +kernel), ak_wc_1 8 (by decide +kernel) (by decide +kernel), ⟨by decide, by decide⟩, by decide +kernel, by decide⟩
theorem mk_58 : ak_mok q_58 := ⟨ak_wc_3 16 (by decide +kernel) (by decide +kernel), ak_wc_1 5 (by decide +kernel) (by decide +kernel), ⟨by decide, by decide⟩, by decide +kernel, by decide⟩
theorem mk_59 : ak_mok q_59 := ⟨ak_wc_3 20 (by decide +kernel) (by decide +kernel), ak_wc_1 6 (by decide +kernel) (by decide +kernel), ⟨by decide, by decide⟩, by decide +kernel, by decide⟩
theorem mk_60 : ak_mok q_60 := ⟨ak_wc_3 21 (by decide +kernel) (by decide +kernel), ak_wc_1 4 (by decide +kernel) (by decide +kernel), ⟨by decide, by decide⟩, by decide +kernel, by decide⟩
theorem mk_61 : ak_mok q_61 := ⟨ak_wc_3 25 (by decide +kernel) (by decide +kernel), ak_wc_1 1 (by decide +kernel) (by decide +kernel), ⟨by decide, by decide⟩, by decide +kernel, by decide⟩
theorem mk_62 : ak_mok q_62 := ⟨ak_wc_3 31 (by decide +kernel) (by decide +kernel), ak_wc_1 1 (by decide +kernel) (by decide +kernel), ⟨by decide, by decide⟩, by decide +kernel, by decide⟩
theorem mk_63 : ak_mok q_63 := ⟨ak_wc_3 35 (by decide +kernel) (by decide +kernel), ak_wc_1 1 (by decide +kernel) (by decide +kernel), ⟨by decide, by decide⟩, by decide +kernel, by decide⟩
theorem mk_64 : ak_mok q_64 := ⟨ak_wc_3 40 (by decide +kernel) (by decide +kernel), ak_wc_1 10 (by decide +kernel) (by decide +kernel), ⟨by decide, by decide⟩, by decide +kernel, by decide⟩
theorem mk_65 : ak_mok q_65 := ⟨ak_wc_3 45 (by decide +kernel) (by decide +kernel), ak_wc_1 10 (by decide +kernel) (by decide +kernel), ⟨by decide, by decide⟩, by decide +kernel, by decide⟩
theorem mk_66 : ak_mok q_66 := ⟨ak_wc_3 49 (by decide +kernel) (by decide +kernel), ak_wc_1 10 (by decide +kernel) (by decide +kernel), ⟨by decide, by decide⟩, by decide +kernel, by decide⟩
theorem mk_67 : ak_mok q_67 := ⟨ak_wc_3 53 (by decide +kernel) (by decide +kernel), ak_wc_1 10 (by decide +kernel) (by decide +kernel), ⟨by decide, by decide⟩, by decide +kernel, by decide⟩
theorem mk_68 : ak_mok q_68 := ⟨ak_wc_3 57 (by decide +kernel) (by decide +kernel), ak_wc_1 10 (by decide +kernel) (by decide +kernel), ⟨by decide, by decide⟩, by decide +kernel, by decide⟩
theorem mk_69 : ak_mok q_69 := ⟨ak_wc_3 61 (by decide +kernel) (by decide +kernel), ak_wc_1 10 (by decide +kernel) (by decide +kernel), ⟨by decide, by decide⟩, by decide +kernel, by decide⟩
theorem mk_70 : ak_mok q_70 := ⟨ak_wc_3 66 (by decide +kernel) (by decide +kernel), ak_wc_1 10 (by decide +kernel) (by decide +kernel), ⟨by decide, by decide⟩, by decide +kernel, by decide⟩
theorem mk_71 : ak_mok q_71 := ⟨ak_wc_3 70 (by decide +kernel) (by decide +kernel), ak_wc_1 15 (by decide +kernel) (by decide +kernel), ⟨by decide, by decide⟩, by decide +kernel, by decide⟩
theorem mk_72 : ak_mok q_72 := ⟨ak_wc_3 74 (by decide +kernel) (by decide +kernel), ak_wc_1 15 (by decide +kernel) (by decide +kernel), ⟨by decide, by decide⟩, by decide +kernel, by decide⟩
theorem mk_73 : ak_mok q_73 := ⟨ak_wc_3 80 (by decide +kernel) (by decide +kernel), ak_wc_1 15 (by decide +kernel) (by decide +kernel), ⟨by decide, by decide⟩, by decide +kernel, by decide⟩
theorem mk_74 : ak_mok q_74 := ⟨ak_wc_3 84 (by decide +kernel) (by decide +kernel), ak_wc_1 15 (by decide +kernel) (by decide +kernel), ⟨by decide, by decide⟩, by decide +kernel, by decide⟩
theorem mk_75 : ak_mok q_75 := ⟨ak_wc_3 87 (by decide +kernel) (by decide +kernel), ak_wc_1 16 (by decide +kernel) (by decide +kernel), ⟨by decide, by decide⟩, by decide +kernel, by decide⟩
theorem mk_76 : ak_mok q_76 := ⟨ak_wc_3 90 (by decide +kernel) (by decide +kernel), ak_wc_1 15 (by decide +kernel) (by decide +kernel), ⟨by decide, by decide⟩, by decide +kernel, by decide⟩
theorem mk_77 : ak_mok q_77 := ⟨ak_wc_3 95 (by decide +kernel) (by decide +kernel), ak_wc_1 17 (by decide +kernel) (by decide +kernel), ⟨by decide, by decide⟩, by decide +kernel, by decide⟩
theorem mk_78 : ak_mok q_78 := ⟨ak_wc_3 98 (by decide +kernel) (by decide +kernel), ak_wc_1 18 (by decide +kernel) (by decide +kernel), ⟨by decide, by decide⟩, by decide +kernel, by decide⟩
theorem mk_79 : ak_mok q_79 := ⟨ak_wc_3 101 (by decide +kernel) (by decide +kernel), ak_wc_1 18 (by decide +kernel) (by decide +kernel), ⟨by decide, by decide⟩, by decide +kernel, by decide⟩
theorem mk_80 : ak_mok q_80 := ⟨ak_wc_3 104 (by decide +kernel) (by decide +kernel), ak_wc_1 18 (by decide +kernel) (by decide +kernel), ⟨by decide, by decide⟩, by decide +kernel, by decide⟩
theorem mk_81 : ak_mok q_81 := ⟨ak_wc_3 108 (by decide +kernel) (by decide +kernel), ak_wc_1 18 (by decide +kernel) (by decide +kernel), ⟨by decide, by decide⟩, by decide +kernel, by decide⟩
theorem mk_82 : ak_mok q_82 := ⟨ak_wc_3 123 (by decide +kernel) (by decide +kernel), ak_wc_1 10 (by decide +kernel) (by decide +kernel), ⟨by decide, by decide⟩, by decide +kernel, by decide⟩
theorem mk_83 : ak_mok q_83 := ⟨ak_wc_3 133 (by decide +kernel) (by decide +kernel), ak_wc_1 10 (by decide +kernel) (by decide +kernel), ⟨by decide, by decide⟩, by decide +kernel, by decide⟩
theorem mk_84 : ak_mok q_84 := ⟨ak_wc_3 137 (by decide +kernel) (by decide +kernel), ak_wc_1 10 (by decide +kernel) (by decide +kernel), ⟨by decide, by decide⟩, by decide +kernel, by decide⟩
theorem mk_85 : ak_mok q_85 := ⟨ak_wc_3 141 (by decide +kernel) (by decide +kernel), ak_wc_1 10 (by decide +kernel) (by decide +kernel), ⟨by decide, by decide⟩, by decide +kernel, by decide⟩
theorem mk_86 : ak_mok q_86 := ⟨ak_wc_3 145 (by decide +kernel) (by decide +kernel), ak_wc_1 10 (by decide +kernel) (by decide +kernel), ⟨by decide, by decide⟩, by decide +kernel, by decide⟩
theorem mk_87 : ak_mok q_87 := ⟨ak_wc_3 149 (by decide +kernel) (by decide +kernel), ak_wc_1 10 (by decide +kernel) (by decide +kernel), ⟨by decide, by decide⟩, by decide +kernel, by decide⟩
theorem mk_88 : ak_mok q_88 := ⟨ak_wc_3 153 (by decide +kernel) (by decide +kernel), ak_wc_1 10 (by decide +kernel) (by decide +kernel), ⟨by decide, by decide⟩, by decide +kernel, by decide⟩
theorem mk_89 : ak_mok q_89 := ⟨ak_wc_3 157 (by decide +kernel) (by decide +kernel), ak_wc_1 10 (by decide +kernel) (by decide +kernel), ⟨by decide, by decide⟩, by decide +kernel, by decide⟩
theorem mk_90 : ak_mok q_90 := ⟨ak_wc_3 161 (by decide +kernel) (by decide +kernel), ak_wc_1 10 (by decide +kernel) (by decide +kernel), ⟨by decide, by decide⟩, by decide +kernel, by decide⟩
theorem mk_91 : ak_mok q_91 := ⟨ak_wc_3 165 (by decide +kernel) (by decide +kernel), ak_wc_1 10 (by decide +kernel) (by decide +kernel), ⟨by decide, by decide⟩, by decide +kernel, by decide⟩
theorem mk_92 : ak_mok q_92 := ⟨ak_wc_3 169 (by decide +kernel) (by decide +kernel), ak_wc_1 10 (by decide +kernel) (by decide +kernel), ⟨by decide, by decide⟩, by decide +kernel, by decide⟩
theorem mk_93 : ak_mok q_93 := ⟨ak_wc_3 173 (by decide +kernel) (by decide +kernel), ak_wc_1 10 (by decide +kernel) (by decide +kernel), ⟨by decide, by decide⟩, by decide +kernel, by decide⟩
theorem mk_94 : ak_mok q_94 := ⟨ak_wc_3 177 (by decide +kernel) (by decide +kernel), ak_wc_1 10 (by decide +kernel) (by decide +kernel), ⟨by decide, by decide⟩, by decide +kernel, by decide⟩
theorem mk_95 : ak_mok q_95 := ⟨ak_wc_3 182 (by decide +kernel) (by decide +kernel), ak_wc_1 10 (by decide +kernel) (by decide +kernel), ⟨by decide, by decide⟩, by decide +kernel, by decide⟩
theorem mk_96 : ak_mok q_96 := ⟨ak_wc_3 186 (by decide +kernel) (by decide +kernel), ak_wc_1 10 (by decide +kernel) (by decide +kernel), ⟨by decide, by decide⟩, by decide +kernel, by decide⟩
theorem mk_97 : ak_mok q_97 := ⟨ak_wc_3 192 (by decide +kernel) (by decide +kernel), ak_wc_1 1 (by decide +kernel) (by decide +kernel), ⟨by decide, by decide⟩, by decide +kernel, by decide⟩
theorem mk_98 : ak_mok q_98 := ⟨ak_wc_3 196 (by decide +kernel) (by decide +kernel), ak_wc_1 1 (by decide +kernel) (by decide +kernel), ⟨by decide, by decide⟩, by decide +kernel, by decide⟩
theorem mk_99 : ak_mok q_99 := ⟨ak_wc_3 201 (by decide +kernel) (by decide +kernel), ak_wc_1 11 (by decide +kernel) (by decide +kernel), ⟨by decide, by decide⟩, by decide +kernel, by decide⟩
theorem mk_100 : ak_mok q_100 := ⟨ak_wc_3 205 (by decide +kernel) (by decide +kernel), ak_wc_1 2 (by decide +kernel) (by decide +kernel), ⟨by decide, by decide⟩, by decide +kernel, by decide⟩
theorem mk_101 : ak_mok q_101 := ⟨ak_wc_3 208 (by decide +kernel) (by decide +kernel), ak_wc_1 19 (by decide +kernel) (by decide +kernel), ⟨by decide, by decide⟩, by decide +kernel, by decide⟩
theorem mk_102 : ak_mok q_102 := ⟨ak_wc_3 216 (by decide +kernel) (by decide +kernel), ak_wc_1 11 (by decide +kernel) (by decide +kernel), ⟨by decide, by decide⟩, by decide +kernel, by decide⟩
theorem mk_103 : ak_mok q_103 := ⟨ak_wc_3 223 (by decide +kernel) (by decide +kernel), ak_wc_1 11 (by decide +kernel) (by decide +kernel), ⟨by decide, by decide⟩, by decide +kernel, by decide⟩
theorem mk_104 : ak_mok q_104 := ⟨ak_wc_3 227 (by decide +kernel) (by decide +kernel), ak_wc_1 11 (by decide +kernel) (by decide +kernel), ⟨by decide, by decide⟩, by decide +kernel, by decide⟩
theorem mk_105 : ak_mok q_105 := ⟨ak_wc_3 232 (by decide +kernel) (by decide +kernel), ak_wc_1 11 (by decide +kernel) (by decide +kernel), ⟨by decide, by decide⟩, by decide +kernel, by decide⟩
theorem mk_106 : ak_mok q_106 := ⟨ak_wc_3 236 (by decide +kernel) (by decide +kernel), ak_wc_1 11 (by decide +kernel) (by decide +kernel), ⟨by decide, by decide⟩, by decide +kernel, by decide⟩
theorem mk_107 : ak_mok q_107 := ⟨ak_wc_4 0 (by decide +kernel) (by decide +kernel), ak_wc_1 11 (by decide +kernel) (by decide +kernel), ⟨by decide, by decide⟩, by decide +kernel, by decide⟩
theorem mk_108 : ak_mok q_108 := ⟨ak_wc_4 4 (by decide +kernel) (by decide +kernel), ak_wc_1 11 (by decide +kernel) (by decide +kernel), ⟨by decide, by decide⟩, by decide +kernel, by decide⟩
theorem mk_109 : ak_mok q_109 := ⟨ak_wc_4 9 (by decide +kernel) (by decide +kernel), ak_wc_1 11 (by decide +kernel) (by decide +kernel), ⟨by decide, by decide⟩, by decide +kernel, by decide⟩
theorem mk_110 : ak_mok q_110 := ⟨ak_wc_4 14 (by decide +kernel) (by decide +kernel), ak_wc_1 1 (by decide +kernel) (by decide +kernel), ⟨by decide, by decide⟩, by decide +kernel, by decide⟩
theorem mk_111 : ak_mok q_111 := ⟨ak_wc_4 19 (by decide +kernel) (by decide +kernel), ak_wc_1 2 (by decide +kernel) (by decide +kernel), ⟨by decide, by decide⟩, by decide +kernel, by decide⟩
theorem mk_112 : ak_mok q_112 := ⟨ak_wc_4 23 (by decide +kernel) (by decide +kernel), ak_wc_1 1 (by decide +kernel) (by decide +kernel), ⟨by decide, by decide⟩, by decide +kernel, by decide⟩
theorem mk_113 : ak_mok q_113 := ⟨ak_wc_4 27 (by decide +kernel) (by decide +kernel), ak_wc_1 11 (by decide +kernel) (by decide +kernel), ⟨by decide, by decide⟩, by decide +kernel, by decide⟩
theorem mk_114 : ak_mok q_114 := ⟨ak_wc_4 31 (by decide +kernel) (by decide +kernel), ak_wc_1 11 (by decide +kernel) (by decide +kernel), ⟨by decide, by decide⟩, by decide +kernel, by decide⟩
theorem mk_115 : ak_mok q_115 := ⟨ak_wc_4 35 (by decide +kernel) (by decide +kernel), ak_wc_1 11 (by decide +kernel) (by decide +kernel), ⟨by decide, by decide⟩, by decide +kernel, by decide⟩
theorem mk_116 : ak_mok q_116 := ⟨ak_wc_4 41 (by decide +kernel) (by decide +kernel), ak_wc_1 11 (by decide +kernel) (by decide +kernel), ⟨by decide, by decide⟩, by decide +kernel, by decide⟩
theorem mk_117 : ak_mok q_117 := ⟨ak_wc_4 45 (by decide +kernel) (by decide +kernel), ak_wc_1 11 (by decide +kernel) (by decide +kernel), ⟨by decide, by decide⟩, by decide +kernel, by decide⟩
theorem mk_118 : ak_mok q_118 := ⟨ak_wc_4 49 (by decide +kernel) (by decide +kernel), ak_wc_1 11 (by decide +kernel) (by decide +kernel), ⟨by decide, by decide⟩, by decide +kernel, by decide⟩
theorem mk_119 : ak_mok q_119 := ⟨ak_wc_4 53 (by decide +kernel) (by decide +kernel), ak_wc_1 11 (by decide +kernel) (by decide +kernel), ⟨by decide, by decide⟩, by decide +kernel, by decide⟩
theorem mk_120 : ak_mok q_120 := ⟨ak_wc_4 58 (by decide +kernel) (by decide +kernel), ak_wc_1 11 (by decide +kernel) (by decide +kernel), ⟨by decide, by decide⟩, by decide +kernel, by decide⟩
theorem mk_121 : ak_mok q_121 := ⟨ak_wc_4 62 (by decide +kernel) (by decide +kernel), ak_wc_1 11 (by decide +kernel) (by decide +kernel), ⟨by decide, by decide⟩, by decide +kernel, by decide⟩
theorem mk_122 : ak_mok q_122 := ⟨ak_wc_4 66 (by decide +kernel) (by decide +kernel), ak_wc_1 1 (by decide +kernel) (by decide +kernel), ⟨by decide, by decide⟩, by decide +kernel, by decide⟩
theorem mk_123 : ak_mok q_123 := ⟨ak_wc_4 70 (by decide +kernel) (by decide +kernel), ak_wc_1 11 (by decide +kernel) (by decide +kernel), ⟨by decide, by decide⟩, by decide +kernel, by decide⟩
theorem mk_124 : ak_mok q_124 := ⟨ak_wc_4 74 (by decide +kernel) (by decide +kernel), ak_wc_1 11 (by decide +kernel) (by decide +kernel), ⟨by decide, by decide⟩, by decide +kernel, by decide⟩
theorem mk_125 : ak_mok q_125 := ⟨ak_wc_4 79 (by decide +kernel) (by decide +kernel), ak_wc_1 11 (by decide +kernel) (by decide +kernel), ⟨by decide, by decide⟩, by decide +kernel, by decide⟩
theorem mk_126 : ak_mok q_126 := ⟨ak_wc_4 83 (by decide +kernel) (by decide +kernel), ak_wc_1 11 (by decide +kernel) (by decide +kernel), ⟨by decide, by decide⟩, by decide +kernel, by decide⟩
theorem mk_127 : ak_mok q_127 := ⟨ak_wc_4 87 (by decide +kernel) (by decide +kernel), ak_wc_1 1 (by decide +kernel) (by decide +kernel), ⟨by decide, by decide⟩, by decide +kernel, by decide⟩
theorem mk_128 : ak_mok q_128 := ⟨ak_wc_4 91 (by decide +kernel) (by decide +kernel), ak_wc_1 11 (by decide +kernel) (by decide +kernel), ⟨by decide, by decide⟩, by decide +kernel, by decide⟩
theorem mk_129 : ak_mok q_129 := ⟨ak_wc_4 96 (by decide +kernel) (by decide +kernel), ak_wc_1 11 (by decide +kernel) (by decide +kernel), ⟨by decide, by decide⟩, by decide +kernel, by decide⟩
theorem mk_130 : ak_mok q_130 := ⟨ak_wc_4 101 (by decide +kernel) (by decide +kernel), ak_wc_1 1 (by decide +kernel) (by decide +kernel), ⟨by decide, by decide⟩, by decide +kernel, by decide⟩
theorem mk_131 : ak_mok q_131 := ⟨ak_wc_4 105 (by decide +kernel) (by decide +kernel), ak_wc_1 11 (by decide +kernel) (by decide +kernel), ⟨by decide, by decide⟩, by decide +kernel, by decide⟩
theorem mk_132 : ak_mok q_132 := ⟨ak_wc_4 109 (by decide +kernel) (by decide +kernel), ak_wc_1 11 (by decide +kernel) (by decide +kernel), ⟨by decide, by decide⟩, by decide +kernel, by decide⟩
theorem mk_133 : ak_mok q_133 := ⟨ak_wc_4 113 (by decide +kernel) (by decide +kernel), ak_wc_1 1 (by decide +kernel) (by decide +kernel), ⟨by decide, by decide⟩, by decide +kernel, by decide⟩
theorem mk_134 : ak_mok q_134 := ⟨ak_wc_4 117 (by decide +kernel) (by decide +kernel), ak_wc_1 11 (by decide +kernel) (by decide +kernel), ⟨by decide, by decide⟩, by decide +kernel, by decide⟩
theorem mk_135 : ak_mok q_135 := ⟨ak_wc_4 121 (by decide +kernel) (by decide +kernel), ak_wc_1 1 (by decide +kernel) (by decide +kernel), ⟨by decide, by decide⟩, by decide +kernel, by decide⟩
theorem mk_136 : ak_mok q_136 := ⟨ak_wc_4 124 (by decide +kernel) (by decide +kernel), ak_wc_1 1 (by decide +kernel) (by decide +kernel), ⟨by decide, by decide⟩, by decide +kernel, by decide⟩
theorem mk_137 : ak_mok q_137 := ⟨ak_wc_4 128 (by decide +kernel) (by decide +kernel), ak_wc_1 12 (by decide +kernel) (by decide +kernel), ⟨by decide, by decide⟩, by decide +kernel, by decide⟩
theorem mk_138 : ak_mok q_138 := ⟨ak_wc_4 132 (by decide +kernel) (by decide +kernel), ak_wc_1 2 (by decide +kernel) (by decide +kernel), ⟨by decide, by decide⟩, by decide +kernel, by decide⟩
theorem mk_139 : ak_mok q_139 := ⟨ak_wc_4 136 (by decide +kernel) (by decide +kernel), ak_wc_1 1 (by decide +kernel) (by decide +kernel), ⟨by decide, by decide⟩, by decide +kernel, by decide⟩
theorem mk_140 : ak_mok q_140 := ⟨ak_wc_4 140 (by decide +kernel) (by decide +kernel), ak_wc_1 1 (by decide +kernel) (by decide +kernel), ⟨by decide, by decide⟩, by decide +kernel, by decide⟩
theorem mk_141 : ak_mok q_141 := ⟨ak_wc_4 144 (by decide +kernel) (by decide +kernel), ak_wc_1 1 (by decide +kernel) (by decide +kernel), ⟨by decide, by decide⟩, by decide +kernel, by decide⟩
theorem mk_142 : ak_mok q_142 := ⟨ak_wc_4 148 (by decide +kernel) (by decide +kernel), ak_wc_1 1 (by decide +kernel) (by decide +kernel), ⟨by decide, by decide⟩, by decide +kernel, by decide⟩
theorem mk_143 : ak_mok q_143 := ⟨ak_wc_4 152 (by decide +kernel) (by decide +kernel), ak_wc_1 1 (by decide +kernel) (by decide +kernel), ⟨by decide, by decide⟩, by decide +kernel, by decide⟩
theorem mk_144 : ak_mok q_144 := ⟨ak_wc_4 156 (by decide +kernel) (by decide +kernel), ak_wc_1 1 (by decide +kernel) (by decide +kernel), ⟨by decide, by decide⟩, by decide +kernel, by decide⟩
theorem mk_145 : ak_mok q_145 := ⟨ak_wc_4 160 (by decide +kernel) (by decide +kernel), ak_wc_1 1 (by decide +kernel) (by decide +kernel), ⟨by decide, by decide⟩, by decide +kernel, by decide⟩
theorem mk_146 : ak_mok q_146 := ⟨ak_wc_4 164 (by decide +kernel) (by decide +kernel), ak_wc_1 1 (by decide +kernel) (by decide +kernel), ⟨by decide, by decide⟩, by decide +kernel, by decide⟩
theorem mk_147 : ak_mok q_147 := ⟨ak_wc_4 168 (by decide +kernel) (by decide +kernel), ak_wc_1 12 (by decide +kernel) (by decide +kernel), ⟨by decide, by decide⟩, by decide +kernel, by decide⟩
theorem mk_148 : ak_mok q_148 := ⟨ak_wc_4 174 (by decide +kernel) (by decide +kernel), ak_wc_1 12 (by decide +kernel) (by decide +kernel), ⟨by decide, by decide⟩, by decide +kernel, by decide⟩
theorem mk_149 : ak_mok q_149 := ⟨ak_wc_4 178 (by decide +kernel) (by decide +kernel), ak_wc_1 12 (by decide +kernel) (by decide +kernel), ⟨by decide, by decide⟩, by decide +kernel, by decide⟩
theorem mk_150 : ak_mok q_150 := ⟨ak_wc_4 182 (by decide +kernel) (by decide +kernel), ak_wc_1 1 (by decide +kernel) (by decide +kernel), ⟨by decide, by decide⟩, by decide +kernel, by decide⟩
theorem mk_151 : ak_mok q_151 := ⟨ak_wc_4 186 (by decide +kernel) (by decide +kernel), ak_wc_1 1 (by decide +kernel) (by decide +kernel), ⟨by decide, by decide⟩, by decide +kernel, by decide⟩
theorem mk_152 : ak_mok q_152 := ⟨ak_wc_4 191 (by decide +kernel) (by decide +kernel), ak_wc_1 1 (by decide +kernel) (by decide +kernel), ⟨by decide, by decide⟩, by decide +kernel, by decide⟩
theorem mk_153 : ak_mok q_153 := ⟨ak_wc_4 195 (by decide +kernel) (by decide +kernel), ak_wc_1 1 (by decide +kernel) (by decide +kernel), ⟨by decide, by decide⟩, by decide +kernel, by decide⟩
theorem mk_154 : ak_mok q_154 := ⟨ak_wc_4 199 (by decide +kernel) (by decide +kernel), ak_wc_1 1 (by decide +kernel) (by decide +kernel), ⟨by decide, by decide⟩, by decide +kernel, by decide⟩
theorem mk_155 : ak_mok q_155 := ⟨ak_wc_4 203 (by decide +kernel) (by decide +kernel), ak_wc_1 1 (by decide +kernel) (by decide +kernel), ⟨by decide, by decide⟩, by decide +kernel, by decide⟩
theorem mk_156 : ak_mok q_156 := ⟨ak_wc_4 207 (by decide +kernel) (by decide +kernel), ak_wc_1 1 (by decide +kernel) (by decide +kernel), ⟨by decide, by decide⟩, by decide +kernel, by decide⟩
theorem mk_157 : ak_mok q_157 := ⟨ak_wc_4 211 (by decide +kernel) (by decide +kernel), ak_wc_1 2 (by decide +kernel) (by decide +kernel), ⟨by decide, by decide⟩, by decide +kernel, by decide⟩
theorem mk_158 : ak_mok q_158 := ⟨ak_wc_4 215 (by decide +kernel) (by decide +kernel), ak_wc_1 2 (by decide +kernel) (by decide +kernel), ⟨by decide, by decide⟩, by decide +kernel, by decide⟩
theorem mk_159 : ak_mok q_159 := ⟨ak_wc_4 219 (by decide +kernel) (by decide +kernel), ak_wc_1 1 (by decide +kernel) (by decide +kernel), ⟨by decide, by decide⟩, by decide +kernel, by decide⟩
theorem mk_160 : ak_mok q_160 := ⟨ak_wc_4 222 (by decide +kernel) (by decide +kernel), ak_wc_1 12 (by decide +kernel) (by decide +kernel), ⟨by decide, by decide⟩, by decide +kernel, by decide⟩
theorem mk_161 : ak_mok q_161 := ⟨ak_wc_4 226 (by decide +kernel) (by decide +kernel), ak_wc_1 1 (by decide +kernel) (by decide +kernel), ⟨by decide, by decide⟩, by decide +kernel, by decide⟩
theorem mk_162 : ak_mok q_162 := ⟨ak_wc_4 231 (by decide +kernel) (by decide +kernel), ak_wc_1 1 (by decide +kernel) (by decide +kernel), ⟨by decide, by decide⟩, by decide +kernel, by decide⟩
theorem mk_163 : ak_mok q_163 := ⟨ak_wc_4 238 (by decide +kernel) (by decide +kernel), ak_wc_1 1 (by decide +kernel) (by decide +kernel), ⟨by decide, by decide⟩, by decide +kernel, by decide⟩
theorem mk_164 : ak_mok q_164 := ⟨ak_wc_5 3 (by decide +kernel) (by decide +kernel), ak_wc_1 1 (by decide +kernel) (by decide +kernel), ⟨by decide, by decide⟩, by decide +kernel, by decide⟩
theorem mk_165 : ak_mok q_165 := ⟨ak_wc_5 7 (by decide +kernel) (by decide +kernel), ak_wc_1 3 (by decide +kernel) (by decide +kernel), ⟨by decide, by decide⟩, by decide +kernel, by decide⟩
theorem mk_166 : ak_mok q_166 := ⟨ak_wc_5 12 (by decide +kernel) (by decide +kernel), ak_wc_1 13 (by decide +kernel) (by decide +kernel), ⟨by decide, by decide⟩, by decide +kernel, by decide⟩
theorem mk_167 : ak_mok q_167 := ⟨ak_wc_5 17 (by decide +kernel) (by decide +kernel), ak_wc_1 13 (by decide +kernel) (by decide +kernel), ⟨by decide, by decide⟩, by decide +kernel, by decide⟩
theorem mk_168 : ak_mok q_168 := ⟨ak_wc_5 153 (by decide +kernel) (by decide +kernel), ak_wc_1 13 (by decide +kernel) (by decide +kernel), ⟨by decide, by decide⟩, by decide +kernel, by decide⟩
theorem mk_169 : ak_mok q_169 := ⟨ak_wc_5 157 (by decide +kernel) (by decide +kernel), ak_wc_1 13 (by decide +kernel) (by decide +kernel), ⟨by decide, by decide⟩, by decide +kernel, by decide⟩
theorem mk_170 : ak_mok q_170 := ⟨ak_wc_5 161 (by decide +kernel) (by decide +kernel), ak_wc_1 13 (by decide +kernel) (by decide +kernel), ⟨by decide, by decide⟩, by decide +kernel, by decide⟩
theorem mk_171 : ak_mok q_171 := ⟨ak_wc_5 164 (by decide +kernel) (by decide +kernel), ak_wc_1 13 (by decide +kernel) (by decide +kernel), ⟨by decide, by decide⟩, by decide +kernel, by decide⟩
theorem mk_172 : ak_mok q_172 := ⟨ak_wc_5 168 (by decide +kernel) (by decide +kernel), ak_wc_1 13 (by decide +kernel) (by decide +kernel), ⟨by decide, by decide⟩, by decide +kernel, by decide⟩
theorem mk_173 : ak_mok q_173 := ⟨ak_wc_5 177 (by decide +kernel) (by decide +kernel), ak_wc_1 13 (by decide +kernel) (by decide +kernel), ⟨by decide, by decide⟩, by decide +kernel, by decide⟩
theorem mk_174 : ak_mok q_174 := ⟨ak_wc_5 181 (by decide +kernel) (by decide +kernel), ak_wc_1 13 (by decide +kernel) (by decide +kernel), ⟨by decide, by decide⟩, by decide +kernel, by decide⟩
theorem mk_175 : ak_mok q_175 := ⟨ak_wc_5 185 (by decide +kernel) (by decide +kernel), ak_wc_1 13 (by decide +kernel) (by decide +kernel), ⟨by decide, by decide⟩, by decide +kernel, by decide⟩
theorem mk_176 : ak_mok q_176 := ⟨ak_wc_5 189 (by decide +kernel) (by decide +kernel), ak_wc_1 13 (by decide +kernel) (by decide +kernel), ⟨by decide, by decide⟩, by decide +kernel, by decide⟩
theorem mk_177 : ak_mok q_177 := ⟨ak_wc_5 193 (by decide +kernel) (by decide +kernel), ak_wc_1 13 (by decide +kernel) (by decide +kernel), ⟨by decide, by decide⟩, by decide +kernel, by decide⟩
theorem mk_178 : ak_mok q_178 := ⟨ak_wc_5 197 (by decide +kernel) (by decide +kernel), ak_wc_1 13 (by decide +kernel) (by decide +kernel), ⟨by decide, by decide⟩, by decide +kernel, by decide⟩
theorem mk_179 : ak_mok q_179 := ⟨ak_wc_5 205 (by decide +kernel) (by decide +kernel), ak_wc_1 13 (by decide +kernel) (by decide +kernel), ⟨by decide, by decide⟩, by decide +kernel, by decide⟩
theorem mk_180 : ak_mok q_180 := ⟨ak_wc_5 209 (by decide +kernel) (by decide +kernel), ak_wc_1 13 (by decide +kernel) (by decide +kernel), ⟨by decide, by decide⟩, by decide +kernel, by decide⟩
theorem mk_181 : ak_mok q_181 := ⟨ak_wc_5 213 (by decide +kernel) (by decide +kernel), ak_wc_1 13 (by decide +kernel) (by decide +kernel), ⟨by decide, by decide⟩, by decide +kernel, by decide⟩
theorem mk_182 : ak_mok q_182 := ⟨ak_wc_5 217 (by decide +kernel) (by decide +kernel), ak_wc_1 13 (by decide +kernel) (by decide +kernel), ⟨by decide, by decide⟩, by decide +kernel, by decide⟩
theorem mk_183 : ak_mok q_183 := ⟨ak_wc_5 221 (by decide +kernel) (by decide +kernel), ak_wc_1 13 (by decide +kernel) (by decide +kernel), ⟨by decide, by decide⟩, by decide +kernel, by decide⟩
theorem mk_184 : ak_mok q_184 := ⟨ak_wc_5 225 (by decide +kernel) (by decide +kernel), ak_wc_1 13 (by decide +kernel) (by decide +kernel), ⟨by decide, by decide⟩, by decide +kernel, by decide⟩
theorem mk_185 : ak_mok q_185 := ⟨ak_wc_5 229 (by decide +kernel) (by decide +kernel), ak_wc_1 13 (by decide +kernel) (by decide +kernel), ⟨by decide, by decide⟩, by decide +kernel, by decide⟩
theorem mk_186 : ak_mok q_186 := ⟨ak_wc_5 233 (by decide +kernel) (by decide +kernel), ak_wc_1 13 (by decide +kernel) (by decide +kernel), ⟨by decide, by decide⟩, by decide +kernel, by decide⟩
theorem mk_187 : ak_mok q_187 := ⟨ak_wc_5 237 (by decide +kernel) (by decide +kernel), ak_wc_1 13 (by decide +kernel) (by decide +kernel), ⟨by decide, by decide⟩, by decide +kernel, by decide⟩
theorem mk_188 : ak_mok q_188 := ⟨ak_wc_6 1 (by decide +kernel) (by decide +kernel), ak_wc_1 13 (by decide +kernel) (by decide +kernel), ⟨by decide, by decide⟩, by decide +kernel, by decide⟩
theorem mk_189 : ak_mok q_189 := ⟨ak_wc_6 5 (by decide +kernel) (by decide +kernel), ak_wc_1 13 (by decide +kernel) (by decide +kernel), ⟨by decide, by decide⟩, by decide +kernel, by decide⟩
theorem mk_190 : ak_mok q_190 := ⟨ak_wc_6 9 (by decide +kernel) (by decide +kernel), ak_wc_1 13 (by decide +kernel) (by decide +kernel), ⟨by decide, by decide⟩, by decide +kernel, by decide⟩
theorem mk_191 : ak_mok q_191 := ⟨ak_wc_6 13 (by decide +kernel) (by decide +kernel), ak_wc_1 13 (by decide +kernel) (by decide +kernel), ⟨by decide, by decide⟩, by decide +kernel, by decide⟩
theorem mk_192 : ak_mok q_192 := ⟨ak_wc_6 18 (by decide +kernel) (by decide +kernel), ak_wc_1 13 (by decide +kernel) (by decide +kernel), ⟨by decide, by decide⟩, by decide +kernel, by decide⟩
theorem mk_193 : ak_mok q_193 := ⟨ak_wc_6 24 (by decide +kernel) (by decide +kernel), ak_wc_1 13 (by decide +kernel) (by decide +kernel), ⟨by decide, by decide⟩, by decide +kernel, by decide⟩
theorem mk_194 : ak_mok q_194 := ⟨ak_wc_6 28 (by decide +kernel) (by decide +kernel), ak_wc_1 13 (by decide +kernel) (by decide +kernel), ⟨by decide, by decide⟩, by decide +kernel, by decide⟩
theorem mk_195 : ak_mok q_195 := ⟨ak_wc_6 32 (by decide +kernel) (by decide +kernel), ak_wc_1 13 (by decide +kernel) (by decide +kernel), ⟨by decide, by decide⟩, by decide +kernel, by decide⟩
theorem mk_196 : ak_mok q_196 := ⟨ak_wc_6 36 (by decide +kernel) (by decide +kernel), ak_wc_1 13 (by decide +kernel) (by decide +kernel), ⟨by decide, by decide⟩, by decide +kernel, by decide⟩
theorem mk_197 : ak_mok q_197 := ⟨ak_wc_6 40 (by decide +kernel) (by decide +kernel), ak_wc_1 13 (by decide +kernel) (by decide +kernel), ⟨by decide, by decide⟩, by decide +kernel, by decide⟩
theorem mk_198 : ak_mok q_198 := ⟨ak_wc_6 44 (by decide +kernel) (by decide +kernel), ak_wc_1 13 (by decide +kernel) (by decide +kernel), ⟨by decide, by decide⟩, by decide +kernel, by decide⟩
theorem mk_199 : ak_mok q_199 := ⟨ak_wc_6 50 (by decide +kernel) (by decide +kernel), ak_wc_1 13 (by decide +kernel) (by decide +kernel), ⟨by decide, by decide⟩, by decide +kernel, by decide⟩
theorem mk_200 : ak_mok q_200 := ⟨ak_wc_6 54 (by decide +kernel) (by decide +kernel), ak_wc_1 13 (by decide +kernel) (by decide +kernel), ⟨by decide, by decide⟩, by decide +kernel, by decide⟩
theorem mk_201 : ak_mok q_201 := ⟨ak_wc_6 58 (by decide +kernel) (by decide +kernel), ak_wc_1 13 (by decide +kernel) (by decide +kernel), ⟨by decide, by decide⟩, by decide +kernel, by decide⟩
theorem mk_202 : ak_mok q_202 := ⟨ak_wc_6 61 (by decide +kernel) (by decide +kernel), ak_wc_1 13 (by decide +kernel) (by decide +kernel), ⟨by decide, by decide⟩, by decide +kernel, by decide⟩
theorem mk_203 : ak_mok q_203 := ⟨ak_wc_6 66 (by decide +kernel) (by decide +kernel), ak_wc_1 13 (by decide +kernel) (by decide +kernel), ⟨by decide, by decide⟩, by decide +kernel, by decide⟩
theorem mk_204 : ak_mok q_204 := ⟨ak_wc_6 71 (by decide +kernel) (by decide +kernel), ak_wc_1 13 (by decide +kernel) (by decide +kernel), ⟨by decide, by decide⟩, by decide +kernel, by decide⟩
theorem mk_205 : ak_mok q_205 := ⟨ak_wc_6 76 (by decide +kernel) (by decide +kernel), ak_wc_1 13 (by decide +kernel) (by decide +kernel), ⟨by decide, by decide⟩, by decide +kernel, by decide⟩
theorem mk_206 : ak_mok q_206 := ⟨ak_wc_6 80 (by decide +kernel) (by decide +kernel), ak_wc_1 13 (by decide +kernel) (by decide +kernel), ⟨by decide, by decide⟩, by decide +kernel, by decide⟩
theorem mk_207 : ak_mok q_207 := ⟨ak_wc_6 84 (by decide +kernel) (by decide +kernel), ak_wc_1 13 (by decide +kernel) (by decide +kernel), ⟨by decide, by decide⟩, by decide +kernel, by decide⟩
theorem mk_208 : ak_mok q_208 := ⟨ak_wc_6 91 (by decide +kernel) (by decide +kernel), ak_wc_1 13 (by decide +kernel) (by decide +kernel), ⟨by decide, by decide⟩, by decide +kernel, by decide⟩
theorem mk_209 : ak_mok q_209 := ⟨ak_wc_6 95 (by decide +kernel) (by decide +kernel), ak_wc_1 13 (by decide +kernel) (by decide +kernel), ⟨by decide, by decide⟩, by decide +kernel, by decide⟩
theorem mk_210 : ak_mok q_210 := ⟨ak_wc_6 99 (by decide +kernel) (by decide +kernel), ak_wc_1 13 (by decide +kernel) (by decide +kernel), ⟨by decide, by decide⟩, by decide +kernel, by decide⟩
theorem mk_211 : ak_mok q_211 := ⟨ak_wc_6 103 (by decide +kernel) (by decide +kernel), ak_wc_1 13 (by decide +kernel) (by decide +kernel), ⟨by decide, by decide⟩, by decide +kernel, by decide⟩
theorem mk_212 : ak_mok q_212 := ⟨ak_wc_6 107 (by decide +kernel) (by decide +kernel), ak_wc_1 13 (by decide +kernel) (by decide +kernel), ⟨by decide, by decide⟩, by decide +kernel, by decide⟩
theorem mk_213 : ak_mok q_213 := ⟨ak_wc_6 111 (by decide +kernel) (by decide +kernel), ak_wc_1 13 (by decide +kernel) (by decide +kernel), ⟨by decide, by decide⟩, by decide +kernel, by decide⟩
theorem mk_214 : ak_mok q_214 := ⟨ak_wc_6 114 (by decide +kernel) (by decide +kernel), ak_wc_1 13 (by decide +kernel) (by decide +kernel), ⟨by decide, by decide⟩, by decide +kernel, by decide⟩
theorem mk_215 : ak_mok q_215 := ⟨ak_wc_6 118 (by decide +kernel) (by decide +kernel), ak_wc_1 13 (by decide +kernel) (by decide +kernel), ⟨by decide, by decide⟩, by decide +kernel, by decide⟩
theorem mk_216 : ak_mok q_216 := ⟨ak_wc_6 122 (by decide +kernel) (by decide +kernel), ak_wc_1 13 (by decide +kernel) (by decide +kernel), ⟨by decide, by decide⟩, by decide +kernel, by decide⟩
theorem mk_217 : ak_mok q_217 := ⟨ak_wc_6 126 (by decide +kernel) (by decide +kernel), ak_wc_1 13 (by decide +kernel) (by decide +kernel), ⟨by decide, by decide⟩, by decide +kernel, by decide⟩
theorem mk_218 : ak_mok q_218 := ⟨ak_wc_6 130 (by decide +kernel) (by decide +kernel), ak_wc_1 13 (by decide +kernel) (by decide +kernel), ⟨by decide, by decide⟩, by decide +kernel, by decide⟩
theorem mk_219 : ak_mok q_219 := ⟨ak_wc_6 134 (by decide +kernel) (by decide +kernel), ak_wc_1 13 (by decide +kernel) (by decide +kernel), ⟨by decide, by decide⟩, by decide +kernel, by decide⟩
theorem mk_220 : ak_mok q_220 := ⟨ak_wc_6 138 (by decide +kernel) (by decide +kernel), ak_wc_1 13 (by decide +kernel) (by decide +kernel), ⟨by decide, by decide⟩, by decide +kernel, by decide⟩
theorem mk_221 : ak_mok q_221 := ⟨ak_wc_6 142 (by decide +kernel) (by decide +kernel), ak_wc_1 13 (by decide +kernel) (by decide +kernel), ⟨by decide, by decide⟩, by decide +kernel, by decide⟩
theorem mk_222 : ak_mok q_222 := ⟨ak_wc_6 146 (by decide +kernel) (by decide +kernel), ak_wc_1 13 (by decide +kernel) (by decide +kernel), ⟨by decide, by decide⟩, by decide +kernel, by decide⟩
theorem mk_223 : ak_mok q_223 := ⟨ak_wc_6 150 (by decide +kernel) (by decide +kernel), ak_wc_1 13 (by decide +kernel) (by decide +kernel), ⟨by decide, by decide⟩, by decide +kernel, by decide⟩
theorem mk_224 : ak_mok q_224 := ⟨ak_wc_6 154 (by decide +kernel) (by decide +kernel), ak_wc_1 13 (by decide +kernel) (by decide +kernel), ⟨by decide, by decide⟩, by decide +kernel, by decide⟩
theorem mk_225 : ak_mok q_225 := ⟨ak_wc_6 158 (by decide +kernel) (by decide +kernel), ak_wc_1 13 (by decide +kernel) (by decide +kernel), ⟨by decide, by decide⟩, by decide +kernel, by decide⟩
theorem mk_226 : ak_mok q_226 := ⟨ak_wc_6 162 (by decide +kernel) (by decide +kernel), ak_wc_1 13 (by decide +kernel) (by decide +kernel), ⟨by decide, by decide⟩, by decide +kernel, by decide⟩
theorem mk_227 : ak_mok q_227 := ⟨ak_wc_6 166 (by decide +kernel) (by decide +kernel), ak_wc_1 13 (by decide +kernel) (by decide +kernel), ⟨by decide, by decide⟩, by decide +kernel, by decide⟩
theorem mk_228 : ak_mok q_228 := ⟨ak_wc_6 170 (by decide +kernel) (by decide +kernel), ak_wc_1 13 (by decide +kernel) (by decide +kernel), ⟨by decide, by decide⟩, by decide +kernel, by decide⟩
theorem mk_229 : ak_mok q_229 := ⟨ak_wc_6 174 (by decide +kernel) (by decide +kernel), ak_wc_1 13 (by decide +kernel) (by decide +kernel), ⟨by decide, by decide⟩, by decide +kernel, by decide⟩
theorem mk_230 : ak_mok q_230 := ⟨ak_wc_6 177 (by decide +kernel) (by decide +kernel), ak_wc_1 13 (by decide +kernel) (by decide +kernel), ⟨by decide, by decide⟩, by decide +kernel, by decide⟩
theorem mk_231 : ak_mok q_231 := ⟨ak_wc_6 181 (by decide +kernel) (by decide +kernel), ak_wc_1 13 (by decide +kernel) (by decide +kernel), ⟨by decide, by decide⟩, by decide +kernel, by decide⟩
theorem mk_232 : ak_mok q_232 := ⟨ak_wc_6 185 (by decide +kernel) (by decide +kernel), ak_wc_1 13 (by decide +kernel) (by decide +kernel), ⟨by decide, by decide⟩, by decide +kernel, by decide⟩
theorem mk_233 : ak_mok q_233 := ⟨ak_wc_6 189 (by decide +kernel) (by decide +kernel), ak_wc_1 13 (by decide +kernel) (by decide +kernel), ⟨by decide, by decide⟩, by decide +kernel, by decide⟩
theorem mk_234 : ak_mok q_234 := ⟨ak_wc_6 194 (by decide +kernel) (by decide +kernel), ak_wc_1 13 (by decide +kernel) (by decide +kernel), ⟨by decide, by decide⟩, by decide +kernel, by decide⟩
theorem mk_235 : ak_mok q_235 := ⟨ak_wc_6 198 (by decide +kernel) (by decide +kernel), ak_wc_1 13 (by decide +kernel) (by decide +kernel), ⟨by decide, by decide⟩, by decide +kernel, by decide⟩
theorem mk_236 : ak_mok q_236 := ⟨ak_wc_6 203 (by decide +kernel) (by decide +kernel), ak_wc_1 13 (by decide +kernel) (by decide +kernel), ⟨by decide, by decide⟩, by decide +kernel, by decide⟩
theorem mk_237 : ak_mok q_237 := ⟨ak_wc_6 208 (by decide +kernel) (by decide +kernel), ak_wc_1 13 (by decide +kernel) (by decide +kernel), ⟨by decide, by decide⟩, by decide +kernel, by decide⟩
theorem mk_238 : ak_mok q_238 := ⟨ak_wc_6 212 (by decide +kernel) (by decide +kernel), ak_wc_1 13 (by decide +kernel) (by decide +kernel), ⟨by decide, by decide⟩, by decide +kernel, by decide⟩
theorem mk_239 : ak_mok q_239 := ⟨ak_wc_6 216 (by decide +kernel) (by decide +kernel), ak_wc_1 13 (by decide +kernel) (by decide +kernel), ⟨by decide, by decide⟩, by decide +kernel, by decide⟩
theorem mk_240 : ak_mok q_240 := ⟨ak_wc_6 221 (by decide +kernel) (by decide +kernel), ak_wc_1 13 (by decide +kernel) (by decide +kernel), ⟨by decide, by decide⟩, by decide +kernel, by decide⟩
theorem mk_241 : ak_mok q_241 := ⟨ak_wc_6 225 (by decide +kernel) (by decide +kernel), ak_wc_1 13 (by decide +kernel) (by decide +kernel), ⟨by decide, by decide⟩, by decide +kernel, by decide⟩
theorem mk_242 : ak_mok q_242 := ⟨ak_wc_6 229 (by decide +kernel) (by decide +kernel), ak_wc_1 13 (by decide +kernel) (by decide +kernel), ⟨by decide, by decide⟩, by decide +kernel, by decide⟩
theorem mk_243 : ak_mok q_243 := ⟨ak_wc_6 234 (by decide +kernel) (by decide +kernel), ak_wc_1 13 (by decide +kernel) (by decide +kernel), ⟨by decide, by decide⟩, by decide +kernel, by decide⟩
theorem mk_244 : ak_mok q_244 := ⟨ak_wc_6 237 (by decide +kernel) (by decide +kernel), ak_wc_1 13 (by decide +kernel) (by decide +kernel), ⟨by decide, by decide⟩, by decide +kernel, by decide⟩
theorem rk_RX11_3 : ak_okr RX11 3 (16, 0, 0, 0) := ak_wc_1 26 (by decide +kernel) (by decide +kernel)
theorem rk_RX11_9 : ak_okr RX11 9 (7, 8, 0, 0) := ⟨(RX8, TX8, 12), rfl, ak_wc_1 29 (by decide +kernel) (by decide +kernel)⟩
theorem rk_RX11_11 : ak_okr RX11 11 (14, 1, 0, 8) := ⟨q_1, (RX8, TX8, 12), rfl, mk_1, rfl, rfl, rfl, rfl, by decide +kernel, ak_wc_1 31 (by decide +kernel) (by decide +kernel), ak_wc_1 32 (by decide +kernel) (by decide +kernel)⟩
theorem rk_RX11_12 : ak_okr RX11 12 (1, 11, 0, 1) := ⟨(RX11, TX11, 9), rfl, by decide, ak_wc_2 33 (by decide +kernel) (by decide +kernel), by decide +kernel⟩
theorem rk_RX11_16 : ak_okr RX11 16 (1, 11, 1, 1) := ⟨(RX11, TX11, 9), rfl, by decide, ak_wc_2 34 (by decide +kernel) (by decide +kernel), by decide +kernel⟩
theorem rk_RX11_19 : ak_okr RX11 19 (1, 11, 2, 1) := ⟨(RX11, TX11, 9), rfl, by decide, ak_wc_2 35 (by decide +kernel) (by decide +kernel), by decide +kernel⟩
theorem rk_RX11_22 : ak_okr RX11 22 (1, 11, 4, 1) := ⟨(RX11, TX11, 9), rfl, by decide, ak_wc_2 37 (by decide +kernel) (by decide +kernel), by decide +kernel⟩
theorem rk_RX11_26 : ak_okr RX11 26 (7, 6, 0, 0) := ⟨(RX6, TX6, 5), rfl, ak_wc_1 91 (by decide +kernel) (by decide +kernel)⟩
theorem rk_RX11_28 : ak_okr RX11 28 (14, 2, 1, 6) := ⟨q_2, (RX6, TX6, 5), rfl, mk_2, rfl, rfl, rfl, rfl, by decide +kernel, ak_wc_1 93 (by decide +kernel) (by decide +kernel), ak_wc_1 94 (by decide +kernel) (by decide +kernel)⟩
theorem rk_RX11_31 : ak_okr RX11 31 (1, 11, 6, 1) := ⟨(RX11, TX11, 9), rfl, by decide, ak_wc_2 39 (by decide +kernel) (by decide +kernel), by decide +kernel⟩
theorem rk_RX11_35 : ak_okr RX11 35 (7, 5, 0, 0) := ⟨(RX5, TX5, 12), rfl, ak_wc_1 209 (by decide +kernel) (by decide +kernel)⟩
theorem rk_RX11_37 : ak_okr RX11 37 (14, 12, 2, 5) := ⟨q_12, (RX5, TX5, 12), rfl, mk_12, rfl, rfl, rfl, rfl, by decide +kernel, ak_wc_1 211 (by decide +kernel) (by decide +kernel), ak_wc_1 212 (by decide +kernel) (by decide +kernel)⟩
theorem rk_RX11_40 : ak_okr RX11 40 (1, 11, 7, 1) := ⟨(RX11, TX11, 9), rfl, by decide, ak_wc_2 40 (by decide +kernel) (by decide +kernel), by decide +kernel⟩
theorem rk_RX11_44 : ak_okr RX11 44 (7, 7, 4, 0) := ⟨(RX7, TX7, 3), rfl, ak_wc_2 13 (by decide +kernel) (by decide +kernel)⟩
theorem rk_RX11_46 : ak_okr RX11 46 (1, 11, 8, 1) := ⟨(RX11, TX11, 9), rfl, by decide, ak_wc_2 41 (by decide +kernel) (by decide +kernel), by decide +kernel⟩
theorem rk_RX11_50 : ak_okr RX11 50 (14, 13, 0, 7) := ⟨q_13, (RX7, TX7, 3), rfl, mk_13, rfl, rfl, rfl, rfl, by decide +kernel, ak_wc_2 16 (by decide +kernel) (by decide +kernel), ak_wc_2 17 (by decide +kernel) (by decide +kernel)⟩
theorem rk_RX11_51 : ak_okr RX11 51 (8, 15, 2, 8) := ⟨q_15, (RX8, TX8, 12), rfl, mk_15, rfl, rfl, by decide +kernel, ak_wc_2 65 (by decide +kernel) (by decide +kernel), ak_wc_2 66 (by decide +kernel) (by decide +kernel), ak_wc_2 67 (by decide +kernel) (by decide +kernel)⟩
theorem rk_RX11_55 : ak_okr RX11 55 (8, 17, 2, 8) := ⟨q_17, (RX8, TX8, 12), rfl, mk_17, rfl, rfl, by decide +kernel, ak_wc_2 73 (by decide +kernel) (by decide +kernel), ak_wc_2 74 (by decide +kernel) (by decide +kernel), ak_wc_2 75 (by decide +kernel) (by decide +kernel)⟩
theorem rk_RX11_58 : ak_okr RX11 58 (8, 18, 2, 8) := ⟨q_18, (RX8, TX8, 12), rfl, mk_18, rfl, rfl, by decide +kernel, ak_wc_2 81 (by decide +kernel) (by decide +kernel), ak_wc_2 82 (by decide +kernel) (by decide +kernel), ak_wc_2 83 (by decide +kernel) (by decide +kernel)⟩
theorem rk_RX11_62 : ak_okr RX11 62 (8, 20, 3, 8) := ⟨q_20, (RX8, TX8, 12), rfl, mk_20, rfl, rfl, by decide +kernel, ak_wc_2 89 (by decide +kernel) (by decide +kernel), ak_wc_2 90 (by decide +kernel) (by decide +kernel), ak_wc_2 91 (by decide +kernel) (by decide +kernel)⟩
theorem rk_RX11_66 : ak_okr RX11 66 (8, 22, 3, 8) := ⟨q_22, (RX8, TX8, 12), rfl, mk_22, rfl, rfl, by decide +kernel, ak_wc_2 97 (by decide +kernel) (by decide +kernel), ak_wc_2 98 (by decide +kernel) (by decide +kernel), ak_wc_2 99 (by decide +kernel) (by decide +kernel)⟩
theorem rk_RX11_70 : ak_okr RX11 70 (8, 16, 1, 8) := ⟨q_16, (RX8, TX8, 12), rfl, mk_16, rfl, rfl, by decide +kernel, ak_wc_2 109 (by decide +kernel) (by decide +kernel), ak_wc_2 70 (by decide +kernel) (by decide +kernel), ak_wc_2 71 (by decide +kernel) (by decide +kernel)⟩
theorem rk_RX11_74 : ak_okr RX11 74 (1, 8, 11, 1) := ⟨(RX8, TX8, 12), rfl, by decide, ak_wc_1 64 (by decide +kernel) (by decide +kernel), by decide +kernel⟩
theorem rk_RX11_77 : ak_okr RX11 77 (8, 23, 3, 8) := ⟨q_23, (RX8, TX8, 12), rfl, mk_23, rfl, rfl, by decide +kernel, ak_wc_2 110 (by decide +kernel) (by decide +kernel), ak_wc_2 102 (by decide +kernel) (by decide +kernel), ak_wc_2 103 (by decide +kernel) (by decide +kernel)⟩
theorem rk_RX11_81 : ak_okr RX11 81 (11, 26, 1, 0) := ⟨q_26, rfl, mk_26, by decide +kernel, ak_wc_2 115 (by decide +kernel) (by decide +kernel), ak_wc_2 116 (by decide +kernel) (by decide +kernel)⟩
theorem rk_RX11_84 : ak_okr RX11 84 (8, 27, 3, 6) := ⟨q_27, (RX6, TX6, 5), rfl, mk_27, rfl, rfl, by decide +kernel, ak_wc_2 118 (by decide +kernel) (by decide +kernel), ak_wc_2 119 (by decide +kernel) (by decide +kernel), ak_wc_2 120 (by decide +kernel) (by decide +kernel)⟩
theorem rk_RX11_88 : ak_okr RX11 88 (1, 8, 10, 1) := ⟨(RX8, TX8, 12), rfl, by decide, ak_wc_1 60 (by decide +kernel) (by decide +kernel), by decide +kernel⟩
theorem rk_RX11_91 : ak_okr RX11 91 (1, 8, 5, 1) := ⟨(RX8, TX8, 12), rfl, by decide, ak_wc_1 47 (by decide +kernel) (by decide +kernel), by decide +kernel⟩
theorem rk_RX11_94 : ak_okr RX11 94 (8, 47, 2, 6) := ⟨q_47, (RX6, TX6, 5), rfl, mk_47, rfl, rfl, by decide +kernel, ak_wc_2 200 (by decide +kernel) (by decide +kernel), ak_wc_2 201 (by decide +kernel) (by decide +kernel), ak_wc_2 202 (by decide +kernel) (by decide +kernel)⟩
theorem rk_RX11_98 : ak_okr RX11 98 (8, 55, 2, 6) := ⟨q_55, (RX6, TX6, 5), rfl, mk_55, rfl, rfl, by decide +kernel, ak_wc_2 238 (by decide +kernel) (by decide +kernel), ak_wc_2 239 (by decide +kernel) (by decide +kernel), ak_wc_3 0 (by decide +kernel) (by decide +kernel)⟩
theorem rk_RX11_101 : ak_okr RX11 101 (8, 61, 2, 11) := ⟨q_61, (RX11, TX11, 9), rfl, mk_61, rfl, rfl, by decide +kernel, ak_wc_3 22 (by decide +kernel) (by decide +kernel), ak_wc_3 24 (by decide +kernel) (by decide +kernel), ak_w 4 (by decide +kernel) (by decide +kernel)⟩
theorem rk_RX11_104 : ak_okr RX11 104 (8, 48, 3, 6) := ⟨q_48, (RX6, TX6, 5), rfl, mk_48, rfl, rfl, by decide +kernel, ak_wc_3 26 (by decide +kernel) (by decide +kernel), ak_wc_2 205 (by decide +kernel) (by decide +kernel), ak_wc_2 206 (by decide +kernel) (by decide +kernel)⟩
theorem rk_RX11_108 : ak_okr RX11 108 (8, 29, 3, 6) := ⟨q_29, (RX6, TX6, 5), rfl, mk_29, rfl, rfl, by decide +kernel, ak_wc_3 27 (by decide +kernel) (by decide +kernel), ak_wc_2 128 (by decide +kernel) (by decide +kernel), ak_wc_2 129 (by decide +kernel) (by decide +kernel)⟩
theorem rk_RX11_111 : ak_okr RX11 111 (1, 11, 5, 0) := ⟨(RX11, TX11, 9), rfl, by decide, ak_wc_2 38 (by decide +kernel) (by decide +kernel), by decide +kernel⟩
theorem rk_RX11_115 : ak_okr RX11 115 (1, 6, 0, 0) := ⟨(RX6, TX6, 5), rfl, by decide, ak_wc_1 193 (by decide +kernel) (by decide +kernel), by decide +kernel⟩
theorem rk_RX11_118 : ak_okr RX11 118 (8, 34, 1, 6) := ⟨q_34, (RX6, TX6, 5), rfl, mk_34, rfl, rfl, by decide +kernel, ak_wc_3 36 (by decide +kernel) (by decide +kernel), ak_wc_2 148 (by decide +kernel) (by decide +kernel), ak_wc_2 149 (by decide +kernel) (by decide +kernel)⟩
theorem rk_RX11_122 : ak_okr RX11 122 (8, 64, 1, 10) := ⟨q_64, (RX10, TX10, 12), rfl, mk_64, rfl, rfl, by decide +kernel, ak_wc_3 37 (by decide +kernel) (by decide +kernel), ak_wc_3 38 (by decide +kernel) (by decide +kernel), ak_wc_3 39 (by decide +kernel) (by decide +kernel)⟩
theorem rk_RX11_128 : ak_okr RX11 128 (1, 8, 3, 0) := ⟨(RX8, TX8, 12), rfl, by decide, ak_wc_1 41 (by decide +kernel) (by decide +kernel), by decide +kernel⟩
theorem rk_RX11_131 : ak_okr RX11 131 (4, 0, 0, -100000) := ak_wc_3 197 (by decide +kernel) (by decide +kernel)
theorem rk_RX11_132 : ak_okr RX11 132 (8, 99, 1, 5) := ⟨q_99, (RX5, TX5, 12), rfl, mk_99, rfl, rfl, by decide +kernel, ak_wc_3 198 (by decide +kernel) (by decide +kernel), ak_wc_3 199 (by decide +kernel) (by decide +kernel), ak_wc_3 200 (by decide +kernel) (by decide +kernel)⟩
theorem rk_RX11_136 : ak_okr RX11 136 (8, 105, 1, 5) := ⟨q_105, (RX5, TX5, 12), rfl, mk_105, rfl, rfl, by decide +kernel, ak_wc_3 229 (by decide +kernel) (by decide +kernel), ak_wc_3 230 (by decide +kernel) (by decide +kernel), ak_wc_3 231 (by decide +kernel) (by decide +kernel)⟩
theorem rk_RX11_139 : ak_okr RX11 139 (8, 107, 0, 5) := ⟨q_107, (RX5, TX5, 12), rfl, mk_107, rfl, rfl, by decide +kernel, ak_wc_3 237 (by decide +kernel) (by decide +kernel), ak_wc_3 238 (by decide +kernel) (by decide +kernel), ak_wc_3 239 (by decide +kernel) (by decide +kernel)⟩
theorem rk_RX11_143 : ak_okr RX11 143 (8, 109, 0, 5) := ⟨q_109, (RX5, TX5, 12), rfl, mk_109, rfl, rfl, by decide +kernel, ak_wc_4 6 (by decide +kernel) (by decide +kernel), ak_wc_4 7 (by decide +kernel) (by decide +kernel), ak_wc_4 8 (by decide +kernel) (by decide +kernel)⟩
theorem rk_RX11_147 : ak_okr RX11 147 (8, 108, 0, 5) := ⟨q_108, (RX5, TX5, 12), rfl, mk_108, rfl, rfl, by decide +kernel, ak_wc_4 10 (by decide +kernel) (by decide +kernel), ak_wc_4 2 (by decide +kernel) (by decide +kernel), ak_wc_4 3 (by decide +kernel) (by decide +kernel)⟩
theorem rk_RX11_150 : ak_okr RX11 150 (1, 8, 0, 0) := ⟨(RX8, TX8, 12), rfl, by decide, ak_wc_1 36 (by decide +kernel) (by decide +kernel), by decide +kernel⟩
theorem rk_RX11_153 : ak_okr RX11 153 (1, 8, 4, 0) := ⟨(RX8, TX8, 12), rfl, by decide, ak_wc_1 44 (by decide +kernel) (by decide +kernel), by decide +kernel⟩
theorem rk_RX11_156 : ak_okr RX11 156 (1, 8, 9, 1) := ⟨(RX8, TX8, 12), rfl, by decide, ak_wc_1 57 (by decide +kernel) (by decide +kernel), by decide +kernel⟩
theorem rk_RX11_159 : ak_okr RX11 159 (19, 0, 0, 0) := ak_wc_4 15 (by decide +kernel) (by decide +kernel)
theorem rk_RX11_164 : ak_okr RX11 164 (8, 111, 0, 8) := ⟨q_111, (RX8, TX8, 12), rfl, mk_111, rfl, rfl, by decide +kernel, ak_wc_4 16 (by decide +kernel) (by decide +kernel), ak_wc_4 17 (by decide +kernel) (by decide +kernel), ak_wc_4 18 (by decide +kernel) (by decide +kernel)⟩
theorem rk_RX11_167 : ak_okr RX11 167 (8, 113, 1, 5) := ⟨q_113, (RX5, TX5, 12), rfl, mk_113, rfl, rfl, by decide +kernel, ak_wc_4 24 (by decide +kernel) (by decide +kernel), ak_wc_4 25 (by decide +kernel) (by decide +kernel), ak_wc_4 26 (by decide +kernel) (by decide +kernel)⟩
theorem rk_RX11_171 : ak_okr RX11 171 (8, 120, 0, 5) := ⟨q_120, (RX5, TX5, 12), rfl, mk_120, rfl, rfl, by decide +kernel, ak_wc_4 55 (by decide +kernel) (by decide +kernel), ak_wc_4 56 (by decide +kernel) (by decide +kernel), ak_wc_4 57 (by decide +kernel) (by decide +kernel)⟩
theorem rk_RX11_174 : ak_okr RX11 174 (8, 121, 0, 5) := ⟨q_121, (RX5, TX5, 12), rfl, mk_121, rfl, rfl, by decide +kernel, ak_wc_4 59 (by decide +kernel) (by decide +kernel), ak_wc_4 60 (by decide +kernel) (by decide +kernel), ak_wc_4 61 (by decide +kernel) (by decide +kernel)⟩
theorem rk_RX11_177 : ak_okr RX11 177 (8, 123, 0, 5) := ⟨q_123, (RX5, TX5, 12), rfl, mk_123, rfl, rfl, by decide +kernel, ak_wc_4 67 (by decide +kernel) (by decide +kernel), ak_wc_4 68 (by decide +kernel) (by decide +kernel), ak_wc_4 69 (by decide +kernel) (by decide +kernel)⟩
theorem rk_RX11_180 : ak_okr RX11 180 (8, 126, 0, 5) := ⟨q_126, (RX5, TX5, 12), rfl, mk_126, rfl, rfl, by decide +kernel, ak_wc_4 80 (by decide +kernel) (by decide +kernel), ak_wc_4 81 (by decide +kernel) (by decide +kernel), ak_wc_4 82 (by decide +kernel) (by decide +kernel)⟩
theorem rk_RX11_183 : ak_okr RX11 183 (8, 128, 0, 5) := ⟨q_128, (RX5, TX5, 12), rfl, mk_128, rfl, rfl, by decide +kernel, ak_wc_4 88 (by decide +kernel) (by decide +kernel), ak_wc_4 89 (by decide +kernel) (by decide +kernel), ak_wc_4 90 (by decide +kernel) (by decide +kernel)⟩
theorem rk_RX11_186 : ak_okr RX11 186 (8, 131, 2, 5) := ⟨q_131, (RX5, TX5, 12), rfl, mk_131, rfl, rfl, by decide +kernel, ak_wc_4 102 (by decide +kernel) (by decide +kernel), ak_wc_4 103 (by decide +kernel) (by decide +kernel), ak_wc_4 104 (by decide +kernel) (by decide +kernel)⟩
theorem rk_RX11_189 : ak_okr RX11 189 (8, 134, 1, 5) := ⟨q_134, (RX5, TX5, 12), rfl, mk_134, rfl, rfl, by decide +kernel, ak_wc_4 114 (by decide +kernel) (by decide +kernel), ak_wc_4 115 (by decide +kernel) (by decide +kernel), ak_wc_4 116 (by decide +kernel) (by decide +kernel)⟩
theorem rk_RX11_192 : ak_okr RX11 192 (11, 136, 1, 0) := ⟨q_136, rfl, mk_136, by decide +kernel, ak_wc_4 122 (by decide +kernel) (by decide +kernel), ak_wc_4 123 (by decide +kernel) (by decide +kernel)⟩
theorem rk_RX11_195 : ak_okr RX11 195 (8, 137, 0, 7) := ⟨q_137, (RX7, TX7, 3), rfl, mk_137, rfl, rfl, by decide +kernel, ak_wc_4 125 (by decide +kernel) (by decide +kernel), ak_wc_4 126 (by decide +kernel) (by decide +kernel), ak_wc_4 127 (by decide +kernel) (by decide +kernel)⟩
theorem rk_RX11_198 : ak_okr RX11 198 (1, 7, 1, 0) := ⟨(RX7, TX7, 3), rfl, by decide, ak_wc_2 23 (by decide +kernel) (by decide +kernel), by decide +kernel⟩
theorem rk_RX11_199 : ak_okr RX11 199 (8, 138, 1, 8) := ⟨q_138, (RX8, TX8, 12), rfl, mk_138, rfl, rfl, by decide +kernel, ak_wc_4 129 (by decide +kernel) (by decide +kernel), ak_wc_4 130 (by decide +kernel) (by decide +kernel), ak_wc_4 131 (by decide +kernel) (by decide +kernel)⟩
theorem rk_RX11_202 : ak_okr RX11 202 (8, 139, 2, 11) := ⟨q_139, (RX11, TX11, 9), rfl, mk_139, rfl, rfl, by decide +kernel, ak_wc_4 133 (by decide +kernel) (by decide +kernel), ak_wc_4 135 (by decide +kernel) (by decide +kernel), ak_w 39 (by decide +kernel) (by decide +kernel)⟩
theorem rk_RX11_206 : ak_okr RX11 206 (8, 140, 2, 11) := ⟨q_140, (RX11, TX11, 9), rfl, mk_140, rfl, rfl, by decide +kernel, ak_wc_4 137 (by decide +kernel) (by decide +kernel), ak_wc_4 139 (by decide +kernel) (by decide +kernel), ak_w 40 (by decide +kernel) (by decide +kernel)⟩
theorem rk_RX11_209 : ak_okr RX11 209 (8, 141, 2, 11) := ⟨q_141, (RX11, TX11, 9), rfl, mk_141, rfl, rfl, by decide +kernel, ak_wc_4 141 (by decide +kernel) (by decide +kernel), ak_wc_4 143 (by decide +kernel) (by decide +kernel), ak_w 41 (by decide +kernel) (by decide +kernel)⟩
theorem rk_RX11_212 : ak_okr RX11 212 (8, 142, 2, 11) := ⟨q_142, (RX11, TX11, 9), rfl, mk_142, rfl, rfl, by decide +kernel, ak_wc_4 145 (by decide +kernel) (by decide +kernel), ak_wc_4 147 (by decide +kernel) (by decide +kernel), ak_w 42 (by decide +kernel) (by decide +kernel)⟩
theorem rk_RX11_215 : ak_okr RX11 215 (8, 144, 2, 11) := ⟨q_144, (RX11, TX11, 9), rfl, mk_144, rfl, rfl, by decide +kernel, ak_wc_4 153 (by decide +kernel) (by decide +kernel), ak_wc_4 155 (by decide +kernel) (by decide +kernel), ak_w 44 (by decide +kernel) (by decide +kernel)⟩
theorem rk_RX11_218 : ak_okr RX11 218 (8, 145, 2, 11) := ⟨q_145, (RX11, TX11, 9), rfl, mk_145, rfl, rfl, by decide +kernel, ak_wc_4 157 (by decide +kernel) (by decide +kernel), ak_wc_4 159 (by decide +kernel) (by decide +kernel), ak_w 45 (by decide +kernel) (by decide +kernel)⟩
theorem rk_RX11_221 : ak_okr RX11 221 (8, 147, 2, 7) := ⟨q_147, (RX7, TX7, 3), rfl, mk_147, rfl, rfl, by decide +kernel, ak_wc_4 165 (by decide +kernel) (by decide +kernel), ak_wc_4 166 (by decide +kernel) (by decide +kernel), ak_wc_4 167 (by decide +kernel) (by decide +kernel)⟩
theorem rk_RX11_225 : ak_okr RX11 225 (8, 148, 2, 7) := ⟨q_148, (RX7, TX7, 3), rfl, mk_148, rfl, rfl, by decide +kernel, ak_wc_4 171 (by decide +kernel) (by decide +kernel), ak_wc_4 172 (by decide +kernel) (by decide +kernel), ak_wc_4 173 (by decide +kernel) (by decide +kernel)⟩
theorem rk_RX11_227 : ak_okr RX11 227 (8, 151, 1, 11) := ⟨q_151, (RX11, TX11, 9), rfl, mk_151, rfl, rfl, by decide +kernel, ak_wc_4 183 (by decide +kernel) (by decide +kernel), ak_wc_4 185 (by decide +kernel) (by decide +kernel), ak_w 46 (by decide +kernel) (by decide +kernel)⟩
theorem rk_RX11_231 : ak_okr RX11 231 (6, 0, 0, -4611686018427387904) := ak_wc_4 192 (by decide +kernel) (by decide +kernel)
theorem rk_RX11_233 : ak_okr RX11 233 (11, 153, 2, 0) := ⟨q_153, rfl, mk_153, by decide +kernel, ak_wc_4 193 (by decide +kernel) (by decide +kernel), ak_wc_4 194 (by decide +kernel) (by decide +kernel)⟩
theorem rk_RX11_236 : ak_okr RX11 236 (1, 11, 3, 0) := ⟨(RX11, TX11, 9), rfl, by decide, ak_wc_2 36 (by decide +kernel) (by decide +kernel), by decide +kernel⟩
theorem rk_RX11_240 : ak_okr RX11 240 (8, 157, 0, 8) := ⟨q_157, (RX8, TX8, 12), rfl, mk_157, rfl, rfl, by decide +kernel, ak_wc_4 208 (by decide +kernel) (by decide +kernel), ak_wc_4 209 (by decide +kernel) (by decide +kernel), ak_wc_4 210 (by decide +kernel) (by decide +kernel)⟩
theorem rk_RX11_243 : ak_okr RX11 243 (8, 158, 0, 8) := ⟨q_158, (RX8, TX8, 12), rfl, mk_158, rfl, rfl, by decide +kernel, ak_wc_4 212 (by decide +kernel) (by decide +kernel), ak_wc_4 213 (by decide +kernel) (by decide +kernel), ak_wc_4 214 (by decide +kernel) (by decide +kernel)⟩
theorem rk_RX11_246 : ak_okr RX11 246 (4, 0, 0, 1103515245) := ak_wc_4 187 (by decide +kernel) (by decide +kernel)
theorem rk_RX11_247 : ak_okr RX11 247 (1, 8, 8, 1) := ⟨(RX8, TX8, 12), rfl, by decide, ak_wc_1 54 (by decide +kernel) (by decide +kernel), by decide +kernel⟩
theorem rk_RX11_250 : ak_okr RX11 250 (1, 7, 2, 1) := ⟨(RX7, TX7, 3), rfl, by decide, ak_wc_2 25 (by decide +kernel) (by decide +kernel), by decide +kernel⟩
theorem rk_RX11_253 : ak_okr RX11 253 (1, 8, 6, 1) := ⟨(RX8, TX8, 12), rfl, by decide, ak_wc_1 50 (by decide +kernel) (by decide +kernel), by decide +kernel⟩
theorem rk_RX11_256 : ak_okr RX11 256 (8, 143, 4, 11) := ⟨q_143, (RX11, TX11, 9), rfl, mk_143, rfl, rfl, by decide +kernel, ak_wc_4 149 (by decide +kernel) (by decide +kernel), ak_wc_4 151 (by decide +kernel) (by decide +kernel), ak_w 43 (by decide +kernel) (by decide +kernel)⟩
theorem rk_RX11_260 : ak_okr RX11 260 (11, 160, 1, 0) := ⟨q_160, rfl, mk_160, by decide +kernel, ak_wc_4 220 (by decide +kernel) (by decide +kernel), ak_wc_4 221 (by decide +kernel) (by decide +kernel)⟩
theorem rk_RX11_263 : ak_okr RX11 263 (8, 149, 2, 7) := ⟨q_149, (RX7, TX7, 3), rfl, mk_149, rfl, rfl, by decide +kernel, ak_wc_4 227 (by decide +kernel) (by decide +kernel), ak_wc_4 176 (by decide +kernel) (by decide +kernel), ak_wc_4 177 (by decide +kernel) (by decide +kernel)⟩
theorem rk_RX11_266 : ak_okr RX11 266 (1, 7, 0, 0) := ⟨(RX7, TX7, 3), rfl, by decide, ak_wc_2 21 (by decide +kernel) (by decide +kernel), by decide +kernel⟩
theorem rk_RX11_269 : ak_okr RX11 269 (17, 0, 0, 0) := ak_wc_4 232 (by decide +kernel) (by decide +kernel)
theorem rk_RX11_275 : ak_okr RX11 275 (8, 21, 3, 11) := ⟨q_21, (RX11, TX11, 9), rfl, mk_21, rfl, rfl, by decide +kernel, ak_wc_4 239 (by decide +kernel) (by decide +kernel), ak_wc_2 94 (by decide +kernel) (by decide +kernel), ak_wc_2 95 (by decide +kernel) (by decide +kernel)⟩
theorem rk_RX11_278 : ak_okr RX11 278 (8, 165, 2, 6) := ⟨q_165, (RX6, TX6, 5), rfl, mk_165, rfl, rfl, by decide +kernel, ak_wc_5 4 (by decide +kernel) (by decide +kernel), ak_wc_5 5 (by decide +kernel) (by decide +kernel), ak_wc_5 6 (by decide +kernel) (by decide +kernel)⟩
theorem rk_RX0_1 : ak_okr RX0 1 (14, 3, 0, 3) := ⟨q_3, (RX3, TX3, 0), rfl, mk_3, rfl, rfl, rfl, rfl, by decide +kernel, ak_wc_1 140 (by decide +kernel) (by decide +kernel), ak_wc_1 103 (by decide +kernel) (by decide +kernel)⟩
theorem rk_RX0_7 : ak_okr RX0 7 (15, 60, 2, 0) := ⟨q_60, rfl, mk_60, by decide +kernel, by decide, ak_wc_3 10 (by decide +kernel) (by decide +kernel), ak_wc_3 6 (by decide +kernel) (by decide +kernel), ak_wc_1 141 (by decide +kernel) (by decide +kernel), ak_wc_3 4 (by decide +kernel) (by decide +kernel)⟩
theorem rk_RX1_1 : ak_okr RX1 1 (14, 5, 0, 9) := ⟨q_5, (RX9, TX9, 0), rfl, mk_5, rfl, rfl, rfl, rfl, by decide +kernel, ak_wc_1 133 (by decide +kernel) (by decide +kernel), ak_wc_1 117 (by decide +kernel) (by decide +kernel)⟩
theorem rk_RX1_7 : ak_okr RX1 7 (15, 51, 4, 0) := ⟨q_51, rfl, mk_51, by decide +kernel, by decide, ak_wc_2 222 (by decide +kernel) (by decide +kernel), ak_wc_6 238 (by decide +kernel) (by decide +kernel), ak_wc_1 134 (by decide +kernel) (by decide +kernel), ak_wc_2 223 (by decide +kernel) (by decide +kernel)⟩
theorem rk_RX2_3 : ak_okr RX2 3 (14, 4, 0, 4) := ⟨q_4, (RX4, TX4, 0), rfl, mk_4, rfl, rfl, rfl, rfl, by decide +kernel, ak_wc_1 126 (by decide +kernel) (by decide +kernel), ak_wc_1 110 (by decide +kernel) (by decide +kernel)⟩
theorem rk_RX2_9 : ak_okr RX2 9 (15, 53, 4, 0) := ⟨q_53, rfl, mk_53, by decide +kernel, by decide, ak_wc_2 229 (by decide +kernel) (by decide +kernel), ak_wc_6 239 (by decide +kernel) (by decide +kernel), ak_wc_1 127 (by decide +kernel) (by decide +kernel), ak_wc_2 230 (by decide +kernel) (by decide +kernel)⟩
theorem rk_RX2_13 : ak_okr RX2 13 (18, 45, 3, 0) := ⟨q_45, rfl, mk_45, by decide +kernel, by decide, rfl, rfl, ak_wc_2 184 (by decide +kernel) (by decide +kernel), ak_wc_2 185 (by decide +kernel) (by decide +kernel), ak_wc_1 127 (by decide +kernel) (by decide +kernel), ak_wc_1 113 (by decide +kernel) (by decide +kernel), ak_wc_2 172 (by decide +kernel) (by decide +kernel)⟩
theorem rk_RX3_1 : ak_okr RX3 1 (16, 0, 0, 0) := ak_wc_1 105 (by decide +kernel) (by decide +kernel)
theorem rk_RX4_1 : ak_okr RX4 1 (14, 3, 0, 3) := ⟨q_3, (RX3, TX3, 0), rfl, mk_3, rfl, rfl, rfl, rfl, by decide +kernel, ak_wc_1 112 (by decide +kernel) (by decide +kernel), ak_wc_1 103 (by decide +kernel) (by decide +kernel)⟩
theorem rk_RX4_7 : ak_okr RX4 7 (15, 54, 4, 0) := ⟨q_54, rfl, mk_54, by decide +kernel, by decide, ak_wc_2 232 (by decide +kernel) (by decide +kernel), ak_wc_2 215 (by decide +kernel) (by decide +kernel), ak_wc_1 113 (by decide +kernel) (by decide +kernel), ak_wc_2 213 (by decide +kernel) (by decide +kernel)⟩
theorem rk_RX4_11 : ak_okr RX4 11 (13, 44, 1, 0) := ⟨q_44, rfl, mk_44, by decide +kernel, ak_wc_2 233 (by decide +kernel) (by decide +kernel), ak_wc_2 234 (by decide +kernel) (by decide +kernel), ak_wc_2 193 (by decide +kernel) (by decide +kernel)⟩
theorem rk_RX5_3 : ak_okr RX5 3 (16, 0, 0, 0) := ak_wc_1 214 (by decide +kernel) (by decide +kernel)
theorem rk_RX5_9 : ak_okr RX5 9 (1, 5, 2, 1) := ⟨(RX5, TX5, 12), rfl, by decide, ak_wc_1 217 (by decide +kernel) (by decide +kernel), by decide +kernel⟩
theorem rk_RX5_15 : ak_okr RX5 15 (1, 5, 3, 1) := ⟨(RX5, TX5, 12), rfl, by decide, ak_wc_1 218 (by decide +kernel) (by decide +kernel), by decide +kernel⟩
theorem rk_RX5_18 : ak_okr RX5 18 (1, 5, 4, 1) := ⟨(RX5, TX5, 12), rfl, by decide, ak_wc_1 219 (by decide +kernel) (by decide +kernel), by decide +kernel⟩
theorem rk_RX5_22 : ak_okr RX5 22 (1, 5, 5, 1) := ⟨(RX5, TX5, 12), rfl, by decide, ak_wc_1 220 (by decide +kernel) (by decide +kernel), by decide +kernel⟩
theorem rk_RX5_25 : ak_okr RX5 25 (1, 5, 6, 1) := ⟨(RX5, TX5, 12), rfl, by decide, ak_wc_1 221 (by decide +kernel) (by decide +kernel), by decide +kernel⟩
theorem rk_RX5_28 : ak_okr RX5 28 (1, 5, 7, 1) := ⟨(RX5, TX5, 12), rfl, by decide, ak_wc_1 222 (by decide +kernel) (by decide +kernel), by decide +kernel⟩
theorem rk_RX5_31 : ak_okr RX5 31 (1, 5, 8, 1) := ⟨(RX5, TX5, 12), rfl, by decide, ak_wc_1 223 (by decide +kernel) (by decide +kernel), by decide +kernel⟩
theorem rk_RX5_34 : ak_okr RX5 34 (1, 5, 9, 1) := ⟨(RX5, TX5, 12), rfl, by decide, ak_wc_1 224 (by decide +kernel) (by decide +kernel), by decide +kernel⟩
theorem rk_RX5_37 : ak_okr RX5 37 (1, 5, 0, 1) := ⟨(RX5, TX5, 12), rfl, by decide, ak_wc_1 215 (by decide +kernel) (by decide +kernel), by decide +kernel⟩
theorem rk_RX5_41 : ak_okr RX5 41 (1, 5, 1, 0) := ⟨(RX5, TX5, 12), rfl, by decide, ak_wc_1 216 (by decide +kernel) (by decide +kernel), by decide +kernel⟩
theorem rk_RX5_45 : ak_okr RX5 45 (8, 100, 1, 8) := ⟨q_100, (RX8, TX8, 12), rfl, mk_100, rfl, rfl, by decide +kernel, ak_wc_3 202 (by decide +kernel) (by decide +kernel), ak_wc_3 203 (by decide +kernel) (by decide +kernel), ak_wc_3 204 (by decide +kernel) (by decide +kernel)⟩
theorem rk_RX5_51 : ak_okr RX5 51 (1, 8, 4, 0) := ⟨(RX8, TX8, 12), rfl, by decide, ak_wc_1 43 (by decide +kernel) (by decide +kernel), by decide +kernel⟩
theorem rk_RX5_55 : ak_okr RX5 55 (8, 102, 1, 5) := ⟨q_102, (RX5, TX5, 12), rfl, mk_102, rfl, rfl, by decide +kernel, ak_wc_3 213 (by decide +kernel) (by decide +kernel), ak_wc_3 215 (by decide +kernel) (by decide +kernel), ak_w 25 (by decide +kernel) (by decide +kernel)⟩
theorem rk_RX5_59 : ak_okr RX5 59 (8, 104, 0, 5) := ⟨q_104, (RX5, TX5, 12), rfl, mk_104, rfl, rfl, by decide +kernel, ak_wc_3 224 (by decide +kernel) (by decide +kernel), ak_wc_3 226 (by decide +kernel) (by decide +kernel), ak_w 27 (by decide +kernel) (by decide +kernel)⟩
theorem rk_RX5_62 : ak_okr RX5 62 (8, 48, 3, 6) := ⟨q_48, (RX6, TX6, 5), rfl, mk_48, rfl, rfl, by decide +kernel, ak_wc_3 217 (by decide +kernel) (by decide +kernel), ak_wc_2 205 (by decide +kernel) (by decide +kernel), ak_wc_2 206 (by decide +kernel) (by decide +kernel)⟩
theorem rk_RX5_67 : ak_okr RX5 67 (8, 29, 3, 6) := ⟨q_29, (RX6, TX6, 5), rfl, mk_29, rfl, rfl, by decide +kernel, ak_wc_3 218 (by decide +kernel) (by decide +kernel), ak_wc_2 128 (by decide +kernel) (by decide +kernel), ak_wc_2 129 (by decide +kernel) (by decide +kernel)⟩
theorem rk_RX5_71 : ak_okr RX5 71 (8, 28, 2, 8) := ⟨q_28, (RX8, TX8, 12), rfl, mk_28, rfl, rfl, by decide +kernel, ak_wc_3 219 (by decide +kernel) (by decide +kernel), ak_wc_2 123 (by decide +kernel) (by decide +kernel), ak_wc_2 124 (by decide +kernel) (by decide +kernel)⟩
theorem rk_RX5_75 : ak_okr RX5 75 (8, 103, 1, 5) := ⟨q_103, (RX5, TX5, 12), rfl, mk_103, rfl, rfl, by decide +kernel, ak_wc_3 220 (by decide +kernel) (by decide +kernel), ak_wc_3 222 (by decide +kernel) (by decide +kernel), ak_w 26 (by decide +kernel) (by decide +kernel)⟩
theorem rk_RX5_79 : ak_okr RX5 79 (1, 8, 10, 1) := ⟨(RX8, TX8, 12), rfl, by decide, ak_wc_1 61 (by decide +kernel) (by decide +kernel), by decide +kernel⟩
theorem rk_RX5_82 : ak_okr RX5 82 (12, 26, 1, 0) := ⟨q_26, rfl, mk_26, by decide +kernel, by decide +kernel, ak_wc_2 116 (by decide +kernel) (by decide +kernel)⟩
theorem rk_RX5_85 : ak_okr RX5 85 (8, 16, 1, 8) := ⟨q_16, (RX8, TX8, 12), rfl, mk_16, rfl, rfl, by decide +kernel, ak_wc_4 75 (by decide +kernel) (by decide +kernel), ak_wc_2 70 (by decide +kernel) (by decide +kernel), ak_wc_2 71 (by decide +kernel) (by decide +kernel)⟩
theorem rk_RX5_88 : ak_okr RX5 88 (8, 106, 1, 5) := ⟨q_106, (RX5, TX5, 12), rfl, mk_106, rfl, rfl, by decide +kernel, ak_wc_3 233 (by decide +kernel) (by decide +kernel), ak_wc_3 235 (by decide +kernel) (by decide +kernel), ak_w 28 (by decide +kernel) (by decide +kernel)⟩
theorem rk_RX5_91 : ak_okr RX5 91 (19, 0, 0, 0) := ak_wc_4 54 (by decide +kernel) (by decide +kernel)
theorem rk_RX5_96 : ak_okr RX5 96 (8, 108, 0, 5) := ⟨q_108, (RX5, TX5, 12), rfl, mk_108, rfl, rfl, by decide +kernel, ak_wc_4 1 (by decide +kernel) (by decide +kernel), ak_wc_4 2 (by decide +kernel) (by decide +kernel), ak_wc_4 3 (by decide +kernel) (by decide +kernel)⟩
theorem rk_RX5_100 : ak_okr RX5 100 (8, 105, 1, 5) := ⟨q_105, (RX5, TX5, 12), rfl, mk_105, rfl, rfl, by decide +kernel, ak_wc_4 5 (by decide +kernel) (by decide +kernel), ak_wc_3 230 (by decide +kernel) (by decide +kernel), ak_wc_3 231 (by decide +kernel) (by decide +kernel)⟩
theorem rk_RX5_103 : ak_okr RX5 103 (1, 5, 10, 0) := ⟨(RX5, TX5, 12), rfl, by decide, ak_wc_1 225 (by decide +kernel) (by decide +kernel), by decide +kernel⟩
theorem rk_RX5_107 : ak_okr RX5 107 (1, 5, 11, 0) := ⟨(RX5, TX5, 12), rfl, by decide, ak_wc_1 226 (by decide +kernel) (by decide +kernel), by decide +kernel⟩
theorem rk_RX5_110 : ak_okr RX5 110 (8, 114, 0, 5) := ⟨q_114, (RX5, TX5, 12), rfl, mk_114, rfl, rfl, by decide +kernel, ak_wc_4 28 (by decide +kernel) (by decide +kernel), ak_wc_4 30 (by decide +kernel) (by decide +kernel), ak_w 29 (by decide +kernel) (by decide +kernel)⟩
theorem rk_RX5_113 : ak_okr RX5 113 (8, 115, 0, 5) := ⟨q_115, (RX5, TX5, 12), rfl, mk_115, rfl, rfl, by decide +kernel, ak_wc_4 32 (by decide +kernel) (by decide +kernel), ak_wc_4 34 (by decide +kernel) (by decide +kernel), ak_w 30 (by decide +kernel) (by decide +kernel)⟩
theorem rk_RX5_118 : ak_okr RX5 118 (4, 0, 0, 2147483647) := ak_wc_4 37 (by decide +kernel) (by decide +kernel)
theorem rk_RX5_119 : ak_okr RX5 119 (8, 116, 3, 5) := ⟨q_116, (RX5, TX5, 12), rfl, mk_116, rfl, rfl, by decide +kernel, ak_wc_4 38 (by decide +kernel) (by decide +kernel), ak_wc_4 40 (by decide +kernel) (by decide +kernel), ak_w 31 (by decide +kernel) (by decide +kernel)⟩
theorem rk_RX5_123 : ak_okr RX5 123 (20, 0, 0, 0) := ak_wc_4 36 (by decide +kernel) (by decide +kernel)
theorem rk_RX5_126 : ak_okr RX5 126 (8, 117, 1, 5) := ⟨q_117, (RX5, TX5, 12), rfl, mk_117, rfl, rfl, by decide +kernel, ak_wc_4 42 (by decide +kernel) (by decide +kernel), ak_wc_4 44 (by decide +kernel) (by decide +kernel), ak_w 32 (by decide +kernel) (by decide +kernel)⟩
theorem rk_RX5_129 : ak_okr RX5 129 (8, 118, 1, 5) := ⟨q_118, (RX5, TX5, 12), rfl, mk_118, rfl, rfl, by decide +kernel, ak_wc_4 46 (by decide +kernel) (by decide +kernel), ak_wc_4 48 (by decide +kernel) (by decide +kernel), ak_w 33 (by decide +kernel) (by decide +kernel)⟩
theorem rk_RX5_132 : ak_okr RX5 132 (8, 119, 2, 5) := ⟨q_119, (RX5, TX5, 12), rfl, mk_119, rfl, rfl, by decide +kernel, ak_wc_4 50 (by decide +kernel) (by decide +kernel), ak_wc_4 52 (by decide +kernel) (by decide +kernel), ak_w 34 (by decide +kernel) (by decide +kernel)⟩
theorem rk_RX5_136 : ak_okr RX5 136 (8, 124, 1, 5) := ⟨q_124, (RX5, TX5, 12), rfl, mk_124, rfl, rfl, by decide +kernel, ak_wc_4 71 (by decide +kernel) (by decide +kernel), ak_wc_4 73 (by decide +kernel) (by decide +kernel), ak_w 35 (by decide +kernel) (by decide +kernel)⟩
theorem rk_RX5_139 : ak_okr RX5 139 (8, 125, 1, 5) := ⟨q_125, (RX5, TX5, 12), rfl, mk_125, rfl, rfl, by decide +kernel, ak_wc_4 76 (by decide +kernel) (by decide +kernel), ak_wc_4 78 (by decide +kernel) (by decide +kernel), ak_w 36 (by decide +kernel) (by decide +kernel)⟩
theorem rk_RX5_142 : ak_okr RX5 142 (1, 8, 9, 1) := ⟨(RX8, TX8, 12), rfl, by decide, ak_wc_1 58 (by decide +kernel) (by decide +kernel), by decide +kernel⟩
theorem rk_RX5_145 : ak_okr RX5 145 (8, 109, 0, 5) := ⟨q_109, (RX5, TX5, 12), rfl, mk_109, rfl, rfl, by decide +kernel, ak_wc_4 92 (by decide +kernel) (by decide +kernel), ak_wc_4 7 (by decide +kernel) (by decide +kernel), ak_wc_4 8 (by decide +kernel) (by decide +kernel)⟩
theorem rk_RX5_148 : ak_okr RX5 148 (8, 129, 2, 5) := ⟨q_129, (RX5, TX5, 12), rfl, mk_129, rfl, rfl, by decide +kernel, ak_wc_4 93 (by decide +kernel) (by decide +kernel), ak_wc_4 95 (by decide +kernel) (by decide +kernel), ak_w 37 (by decide +kernel) (by decide +kernel)⟩
theorem rk_RX5_152 : ak_okr RX5 152 (8, 107, 0, 5) := ⟨q_107, (RX5, TX5, 12), rfl, mk_107, rfl, rfl, by decide +kernel, ak_wc_4 97 (by decide +kernel) (by decide +kernel), ak_wc_3 238 (by decide +kernel) (by decide +kernel), ak_wc_3 239 (by decide +kernel) (by decide +kernel)⟩
theorem rk_RX5_156 : ak_okr RX5 156 (8, 132, 1, 5) := ⟨q_132, (RX5, TX5, 12), rfl, mk_132, rfl, rfl, by decide +kernel, ak_wc_4 106 (by decide +kernel) (by decide +kernel), ak_wc_4 108 (by decide +kernel) (by decide +kernel), ak_w 38 (by decide +kernel) (by decide +kernel)⟩
theorem rk_RX6_3 : ak_okr RX6 3 (16, 0, 0, 0) := ak_wc_1 96 (by decide +kernel) (by decide +kernel)
theorem rk_RX6_9 : ak_okr RX6 9 (1, 6, 0, 0) := ⟨(RX6, TX6, 5), rfl, by decide, ak_wc_1 192 (by decide +kernel) (by decide +kernel), by decide +kernel⟩
theorem rk_RX6_15 : ak_okr RX6 15 (7, 10, 2, 0) := ⟨(RX10, TX10, 12), rfl, ak_wc_1 97 (by decide +kernel) (by decide +kernel)⟩
theorem rk_RX6_17 : ak_okr RX6 17 (1, 6, 1, 1) := ⟨(RX6, TX6, 5), rfl, by decide, ak_wc_1 194 (by decide +kernel) (by decide +kernel), by decide +kernel⟩
theorem rk_RX6_21 : ak_okr RX6 21 (7, 3, 3, 0) := ⟨(RX3, TX3, 0), rfl, ak_wc_1 99 (by decide +kernel) (by decide +kernel)⟩
theorem rk_RX6_23 : ak_okr RX6 23 (14, 3, 0, 3) := ⟨q_3, (RX3, TX3, 0), rfl, mk_3, rfl, rfl, rfl, rfl, by decide +kernel, ak_wc_1 102 (by decide +kernel) (by decide +kernel), ak_wc_1 103 (by decide +kernel) (by decide +kernel)⟩
theorem rk_RX6_24 : ak_okr RX6 24 (7, 4, 0, 0) := ⟨(RX4, TX4, 0), rfl, ak_wc_1 107 (by decide +kernel) (by decide +kernel)⟩
theorem rk_RX6_26 : ak_okr RX6 26 (14, 4, 0, 4) := ⟨q_4, (RX4, TX4, 0), rfl, mk_4, rfl, rfl, rfl, rfl, by decide +kernel, ak_wc_1 109 (by decide +kernel) (by decide +kernel), ak_wc_1 110 (by decide +kernel) (by decide +kernel)⟩
theorem rk_RX6_27 : ak_okr RX6 27 (7, 9, 0, 0) := ⟨(RX9, TX9, 0), rfl, ak_wc_1 114 (by decide +kernel) (by decide +kernel)⟩
theorem rk_RX6_29 : ak_okr RX6 29 (14, 5, 0, 9) := ⟨q_5, (RX9, TX9, 0), rfl, mk_5, rfl, rfl, rfl, rfl, by decide +kernel, ak_wc_1 116 (by decide +kernel) (by decide +kernel), ak_wc_1 117 (by decide +kernel) (by decide +kernel)⟩
theorem rk_RX6_30 : ak_okr RX6 30 (7, 2, 0, 0) := ⟨(RX2, TX2, 0), rfl, ak_wc_1 121 (by decide +kernel) (by decide +kernel)⟩
theorem rk_RX6_32 : ak_okr RX6 32 (14, 6, 0, 2) := ⟨q_6, (RX2, TX2, 0), rfl, mk_6, rfl, rfl, rfl, rfl, by decide +kernel, ak_wc_1 123 (by decide +kernel) (by decide +kernel), ak_wc_1 124 (by decide +kernel) (by decide +kernel)⟩
theorem rk_RX6_33 : ak_okr RX6 33 (7, 1, 0, 0) := ⟨(RX1, TX1, 0), rfl, ak_wc_1 128 (by decide +kernel) (by decide +kernel)⟩
theorem rk_RX6_35 : ak_okr RX6 35 (14, 7, 0, 1) := ⟨q_7, (RX1, TX1, 0), rfl, mk_7, rfl, rfl, rfl, rfl, by decide +kernel, ak_wc_1 130 (by decide +kernel) (by decide +kernel), ak_wc_1 131 (by decide +kernel) (by decide +kernel)⟩
theorem rk_RX6_36 : ak_okr RX6 36 (7, 0, 0, 0) := ⟨(RX0, TX0, 0), rfl, ak_wc_1 135 (by decide +kernel) (by decide +kernel)⟩
theorem rk_RX6_38 : ak_okr RX6 38 (14, 8, 0, 0) := ⟨q_8, (RX0, TX0, 0), rfl, mk_8, rfl, rfl, rfl, rfl, by decide +kernel, ak_wc_1 137 (by decide +kernel) (by decide +kernel), ak_wc_1 138 (by decide +kernel) (by decide +kernel)⟩
theorem rk_RX6_39 : ak_okr RX6 39 (1, 6, 2, 1) := ⟨(RX6, TX6, 5), rfl, by decide, ak_wc_1 195 (by decide +kernel) (by decide +kernel), by decide +kernel⟩
theorem rk_RX6_43 : ak_okr RX6 43 (1, 6, 3, 1) := ⟨(RX6, TX6, 5), rfl, by decide, ak_wc_1 196 (by decide +kernel) (by decide +kernel), by decide +kernel⟩
theorem rk_RX6_47 : ak_okr RX6 47 (1, 6, 4, 1) := ⟨(RX6, TX6, 5), rfl, by decide, ak_wc_1 197 (by decide +kernel) (by decide +kernel), by decide +kernel⟩
theorem rk_RX6_50 : ak_okr RX6 50 (14, 9, 1, 10) := ⟨q_9, (RX10, TX10, 12), rfl, mk_9, rfl, rfl, rfl, rfl, by decide +kernel, ak_wc_1 143 (by decide +kernel) (by decide +kernel), ak_wc_1 144 (by decide +kernel) (by decide +kernel)⟩
theorem rk_RX6_53 : ak_okr RX6 53 (8, 10, 1, 10) := ⟨q_10, (RX10, TX10, 12), rfl, mk_10, rfl, rfl, by decide +kernel, ak_wc_1 184 (by decide +kernel) (by decide +kernel), ak_wc_1 185 (by decide +kernel) (by decide +kernel), ak_wc_1 186 (by decide +kernel) (by decide +kernel)⟩
theorem rk_RX6_57 : ak_okr RX6 57 (8, 11, 0, 10) := ⟨q_11, (RX10, TX10, 12), rfl, mk_11, rfl, rfl, by decide +kernel, ak_wc_1 188 (by decide +kernel) (by decide +kernel), ak_wc_1 189 (by decide +kernel) (by decide +kernel), ak_wc_1 190 (by decide +kernel) (by decide +kernel)⟩
theorem rk_RX6_60 : ak_okr RX6 60 (8, 39, 1, 6) := ⟨q_39, (RX6, TX6, 5), rfl, mk_39, rfl, rfl, by decide +kernel, ak_wc_2 167 (by decide +kernel) (by decide +kernel), ak_wc_2 169 (by decide +kernel) (by decide +kernel), ak_w 3 (by decide +kernel) (by decide +kernel)⟩
theorem rk_RX6_64 : ak_okr RX6 64 (8, 30, 3, 6) := ⟨q_30, (RX6, TX6, 5), rfl, mk_30, rfl, rfl, by decide +kernel, ak_wc_2 131 (by decide +kernel) (by decide +kernel), ak_wc_2 133 (by decide +kernel) (by decide +kernel), ak_w 1 (by decide +kernel) (by decide +kernel)⟩
theorem rk_RX6_68 : ak_okr RX6 68 (1, 8, 3, 0) := ⟨(RX8, TX8, 12), rfl, by decide, ak_wc_1 40 (by decide +kernel) (by decide +kernel), by decide +kernel⟩
theorem rk_RX6_73 : ak_okr RX6 73 (8, 34, 1, 6) := ⟨q_34, (RX6, TX6, 5), rfl, mk_34, rfl, rfl, by decide +kernel, ak_wc_2 147 (by decide +kernel) (by decide +kernel), ak_wc_2 148 (by decide +kernel) (by decide +kernel), ak_wc_2 149 (by decide +kernel) (by decide +kernel)⟩
theorem rk_RX6_77 : ak_okr RX6 77 (8, 35, 3, 10) := ⟨q_35, (RX10, TX10, 12), rfl, mk_35, rfl, rfl, by decide +kernel, ak_wc_2 151 (by decide +kernel) (by decide +kernel), ak_wc_2 152 (by decide +kernel) (by decide +kernel), ak_wc_2 153 (by decide +kernel) (by decide +kernel)⟩
theorem rk_RX6_81 : ak_okr RX6 81 (19, 0, 0, 0) := ak_wc_2 208 (by decide +kernel) (by decide +kernel)
theorem rk_RX6_87 : ak_okr RX6 87 (20, 0, 0, 0) := ak_wc_2 209 (by decide +kernel) (by decide +kernel)
theorem rk_RX6_90 : ak_okr RX6 90 (1, 8, 5, 1) := ⟨(RX8, TX8, 12), rfl, by decide, ak_wc_1 46 (by decide +kernel) (by decide +kernel), by decide +kernel⟩
theorem rk_RX6_92 : ak_okr RX6 92 (8, 32, 2, 8) := ⟨q_32, (RX8, TX8, 12), rfl, mk_32, rfl, rfl, by decide +kernel, ak_wc_2 139 (by decide +kernel) (by decide +kernel), ak_wc_2 140 (by decide +kernel) (by decide +kernel), ak_wc_2 141 (by decide +kernel) (by decide +kernel)⟩
theorem rk_RX6_96 : ak_okr RX6 96 (1, 8, 6, 1) := ⟨(RX8, TX8, 12), rfl, by decide, ak_wc_1 49 (by decide +kernel) (by decide +kernel), by decide +kernel⟩
theorem rk_RX6_99_0 : ∃ (m : ak_Q) (q : vw_C), ak_M[49]? = some m ∧ ak_mok m ∧ vwCl[0]? = some q ∧ Cond.selects q.1 q_54.1 m.1 ∈ ak_Ts ∧ Cond.instanceMethod m.1 ∈ ak_Ts := ⟨q_49, (RX0, TX0, 0), rfl, mk_49, rfl, ak_wc_2 216 (by decide +kernel) (by decide +kernel), ak_wc_2 217 (by decide +kernel) (by decide +kernel)⟩
theorem rk_RX6_99_1 : ∃ (m : ak_Q) (q : vw_C), ak_M[50]? = some m ∧ ak_mok m ∧ vwCl[1]? = some q ∧ Cond.selects q.1 q_54.1 m.1 ∈ ak_Ts ∧ Cond.instanceMethod m.1 ∈ ak_Ts := ⟨q_50, (RX1, TX1, 0), rfl, mk_50, rfl, ak_wc_2 219 (by decide +kernel) (by decide +kernel), ak_wc_2 220 (by decide +kernel) (by decide +kernel)⟩
theorem rk_RX6_99_2 : ∃ (m : ak_Q) (q : vw_C), ak_M[52]? = some m ∧ ak_mok m ∧ vwCl[2]? = some q ∧ Cond.selects q.1 q_54.1 m.1 ∈ ak_Ts ∧ Cond.instanceMethod m.1 ∈ ak_Ts := ⟨q_52, (RX2, TX2, 0), rfl, mk_52, rfl, ak_wc_2 226 (by decide +kernel) (by decide +kernel), ak_wc_2 227 (by decide +kernel) (by decide +kernel)⟩
theorem rk_RX6_99_3 : ∃ (m : ak_Q) (q : vw_C), ak_M[54]? = some m ∧ ak_mok m ∧ vwCl[3]? = some q ∧ Cond.selects q.1 q_54.1 m.1 ∈ ak_Ts ∧ Cond.instanceMethod m.1 ∈ ak_Ts := ⟨q_54, (RX3, TX3, 0), rfl, mk_54, rfl, ak_wc_2 214 (by decide +kernel) (by decide +kernel), ak_wc_2 213 (by decide +kernel) (by decide +kernel)⟩
theorem rk_RX6_99_4 : ∃ (m : ak_Q) (q : vw_C), ak_M[53]? = some m ∧ ak_mok m ∧ vwCl[4]? = some q ∧ Cond.selects q.1 q_54.1 m.1 ∈ ak_Ts ∧ Cond.instanceMethod m.1 ∈ ak_Ts := ⟨q_53, (RX4, TX4, 0), rfl, mk_53, rfl, ak_wc_2 235 (by decide +kernel) (by decide +kernel), ak_wc_2 230 (by decide +kernel) (by decide +kernel)⟩
theorem rk_RX6_99_9 : ∃ (m : ak_Q) (q : vw_C), ak_M[51]? = some m ∧ ak_mok m ∧ vwCl[9]? = some q ∧ Cond.selects q.1 q_54.1 m.1 ∈ ak_Ts ∧ Cond.instanceMethod m.1 ∈ ak_Ts := ⟨q_51, (RX9, TX9, 0), rfl, mk_51, rfl, ak_wc_2 236 (by decide +kernel) (by decide +kernel), ak_wc_2 223 (by decide +kernel) (by decide +kernel)⟩
theorem rk_RX6_99 : ak_okr RX6 99 (10, 0, 4, 0) := ⟨q_54, mk_54, rfl, ak_wc_2 212 (by decide +kernel) (by decide +kernel), ak_wc_2 215 (by decide +kernel) (by decide +kernel), ak_wc_2 213 (by decide +kernel) (by decide +kernel), by decide +kernel, by
    intro c mi h
    match c, h with
    | 0, h => cases h; exact rk_RX6_99_0
    | 1, h => cases h; exact rk_RX6_99_1
    | 2, h => cases h; exact rk_RX6_99_2
    | 3, h => cases h; exact rk_RX6_99_3
    | 4, h => cases h; exact rk_RX6_99_4
    | 9, h => cases h; exact rk_RX6_99_9
    | 5, h => cases h
    | 6, h => cases h
    | 7, h => cases h
    | 8, h => cases h
    | c + 10, h => cases h⟩
theorem rk_RX6_103_0 : ∃ (m : ak_Q) (q : vw_C), ak_M[40]? = some m ∧ ak_mok m ∧ vwCl[0]? = some q ∧ Cond.selects q.1 q_45.1 m.1 ∈ ak_Ts ∧ Cond.instanceMethod m.1 ∈ ak_Ts := ⟨q_40, (RX0, TX0, 0), rfl, mk_40, rfl, ak_wc_2 175 (by decide +kernel) (by decide +kernel), ak_wc_2 176 (by decide +kernel) (by decide +kernel)⟩
theorem rk_RX6_103_1 : ∃ (m : ak_Q) (q : vw_C), ak_M[41]? = some m ∧ ak_mok m ∧ vwCl[1]? = some q ∧ Cond.selects q.1 q_45.1 m.1 ∈ ak_Ts ∧ Cond.instanceMethod m.1 ∈ ak_Ts := ⟨q_41, (RX1, TX1, 0), rfl, mk_41, rfl, ak_wc_2 178 (by decide +kernel) (by decide +kernel), ak_wc_2 179 (by decide +kernel) (by decide +kernel)⟩
theorem rk_RX6_103_2 : ∃ (m : ak_Q) (q : vw_C), ak_M[42]? = some m ∧ ak_mok m ∧ vwCl[2]? = some q ∧ Cond.selects q.1 q_45.1 m.1 ∈ ak_Ts ∧ Cond.instanceMethod m.1 ∈ ak_Ts := ⟨q_42, (RX2, TX2, 0), rfl, mk_42, rfl, ak_wc_2 181 (by decide +kernel) (by decide +kernel), ak_wc_2 182 (by decide +kernel) (by decide +kernel)⟩
theorem rk_RX6_103_3 : ∃ (m : ak_Q) (q : vw_C), ak_M[45]? = some m ∧ ak_mok m ∧ vwCl[3]? = some q ∧ Cond.selects q.1 q_45.1 m.1 ∈ ak_Ts ∧ Cond.instanceMethod m.1 ∈ ak_Ts := ⟨q_45, (RX3, TX3, 0), rfl, mk_45, rfl, ak_wc_2 173 (by decide +kernel) (by decide +kernel), ak_wc_2 172 (by decide +kernel) (by decide +kernel)⟩
theorem rk_RX6_103_4 : ∃ (m : ak_Q) (q : vw_C), ak_M[45]? = some m ∧ ak_mok m ∧ vwCl[4]? = some q ∧ Cond.selects q.1 q_45.1 m.1 ∈ ak_Ts ∧ Cond.instanceMethod m.1 ∈ ak_Ts := ⟨q_45, (RX4, TX4, 0), rfl, mk_45, rfl, ak_wc_2 187 (by decide +kernel) (by decide +kernel), ak_wc_2 172 (by decide +kernel) (by decide +kernel)⟩
theorem rk_RX6_103_9 : ∃ (m : ak_Q) (q : vw_C), ak_M[43]? = some m ∧ ak_mok m ∧ vwCl[9]? = some q ∧ Cond.selects q.1 q_45.1 m.1 ∈ ak_Ts ∧ Cond.instanceMethod m.1 ∈ ak_Ts := ⟨q_43, (RX9, TX9, 0), rfl, mk_43, rfl, ak_wc_2 188 (by decide +kernel) (by decide +kernel), ak_wc_2 189 (by decide +kernel) (by decide +kernel)⟩
theorem rk_RX6_103 : ak_okr RX6 103 (10, 2, 3, 0) := ⟨q_45, mk_45, rfl, ak_wc_2 171 (by decide +kernel) (by decide +kernel), ak_wc_2 174 (by decide +kernel) (by decide +kernel), ak_wc_2 172 (by decide +kernel) (by decide +kernel), by decide +kernel, by
    intro c mi h
    match c, h with
    | 0, h => cases h; exact rk_RX6_103_0
    | 1, h => cases h; exact rk_RX6_103_1
    | 2, h => cases h; exact rk_RX6_103_2
    | 3, h => cases h; exact rk_RX6_103_3
    | 4, h => cases h; exact rk_RX6_103_4
    | 9, h => cases h; exact rk_RX6_103_9
    | 5, h => cases h
    | 6, h => cases h
    | 7, h => cases h
    | 8, h => cases h
    | c + 10, h => cases h⟩
theorem rk_RX6_107 : ak_okr RX6 107 (8, 47, 2, 6) := ⟨q_47, (RX6, TX6, 5), rfl, mk_47, rfl, rfl, by decide +kernel, ak_wc_3 2 (by decide +kernel) (by decide +kernel), ak_wc_2 201 (by decide +kernel) (by decide +kernel), ak_wc_2 202 (by decide +kernel) (by decide +kernel)⟩
theorem rk_RX6_111 : ak_okr RX6 111 (8, 31, 2, 6) := ⟨q_31, (RX6, TX6, 5), rfl, mk_31, rfl, rfl, by decide +kernel, ak_wc_2 135 (by decide +kernel) (by decide +kernel), ak_wc_2 137 (by decide +kernel) (by decide +kernel), ak_w 2 (by decide +kernel) (by decide +kernel)⟩
theorem rk_RX6_115_0 : ∃ (m : ak_Q) (q : vw_C), ak_M[56]? = some m ∧ ak_mok m ∧ vwCl[0]? = some q ∧ Cond.selects q.1 q_60.1 m.1 ∈ ak_Ts ∧ Cond.instanceMethod m.1 ∈ ak_Ts := ⟨q_56, (RX0, TX0, 0), rfl, mk_56, rfl, ak_wc_3 7 (by decide +kernel) (by decide +kernel), ak_wc_3 8 (by decide +kernel) (by decide +kernel)⟩
theorem rk_RX6_115_1 : ∃ (m : ak_Q) (q : vw_C), ak_M[57]? = some m ∧ ak_mok m ∧ vwCl[1]? = some q ∧ Cond.selects q.1 q_60.1 m.1 ∈ ak_Ts ∧ Cond.instanceMethod m.1 ∈ ak_Ts := ⟨q_57, (RX1, TX1, 0), rfl, mk_57, rfl, ak_wc_3 11 (by decide +kernel) (by decide +kernel), ak_wc_3 12 (by decide +kernel) (by decide +kernel)⟩
theorem rk_RX6_115_2 : ∃ (m : ak_Q) (q : vw_C), ak_M[58]? = some m ∧ ak_mok m ∧ vwCl[2]? = some q ∧ Cond.selects q.1 q_60.1 m.1 ∈ ak_Ts ∧ Cond.instanceMethod m.1 ∈ ak_Ts := ⟨q_58, (RX2, TX2, 0), rfl, mk_58, rfl, ak_wc_3 14 (by decide +kernel) (by decide +kernel), ak_wc_3 15 (by decide +kernel) (by decide +kernel)⟩
theorem rk_RX6_115_3 : ∃ (m : ak_Q) (q : vw_C), ak_M[60]? = some m ∧ ak_mok m ∧ vwCl[3]? = some q ∧ Cond.selects q.1 q_60.1 m.1 ∈ ak_Ts ∧ Cond.instanceMethod m.1 ∈ ak_Ts := ⟨q_60, (RX3, TX3, 0), rfl, mk_60, rfl, ak_wc_3 5 (by decide +kernel) (by decide +kernel), ak_wc_3 4 (by decide +kernel) (by decide +kernel)⟩
theorem rk_RX6_115_4 : ∃ (m : ak_Q) (q : vw_C), ak_M[58]? = some m ∧ ak_mok m ∧ vwCl[4]? = some q ∧ Cond.selects q.1 q_60.1 m.1 ∈ ak_Ts ∧ Cond.instanceMethod m.1 ∈ ak_Ts := ⟨q_58, (RX4, TX4, 0), rfl, mk_58, rfl, ak_wc_3 17 (by decide +kernel) (by decide +kernel), ak_wc_3 15 (by decide +kernel) (by decide +kernel)⟩
theorem rk_RX6_115_9 : ∃ (m : ak_Q) (q : vw_C), ak_M[59]? = some m ∧ ak_mok m ∧ vwCl[9]? = some q ∧ Cond.selects q.1 q_60.1 m.1 ∈ ak_Ts ∧ Cond.instanceMethod m.1 ∈ ak_Ts := ⟨q_59, (RX9, TX9, 0), rfl, mk_59, rfl, ak_wc_3 18 (by decide +kernel) (by decide +kernel), ak_wc_3 19 (by decide +kernel) (by decide +kernel)⟩
theorem rk_RX6_115 : ak_okr RX6 115 (10, 1, 2, 0) := ⟨q_60, mk_60, rfl, ak_wc_3 3 (by decide +kernel) (by decide +kernel), ak_wc_3 6 (by decide +kernel) (by decide +kernel), ak_wc_3 4 (by decide +kernel) (by decide +kernel), by decide +kernel, by
    intro c mi h
    match c, h with
    | 0, h => cases h; exact rk_RX6_115_0
    | 1, h => cases h; exact rk_RX6_115_1
    | 2, h => cases h; exact rk_RX6_115_2
    | 3, h => cases h; exact rk_RX6_115_3
    | 4, h => cases h; exact rk_RX6_115_4
    | 9, h => cases h; exact rk_RX6_115_9
    | 5, h => cases h
    | 6, h => cases h
    | 7, h => cases h
    | 8, h => cases h
    | c + 10, h => cases h⟩
theorem rk_RX6_118 : ak_okr RX6 118 (1, 8, 10, 1) := ⟨(RX8, TX8, 12), rfl, by decide, ak_wc_1 62 (by decide +kernel) (by decide +kernel), by decide +kernel⟩
theorem rk_RX6_121 : ak_okr RX6 121 (8, 28, 2, 8) := ⟨q_28, (RX8, TX8, 12), rfl, mk_28, rfl, rfl, by decide +kernel, ak_wc_2 122 (by decide +kernel) (by decide +kernel), ak_wc_2 123 (by decide +kernel) (by decide +kernel), ak_wc_2 124 (by decide +kernel) (by decide +kernel)⟩
theorem rk_RX6_124 : ak_okr RX6 124 (8, 48, 3, 6) := ⟨q_48, (RX6, TX6, 5), rfl, mk_48, rfl, rfl, by decide +kernel, ak_wc_2 204 (by decide +kernel) (by decide +kernel), ak_wc_2 205 (by decide +kernel) (by decide +kernel), ak_wc_2 206 (by decide +kernel) (by decide +kernel)⟩
theorem rk_RX6_127 : ak_okr RX6 127 (8, 29, 3, 6) := ⟨q_29, (RX6, TX6, 5), rfl, mk_29, rfl, rfl, by decide +kernel, ak_wc_2 127 (by decide +kernel) (by decide +kernel), ak_wc_2 128 (by decide +kernel) (by decide +kernel), ak_wc_2 129 (by decide +kernel) (by decide +kernel)⟩
theorem rk_RX6_130 : ak_okr RX6 130 (8, 33, 2, 8) := ⟨q_33, (RX8, TX8, 12), rfl, mk_33, rfl, rfl, by decide +kernel, ak_wc_2 143 (by decide +kernel) (by decide +kernel), ak_wc_2 144 (by decide +kernel) (by decide +kernel), ak_wc_2 145 (by decide +kernel) (by decide +kernel)⟩
theorem rk_RX6_133 : ak_okr RX6 133 (1, 8, 7, 1) := ⟨(RX8, TX8, 12), rfl, by decide, ak_wc_1 52 (by decide +kernel) (by decide +kernel), by decide +kernel⟩
theorem rk_RX6_136 : ak_okr RX6 136 (1, 8, 9, 1) := ⟨(RX8, TX8, 12), rfl, by decide, ak_wc_1 56 (by decide +kernel) (by decide +kernel), by decide +kernel⟩
theorem rk_RX7_3 : ak_okr RX7 3 (16, 0, 0, 0) := ak_wc_2 19 (by decide +kernel) (by decide +kernel)
theorem rk_RX7_9 : ak_okr RX7 9 (1, 7, 0, 0) := ⟨(RX7, TX7, 3), rfl, by decide, ak_wc_2 20 (by decide +kernel) (by decide +kernel), by decide +kernel⟩
theorem rk_RX7_15 : ak_okr RX7 15 (1, 7, 2, 1) := ⟨(RX7, TX7, 3), rfl, by decide, ak_wc_2 24 (by decide +kernel) (by decide +kernel), by decide +kernel⟩
theorem rk_RX7_19 : ak_okr RX7 19 (19, 0, 0, 0) := ak_wc_4 169 (by decide +kernel) (by decide +kernel)
theorem rk_RX7_25 : ak_okr RX7 25 (20, 0, 0, 0) := ak_wc_4 170 (by decide +kernel) (by decide +kernel)
theorem rk_RX7_28 : ak_okr RX7 28 (1, 7, 1, 0) := ⟨(RX7, TX7, 3), rfl, by decide, ak_wc_2 22 (by decide +kernel) (by decide +kernel), by decide +kernel⟩
theorem rk_RX7_31 : ak_okr RX7 31 (8, 149, 2, 7) := ⟨q_149, (RX7, TX7, 3), rfl, mk_149, rfl, rfl, by decide +kernel, ak_wc_4 175 (by decide +kernel) (by decide +kernel), ak_wc_4 176 (by decide +kernel) (by decide +kernel), ak_wc_4 177 (by decide +kernel) (by decide +kernel)⟩
theorem rk_RX8_3 : ak_okr RX8 3 (16, 0, 0, 0) := ak_wc_1 34 (by decide +kernel) (by decide +kernel)
theorem rk_RX8_9 : ak_okr RX8 9 (1, 8, 1, 0) := ⟨(RX8, TX8, 12), rfl, by decide, ak_wc_1 37 (by decide +kernel) (by decide +kernel), by decide +kernel⟩
theorem rk_RX8_15 : ak_okr RX8 15 (1, 8, 5, 1) := ⟨(RX8, TX8, 12), rfl, by decide, ak_wc_1 45 (by decide +kernel) (by decide +kernel), by decide +kernel⟩
theorem rk_RX8_19 : ak_okr RX8 19 (1, 8, 6, 1) := ⟨(RX8, TX8, 12), rfl, by decide, ak_wc_1 48 (by decide +kernel) (by decide +kernel), by decide +kernel⟩
theorem rk_RX8_22 : ak_okr RX8 22 (1, 8, 7, 1) := ⟨(RX8, TX8, 12), rfl, by decide, ak_wc_1 51 (by decide +kernel) (by decide +kernel), by decide +kernel⟩
theorem rk_RX8_25 : ak_okr RX8 25 (1, 8, 8, 1) := ⟨(RX8, TX8, 12), rfl, by decide, ak_wc_1 53 (by decide +kernel) (by decide +kernel), by decide +kernel⟩
theorem rk_RX8_28 : ak_okr RX8 28 (1, 8, 9, 1) := ⟨(RX8, TX8, 12), rfl, by decide, ak_wc_1 55 (by decide +kernel) (by decide +kernel), by decide +kernel⟩
theorem rk_RX8_31 : ak_okr RX8 31 (1, 8, 10, 1) := ⟨(RX8, TX8, 12), rfl, by decide, ak_wc_1 59 (by decide +kernel) (by decide +kernel), by decide +kernel⟩
theorem rk_RX8_34 : ak_okr RX8 34 (1, 8, 11, 1) := ⟨(RX8, TX8, 12), rfl, by decide, ak_wc_1 63 (by decide +kernel) (by decide +kernel), by decide +kernel⟩
theorem rk_RX8_37 : ak_okr RX8 37 (1, 8, 0, 0) := ⟨(RX8, TX8, 12), rfl, by decide, ak_wc_1 35 (by decide +kernel) (by decide +kernel), by decide +kernel⟩
theorem rk_RX8_40 : ak_okr RX8 40 (1, 8, 2, 0) := ⟨(RX8, TX8, 12), rfl, by decide, ak_wc_1 38 (by decide +kernel) (by decide +kernel), by decide +kernel⟩
theorem rk_RX8_43 : ak_okr RX8 43 (1, 8, 3, 0) := ⟨(RX8, TX8, 12), rfl, by decide, ak_wc_1 39 (by decide +kernel) (by decide +kernel), by decide +kernel⟩
theorem rk_RX8_46 : ak_okr RX8 46 (1, 8, 4, 0) := ⟨(RX8, TX8, 12), rfl, by decide, ak_wc_1 42 (by decide +kernel) (by decide +kernel), by decide +kernel⟩
theorem rk_RX8_49 : ak_okr RX8 49 (8, 16, 1, 8) := ⟨q_16, (RX8, TX8, 12), rfl, mk_16, rfl, rfl, by decide +kernel, ak_wc_2 69 (by decide +kernel) (by decide +kernel), ak_wc_2 70 (by decide +kernel) (by decide +kernel), ak_wc_2 71 (by decide +kernel) (by decide +kernel)⟩
theorem rk_RX8_53 : ak_okr RX8 53 (3, 0, 0, 0) := ⟨_, rfl, ak_wc_2 77 (by decide +kernel) (by decide +kernel)⟩
theorem rk_RX8_56 : ak_okr RX8 56 (3, 1, 0, 0) := ⟨_, rfl, ak_wc_2 79 (by decide +kernel) (by decide +kernel)⟩
theorem rk_RX8_59 : ak_okr RX8 59 (8, 19, 1, 8) := ⟨q_19, (RX8, TX8, 12), rfl, mk_19, rfl, rfl, by decide +kernel, ak_wc_2 85 (by decide +kernel) (by decide +kernel), ak_wc_2 87 (by decide +kernel) (by decide +kernel), ak_w 0 (by decide +kernel) (by decide +kernel)⟩
theorem rk_RX8_63 : ak_okr RX8 63 (8, 23, 3, 8) := ⟨q_23, (RX8, TX8, 12), rfl, mk_23, rfl, rfl, by decide +kernel, ak_wc_2 101 (by decide +kernel) (by decide +kernel), ak_wc_2 102 (by decide +kernel) (by decide +kernel), ak_wc_2 103 (by decide +kernel) (by decide +kernel)⟩
theorem rk_RX8_67 : ak_okr RX8 67 (12, 26, 1, 0) := ⟨q_26, rfl, mk_26, by decide +kernel, by decide +kernel, ak_wc_2 116 (by decide +kernel) (by decide +kernel)⟩
theorem rk_RX8_70 : ak_okr RX8 70 (11, 101, 1, 0) := ⟨q_101, rfl, mk_101, by decide +kernel, ak_wc_3 206 (by decide +kernel) (by decide +kernel), ak_wc_3 207 (by decide +kernel) (by decide +kernel)⟩
theorem rk_RX8_76 : ak_okr RX8 76 (19, 0, 0, 0) := ak_wc_3 212 (by decide +kernel) (by decide +kernel)
theorem rk_RX9_1 : ak_okr RX9 1 (14, 3, 0, 3) := ⟨q_3, (RX3, TX3, 0), rfl, mk_3, rfl, rfl, rfl, rfl, by decide +kernel, ak_wc_1 119 (by decide +kernel) (by decide +kernel), ak_wc_1 103 (by decide +kernel) (by decide +kernel)⟩
theorem rk_RX9_7 : ak_okr RX9 7 (15, 54, 4, 0) := ⟨q_54, rfl, mk_54, by decide +kernel, by decide, ak_wc_2 225 (by decide +kernel) (by decide +kernel), ak_wc_2 215 (by decide +kernel) (by decide +kernel), ak_wc_1 120 (by decide +kernel) (by decide +kernel), ak_wc_2 213 (by decide +kernel) (by decide +kernel)⟩
theorem rk_RX9_11 : ak_okr RX9 11 (13, 44, 1, 0) := ⟨q_44, rfl, mk_44, by decide +kernel, ak_wc_2 191 (by decide +kernel) (by decide +kernel), ak_wc_2 192 (by decide +kernel) (by decide +kernel), ak_wc_2 193 (by decide +kernel) (by decide +kernel)⟩
theorem rk_RX10_3 : ak_okr RX10 3 (16, 0, 0, 0) := ak_wc_1 146 (by decide +kernel) (by decide +kernel)
theorem rk_RX10_9 : ak_okr RX10 9 (1, 10, 0, 1) := ⟨(RX10, TX10, 12), rfl, by decide, ak_wc_1 147 (by decide +kernel) (by decide +kernel), by decide +kernel⟩
theorem rk_RX10_15 : ak_okr RX10 15 (1, 10, 1, 1) := ⟨(RX10, TX10, 12), rfl, by decide, ak_wc_1 148 (by decide +kernel) (by decide +kernel), by decide +kernel⟩
theorem rk_RX10_18 : ak_okr RX10 18 (1, 10, 4, 1) := ⟨(RX10, TX10, 12), rfl, by decide, ak_wc_1 151 (by decide +kernel) (by decide +kernel), by decide +kernel⟩
theorem rk_RX10_21 : ak_okr RX10 21 (1, 10, 2, 0) := ⟨(RX10, TX10, 12), rfl, by decide, ak_wc_1 149 (by decide +kernel) (by decide +kernel), by decide +kernel⟩
theorem rk_RX10_25 : ak_okr RX10 25 (8, 10, 1, 10) := ⟨q_10, (RX10, TX10, 12), rfl, mk_10, rfl, rfl, by decide +kernel, ak_wc_3 178 (by decide +kernel) (by decide +kernel), ak_wc_1 185 (by decide +kernel) (by decide +kernel), ak_wc_1 186 (by decide +kernel) (by decide +kernel)⟩
theorem rk_RX10_29 : ak_okr RX10 29 (1, 10, 3, 0) := ⟨(RX10, TX10, 12), rfl, by decide, ak_wc_1 150 (by decide +kernel) (by decide +kernel), by decide +kernel⟩
theorem rk_RX10_32 : ak_okr RX10 32 (19, 0, 0, 0) := ak_wc_2 155 (by decide +kernel) (by decide +kernel)
theorem rk_RX10_38 : ak_okr RX10 38 (11, 36, 2, 0) := ⟨q_36, rfl, mk_36, by decide +kernel, ak_wc_2 158 (by decide +kernel) (by decide +kernel), ak_wc_2 159 (by decide +kernel) (by decide +kernel)⟩
theorem rk_RX10_42 : ak_okr RX10 42 (11, 37, 2, 0) := ⟨q_37, rfl, mk_37, by decide +kernel, ak_wc_2 161 (by decide +kernel) (by decide +kernel), ak_wc_2 162 (by decide +kernel) (by decide +kernel)⟩
theorem rk_RX10_45 : ak_okr RX10 45 (11, 38, 3, 0) := ⟨q_38, rfl, mk_38, by decide +kernel, ak_wc_2 164 (by decide +kernel) (by decide +kernel), ak_wc_2 165 (by decide +kernel) (by decide +kernel)⟩
theorem rk_RX10_49 : ak_okr RX10 49 (20, 0, 0, 0) := ak_wc_3 41 (by decide +kernel) (by decide +kernel)
theorem rk_RX10_52 : ak_okr RX10 52 (1, 10, 5, 0) := ⟨(RX10, TX10, 12), rfl, by decide, ak_wc_1 152 (by decide +kernel) (by decide +kernel), by decide +kernel⟩
theorem rk_RX10_55 : ak_okr RX10 55 (1, 10, 6, 0) := ⟨(RX10, TX10, 12), rfl, by decide, ak_wc_1 153 (by decide +kernel) (by decide +kernel), by decide +kernel⟩
theorem rk_RX10_58 : ak_okr RX10 58 (1, 10, 10, 0) := ⟨(RX10, TX10, 12), rfl, by decide, ak_wc_1 157 (by decide +kernel) (by decide +kernel), by decide +kernel⟩
theorem rk_RX10_61 : ak_okr RX10 61 (1, 10, 11, 0) := ⟨(RX10, TX10, 12), rfl, by decide, ak_wc_1 158 (by decide +kernel) (by decide +kernel), by decide +kernel⟩
theorem rk_RX10_64 : ak_okr RX10 64 (8, 65, 0, 10) := ⟨q_65, (RX10, TX10, 12), rfl, mk_65, rfl, rfl, by decide +kernel, ak_wc_3 42 (by decide +kernel) (by decide +kernel), ak_wc_3 44 (by decide +kernel) (by decide +kernel), ak_w 5 (by decide +kernel) (by decide +kernel)⟩
theorem rk_RX10_67 : ak_okr RX10 67 (8, 87, 1, 10) := ⟨q_87, (RX10, TX10, 12), rfl, mk_87, rfl, rfl, by decide +kernel, ak_wc_3 146 (by decide +kernel) (by decide +kernel), ak_wc_3 148 (by decide +kernel) (by decide +kernel), ak_w 16 (by decide +kernel) (by decide +kernel)⟩
theorem rk_RX10_70 : ak_okr RX10 70 (8, 88, 0, 10) := ⟨q_88, (RX10, TX10, 12), rfl, mk_88, rfl, rfl, by decide +kernel, ak_wc_3 150 (by decide +kernel) (by decide +kernel), ak_wc_3 152 (by decide +kernel) (by decide +kernel), ak_w 17 (by decide +kernel) (by decide +kernel)⟩
theorem rk_RX10_73 : ak_okr RX10 73 (8, 11, 0, 10) := ⟨q_11, (RX10, TX10, 12), rfl, mk_11, rfl, rfl, by decide +kernel, ak_wc_3 187 (by decide +kernel) (by decide +kernel), ak_wc_1 189 (by decide +kernel) (by decide +kernel), ak_wc_1 190 (by decide +kernel) (by decide +kernel)⟩
theorem rk_RX10_76 : ak_okr RX10 76 (1, 10, 8, 0) := ⟨(RX10, TX10, 12), rfl, by decide, ak_wc_1 155 (by decide +kernel) (by decide +kernel), by decide +kernel⟩
theorem rk_RX10_79 : ak_okr RX10 79 (8, 83, 0, 10) := ⟨q_83, (RX10, TX10, 12), rfl, mk_83, rfl, rfl, by decide +kernel, ak_wc_3 130 (by decide +kernel) (by decide +kernel), ak_wc_3 132 (by decide +kernel) (by decide +kernel), ak_w 12 (by decide +kernel) (by decide +kernel)⟩
theorem rk_RX10_82 : ak_okr RX10 82 (8, 89, 0, 10) := ⟨q_89, (RX10, TX10, 12), rfl, mk_89, rfl, rfl, by decide +kernel, ak_wc_3 154 (by decide +kernel) (by decide +kernel), ak_wc_3 156 (by decide +kernel) (by decide +kernel), ak_w 18 (by decide +kernel) (by decide +kernel)⟩
theorem rk_RX10_85 : ak_okr RX10 85 (8, 90, 0, 10) := ⟨q_90, (RX10, TX10, 12), rfl, mk_90, rfl, rfl, by decide +kernel, ak_wc_3 158 (by decide +kernel) (by decide +kernel), ak_wc_3 160 (by decide +kernel) (by decide +kernel), ak_w 19 (by decide +kernel) (by decide +kernel)⟩
theorem rk_RX10_88 : ak_okr RX10 88 (8, 91, 0, 10) := ⟨q_91, (RX10, TX10, 12), rfl, mk_91, rfl, rfl, by decide +kernel, ak_wc_3 162 (by decide +kernel) (by decide +kernel), ak_wc_3 164 (by decide +kernel) (by decide +kernel), ak_w 20 (by decide +kernel) (by decide +kernel)⟩
theorem rk_RX10_91 : ak_okr RX10 91 (8, 96, 0, 10) := ⟨q_96, (RX10, TX10, 12), rfl, mk_96, rfl, rfl, by decide +kernel, ak_wc_3 183 (by decide +kernel) (by decide +kernel), ak_wc_3 185 (by decide +kernel) (by decide +kernel), ak_w 24 (by decide +kernel) (by decide +kernel)⟩
theorem rk_RX10_95 : ak_okr RX10 95 (8, 92, 0, 10) := ⟨q_92, (RX10, TX10, 12), rfl, mk_92, rfl, rfl, by decide +kernel, ak_wc_3 166 (by decide +kernel) (by decide +kernel), ak_wc_3 168 (by decide +kernel) (by decide +kernel), ak_w 21 (by decide +kernel) (by decide +kernel)⟩
theorem rk_RX10_98 : ak_okr RX10 98 (8, 93, 0, 10) := ⟨q_93, (RX10, TX10, 12), rfl, mk_93, rfl, rfl, by decide +kernel, ak_wc_3 170 (by decide +kernel) (by decide +kernel), ak_wc_3 172 (by decide +kernel) (by decide +kernel), ak_w 22 (by decide +kernel) (by decide +kernel)⟩
theorem rk_RX10_101 : ak_okr RX10 101 (8, 94, 0, 10) := ⟨q_94, (RX10, TX10, 12), rfl, mk_94, rfl, rfl, by decide +kernel, ak_wc_3 174 (by decide +kernel) (by decide +kernel), ak_wc_3 176 (by decide +kernel) (by decide +kernel), ak_w 23 (by decide +kernel) (by decide +kernel)⟩
theorem rk_RX10_104 : ak_okr RX10 104 (1, 10, 9, 0) := ⟨(RX10, TX10, 12), rfl, by decide, ak_wc_1 156 (by decide +kernel) (by decide +kernel), by decide +kernel⟩
theorem rk_RX10_107 : ak_okr RX10 107 (8, 95, 1, 10) := ⟨q_95, (RX10, TX10, 12), rfl, mk_95, rfl, rfl, by decide +kernel, ak_wc_3 179 (by decide +kernel) (by decide +kernel), ak_wc_3 180 (by decide +kernel) (by decide +kernel), ak_wc_3 181 (by decide +kernel) (by decide +kernel)⟩
theorem rk_RX10_110 : ak_okr RX10 110 (1, 10, 7, 0) := ⟨(RX10, TX10, 12), rfl, by decide, ak_wc_1 154 (by decide +kernel) (by decide +kernel), by decide +kernel⟩
theorem rk_RX10_113 : ak_okr RX10 113 (8, 66, 1, 10) := ⟨q_66, (RX10, TX10, 12), rfl, mk_66, rfl, rfl, by decide +kernel, ak_wc_3 46 (by decide +kernel) (by decide +kernel), ak_wc_3 48 (by decide +kernel) (by decide +kernel), ak_w 6 (by decide +kernel) (by decide +kernel)⟩
theorem rk_RX10_117 : ak_okr RX10 117 (8, 67, 1, 10) := ⟨q_67, (RX10, TX10, 12), rfl, mk_67, rfl, rfl, by decide +kernel, ak_wc_3 50 (by decide +kernel) (by decide +kernel), ak_wc_3 52 (by decide +kernel) (by decide +kernel), ak_w 7 (by decide +kernel) (by decide +kernel)⟩
theorem rk_RX10_120 : ak_okr RX10 120 (8, 68, 0, 10) := ⟨q_68, (RX10, TX10, 12), rfl, mk_68, rfl, rfl, by decide +kernel, ak_wc_3 54 (by decide +kernel) (by decide +kernel), ak_wc_3 56 (by decide +kernel) (by decide +kernel), ak_w 8 (by decide +kernel) (by decide +kernel)⟩
theorem rk_RX10_123 : ak_okr RX10 123 (8, 84, 1, 10) := ⟨q_84, (RX10, TX10, 12), rfl, mk_84, rfl, rfl, by decide +kernel, ak_wc_3 134 (by decide +kernel) (by decide +kernel), ak_wc_3 136 (by decide +kernel) (by decide +kernel), ak_w 13 (by decide +kernel) (by decide +kernel)⟩
theorem rk_RX10_126 : ak_okr RX10 126 (8, 85, 0, 10) := ⟨q_85, (RX10, TX10, 12), rfl, mk_85, rfl, rfl, by decide +kernel, ak_wc_3 138 (by decide +kernel) (by decide +kernel), ak_wc_3 140 (by decide +kernel) (by decide +kernel), ak_w 14 (by decide +kernel) (by decide +kernel)⟩
theorem rk_RX10_129 : ak_okr RX10 129 (8, 86, 1, 10) := ⟨q_86, (RX10, TX10, 12), rfl, mk_86, rfl, rfl, by decide +kernel, ak_wc_3 142 (by decide +kernel) (by decide +kernel), ak_wc_3 144 (by decide +kernel) (by decide +kernel), ak_w 15 (by decide +kernel) (by decide +kernel)⟩
theorem rk_RX10_132 : ak_okr RX10 132 (8, 69, 0, 10) := ⟨q_69, (RX10, TX10, 12), rfl, mk_69, rfl, rfl, by decide +kernel, ak_wc_3 58 (by decide +kernel) (by decide +kernel), ak_wc_3 60 (by decide +kernel) (by decide +kernel), ak_w 9 (by decide +kernel) (by decide +kernel)⟩
theorem rk_RX10_136 : ak_okr RX10 136 (8, 82, 0, 10) := ⟨q_82, (RX10, TX10, 12), rfl, mk_82, rfl, rfl, by decide +kernel, ak_wc_3 120 (by decide +kernel) (by decide +kernel), ak_wc_3 122 (by decide +kernel) (by decide +kernel), ak_w 11 (by decide +kernel) (by decide +kernel)⟩
theorem rk_RX10_139 : ak_okr RX10 139 (5, 0, 0, 0) := ⟨rfl, _, rfl⟩
theorem rk_RX10_141 : ak_okr RX10 141 (8, 70, 1, 10) := ⟨q_70, (RX10, TX10, 12), rfl, mk_70, rfl, rfl, by decide +kernel, ak_wc_3 63 (by decide +kernel) (by decide +kernel), ak_wc_3 65 (by decide +kernel) (by decide +kernel), ak_w 10 (by decide +kernel) (by decide +kernel)⟩
theorem rk_RX10_145 : ak_okr RX10 145 (5, 1, 0, 0) := ⟨rfl, _, rfl⟩
theorem rk_RX10_147 : ak_okr RX10 147 (5, 2, 0, 0) := ⟨rfl, _, rfl⟩
theorem rk_RX10_149 : ak_okr RX10 149 (5, 3, 0, 0) := ⟨rfl, _, rfl⟩
theorem rk_RX10_151 : ak_okr RX10 151 (5, 4, 0, 0) := ⟨rfl, _, rfl⟩
theorem rk_RX10_153 : ak_okr RX10 153 (5, 5, 0, 0) := ⟨rfl, _, rfl⟩
theorem rk_RX10_155 : ak_okr RX10 155 (5, 6, 0, 0) := ⟨rfl, _, rfl⟩
theorem rk_RX10_157 : ak_okr RX10 157 (5, 7, 0, 0) := ⟨rfl, _, rfl⟩
theorem rk_RX10_159 : ak_okr RX10 159 (5, 8, 0, 0) := ⟨rfl, _, rfl⟩
theorem rk_RX10_161 : ak_okr RX10 161 (5, 9, 0, 0) := ⟨rfl, _, rfl⟩
theorem rk_RX10_163 : ak_okr RX10 163 (5, 10, 0, 0) := ⟨rfl, _, rfl⟩
theorem rk_RX10_165 : ak_okr RX10 165 (5, 11, 0, 0) := ⟨rfl, _, rfl⟩
theorem rk_RX10_167 : ak_okr RX10 167 (9, 71, 0, 0) := ⟨q_71, rfl, mk_71, rfl, by decide +kernel, ak_wc_3 67 (by decide +kernel) (by decide +kernel), ak_wc_3 68 (by decide +kernel) (by decide +kernel), ak_wc_3 69 (by decide +kernel) (by decide +kernel)⟩
theorem rk_RX10_171 : ak_okr RX10 171 (9, 73, 1, 0) := ⟨q_73, rfl, mk_73, rfl, by decide +kernel, ak_wc_3 77 (by decide +kernel) (by decide +kernel), ak_wc_3 78 (by decide +kernel) (by decide +kernel), ak_wc_3 79 (by decide +kernel) (by decide +kernel)⟩
theorem rk_RL_7 : ak_okr RL 7 (7, 11, 0, 0) := ⟨(RX11, TX11, 9), rfl, ak_wc_1 21 (by decide +kernel) (by decide +kernel)⟩
theorem rk_RL_9 : ak_okr RL 9 (14, 0, 0, 11) := ⟨q_0, (RX11, TX11, 9), rfl, mk_0, rfl, rfl, rfl, rfl, by decide +kernel, ak_wc_1 23 (by decide +kernel) (by decide +kernel), ak_wc_1 24 (by decide +kernel) (by decide +kernel)⟩
theorem rk_RL_10 : ak_okr RL 10 (7, 12, 0, 0) := ⟨(RX12, TX12, 44), rfl, ak_wc_5 8 (by decide +kernel) (by decide +kernel)⟩
theorem rk_RL_12 : ak_okr RL 12 (14, 166, 0, 12) := ⟨q_166, (RX12, TX12, 44), rfl, mk_166, rfl, rfl, rfl, rfl, by decide +kernel, ak_wc_5 10 (by decide +kernel) (by decide +kernel), ak_wc_5 11 (by decide +kernel) (by decide +kernel)⟩
theorem rk_RL_13 : ak_okr RL 13 (8, 14, 3, 11) := ⟨q_14, (RX11, TX11, 9), rfl, mk_14, rfl, rfl, by decide +kernel, ak_wc_2 61 (by decide +kernel) (by decide +kernel), ak_wc_2 62 (by decide +kernel) (by decide +kernel), ak_wc_2 63 (by decide +kernel) (by decide +kernel)⟩
theorem rk_RL_17 : ak_okr RL 17 (8, 168, 3, 12) := ⟨q_168, (RX12, TX12, 44), rfl, mk_168, rfl, rfl, by decide +kernel, ak_wc_5 150 (by decide +kernel) (by decide +kernel), ak_wc_5 151 (by decide +kernel) (by decide +kernel), ak_wc_5 152 (by decide +kernel) (by decide +kernel)⟩
theorem rk_RL_18 : ak_okr RL 18 (8, 21, 3, 11) := ⟨q_21, (RX11, TX11, 9), rfl, mk_21, rfl, rfl, by decide +kernel, ak_wc_2 93 (by decide +kernel) (by decide +kernel), ak_wc_2 94 (by decide +kernel) (by decide +kernel), ak_wc_2 95 (by decide +kernel) (by decide +kernel)⟩
theorem rk_RL_21 : ak_okr RL 21 (8, 198, 3, 12) := ⟨q_198, (RX12, TX12, 44), rfl, mk_198, rfl, rfl, by decide +kernel, ak_wc_6 41 (by decide +kernel) (by decide +kernel), ak_wc_6 42 (by decide +kernel) (by decide +kernel), ak_wc_6 43 (by decide +kernel) (by decide +kernel)⟩
theorem rk_RL_22 : ak_okr RL 22 (8, 24, 3, 11) := ⟨q_24, (RX11, TX11, 9), rfl, mk_24, rfl, rfl, by decide +kernel, ak_wc_2 105 (by decide +kernel) (by decide +kernel), ak_wc_2 106 (by decide +kernel) (by decide +kernel), ak_wc_2 107 (by decide +kernel) (by decide +kernel)⟩
theorem rk_RL_25 : ak_okr RL 25 (8, 200, 3, 12) := ⟨q_200, (RX12, TX12, 44), rfl, mk_200, rfl, rfl, by decide +kernel, ak_wc_6 51 (by decide +kernel) (by decide +kernel), ak_wc_6 52 (by decide +kernel) (by decide +kernel), ak_wc_6 53 (by decide +kernel) (by decide +kernel)⟩
theorem rk_RL_26 : ak_okr RL 26 (8, 25, 2, 11) := ⟨q_25, (RX11, TX11, 9), rfl, mk_25, rfl, rfl, by decide +kernel, ak_wc_2 111 (by decide +kernel) (by decide +kernel), ak_wc_2 112 (by decide +kernel) (by decide +kernel), ak_wc_2 113 (by decide +kernel) (by decide +kernel)⟩
theorem rk_RL_30 : ak_okr RL 30 (8, 201, 2, 12) := ⟨q_201, (RX12, TX12, 44), rfl, mk_201, rfl, rfl, by decide +kernel, ak_wc_6 55 (by decide +kernel) (by decide +kernel), ak_wc_6 56 (by decide +kernel) (by decide +kernel), ak_wc_6 57 (by decide +kernel) (by decide +kernel)⟩
theorem rk_RL_31 : ak_okr RL 31 (8, 46, 2, 11) := ⟨q_46, (RX11, TX11, 9), rfl, mk_46, rfl, rfl, by decide +kernel, ak_wc_2 196 (by decide +kernel) (by decide +kernel), ak_wc_2 197 (by decide +kernel) (by decide +kernel), ak_wc_2 198 (by decide +kernel) (by decide +kernel)⟩
theorem rk_RL_34 : ak_okr RL 34 (8, 172, 2, 12) := ⟨q_172, (RX12, TX12, 44), rfl, mk_172, rfl, rfl, by decide +kernel, ak_wc_6 67 (by decide +kernel) (by decide +kernel), ak_wc_5 166 (by decide +kernel) (by decide +kernel), ak_wc_5 167 (by decide +kernel) (by decide +kernel)⟩
theorem rk_RL_35 : ak_okr RL 35 (8, 62, 1, 11) := ⟨q_62, (RX11, TX11, 9), rfl, mk_62, rfl, rfl, by decide +kernel, ak_wc_3 28 (by decide +kernel) (by decide +kernel), ak_wc_3 29 (by decide +kernel) (by decide +kernel), ak_wc_3 30 (by decide +kernel) (by decide +kernel)⟩
theorem rk_RL_39 : ak_okr RL 39 (8, 204, 1, 12) := ⟨q_204, (RX12, TX12, 44), rfl, mk_204, rfl, rfl, by decide +kernel, ak_wc_6 68 (by decide +kernel) (by decide +kernel), ak_wc_6 69 (by decide +kernel) (by decide +kernel), ak_wc_6 70 (by decide +kernel) (by decide +kernel)⟩
theorem rk_RL_40 : ak_okr RL 40 (8, 63, 0, 11) := ⟨q_63, (RX11, TX11, 9), rfl, mk_63, rfl, rfl, by decide +kernel, ak_wc_3 32 (by decide +kernel) (by decide +kernel), ak_wc_3 33 (by decide +kernel) (by decide +kernel), ak_wc_3 34 (by decide +kernel) (by decide +kernel)⟩
theorem rk_RL_44 : ak_okr RL 44 (8, 205, 0, 12) := ⟨q_205, (RX12, TX12, 44), rfl, mk_205, rfl, rfl, by decide +kernel, ak_wc_6 73 (by decide +kernel) (by decide +kernel), ak_wc_6 74 (by decide +kernel) (by decide +kernel), ak_wc_6 75 (by decide +kernel) (by decide +kernel)⟩
theorem rk_RL_45 : ak_okr RL 45 (8, 97, 1, 11) := ⟨q_97, (RX11, TX11, 9), rfl, mk_97, rfl, rfl, by decide +kernel, ak_wc_3 189 (by decide +kernel) (by decide +kernel), ak_wc_3 190 (by decide +kernel) (by decide +kernel), ak_wc_3 191 (by decide +kernel) (by decide +kernel)⟩
theorem rk_RL_48 : ak_okr RL 48 (8, 206, 1, 12) := ⟨q_206, (RX12, TX12, 44), rfl, mk_206, rfl, rfl, by decide +kernel, ak_wc_6 77 (by decide +kernel) (by decide +kernel), ak_wc_6 78 (by decide +kernel) (by decide +kernel), ak_wc_6 79 (by decide +kernel) (by decide +kernel)⟩
theorem rk_RL_49 : ak_okr RL 49 (8, 98, 1, 11) := ⟨q_98, (RX11, TX11, 9), rfl, mk_98, rfl, rfl, by decide +kernel, ak_wc_3 193 (by decide +kernel) (by decide +kernel), ak_wc_3 194 (by decide +kernel) (by decide +kernel), ak_wc_3 195 (by decide +kernel) (by decide +kernel)⟩
theorem rk_RL_52 : ak_okr RL 52 (8, 207, 1, 12) := ⟨q_207, (RX12, TX12, 44), rfl, mk_207, rfl, rfl, by decide +kernel, ak_wc_6 81 (by decide +kernel) (by decide +kernel), ak_wc_6 82 (by decide +kernel) (by decide +kernel), ak_wc_6 83 (by decide +kernel) (by decide +kernel)⟩
theorem rk_RL_53 : ak_okr RL 53 (8, 110, 0, 11) := ⟨q_110, (RX11, TX11, 9), rfl, mk_110, rfl, rfl, by decide +kernel, ak_wc_4 11 (by decide +kernel) (by decide +kernel), ak_wc_4 12 (by decide +kernel) (by decide +kernel), ak_wc_4 13 (by decide +kernel) (by decide +kernel)⟩
theorem rk_RL_56 : ak_okr RL 56 (8, 216, 0, 12) := ⟨q_216, (RX12, TX12, 44), rfl, mk_216, rfl, rfl, by decide +kernel, ak_wc_6 119 (by decide +kernel) (by decide +kernel), ak_wc_6 120 (by decide +kernel) (by decide +kernel), ak_wc_6 121 (by decide +kernel) (by decide +kernel)⟩
theorem rk_RL_57 : ak_okr RL 57 (8, 112, 1, 11) := ⟨q_112, (RX11, TX11, 9), rfl, mk_112, rfl, rfl, by decide +kernel, ak_wc_4 20 (by decide +kernel) (by decide +kernel), ak_wc_4 21 (by decide +kernel) (by decide +kernel), ak_wc_4 22 (by decide +kernel) (by decide +kernel)⟩
theorem rk_RL_60 : ak_okr RL 60 (8, 217, 1, 12) := ⟨q_217, (RX12, TX12, 44), rfl, mk_217, rfl, rfl, by decide +kernel, ak_wc_6 123 (by decide +kernel) (by decide +kernel), ak_wc_6 124 (by decide +kernel) (by decide +kernel), ak_wc_6 125 (by decide +kernel) (by decide +kernel)⟩
theorem rk_RL_61 : ak_okr RL 61 (8, 122, 1, 11) := ⟨q_122, (RX11, TX11, 9), rfl, mk_122, rfl, rfl, by decide +kernel, ak_wc_4 63 (by decide +kernel) (by decide +kernel), ak_wc_4 64 (by decide +kernel) (by decide +kernel), ak_wc_4 65 (by decide +kernel) (by decide +kernel)⟩
theorem rk_RL_64 : ak_okr RL 64 (8, 221, 1, 12) := ⟨q_221, (RX12, TX12, 44), rfl, mk_221, rfl, rfl, by decide +kernel, ak_wc_6 139 (by decide +kernel) (by decide +kernel), ak_wc_6 140 (by decide +kernel) (by decide +kernel), ak_wc_6 141 (by decide +kernel) (by decide +kernel)⟩
theorem rk_RL_65 : ak_okr RL 65 (8, 127, 1, 11) := ⟨q_127, (RX11, TX11, 9), rfl, mk_127, rfl, rfl, by decide +kernel, ak_wc_4 84 (by decide +kernel) (by decide +kernel), ak_wc_4 85 (by decide +kernel) (by decide +kernel), ak_wc_4 86 (by decide +kernel) (by decide +kernel)⟩
theorem rk_RL_68 : ak_okr RL 68 (8, 227, 1, 12) := ⟨q_227, (RX12, TX12, 44), rfl, mk_227, rfl, rfl, by decide +kernel, ak_wc_6 163 (by decide +kernel) (by decide +kernel), ak_wc_6 164 (by decide +kernel) (by decide +kernel), ak_wc_6 165 (by decide +kernel) (by decide +kernel)⟩
theorem rk_RL_69 : ak_okr RL 69 (8, 130, 2, 11) := ⟨q_130, (RX11, TX11, 9), rfl, mk_130, rfl, rfl, by decide +kernel, ak_wc_4 98 (by decide +kernel) (by decide +kernel), ak_wc_4 99 (by decide +kernel) (by decide +kernel), ak_wc_4 100 (by decide +kernel) (by decide +kernel)⟩
theorem rk_RL_72 : ak_okr RL 72 (8, 228, 2, 12) := ⟨q_228, (RX12, TX12, 44), rfl, mk_228, rfl, rfl, by decide +kernel, ak_wc_6 167 (by decide +kernel) (by decide +kernel), ak_wc_6 168 (by decide +kernel) (by decide +kernel), ak_wc_6 169 (by decide +kernel) (by decide +kernel)⟩
theorem rk_RL_73 : ak_okr RL 73 (8, 133, 0, 11) := ⟨q_133, (RX11, TX11, 9), rfl, mk_133, rfl, rfl, by decide +kernel, ak_wc_4 110 (by decide +kernel) (by decide +kernel), ak_wc_4 111 (by decide +kernel) (by decide +kernel), ak_wc_4 112 (by decide +kernel) (by decide +kernel)⟩
theorem rk_RL_76 : ak_okr RL 76 (8, 226, 0, 12) := ⟨q_226, (RX12, TX12, 44), rfl, mk_226, rfl, rfl, by decide +kernel, ak_wc_6 159 (by decide +kernel) (by decide +kernel), ak_wc_6 160 (by decide +kernel) (by decide +kernel), ak_wc_6 161 (by decide +kernel) (by decide +kernel)⟩
theorem rk_RL_77 : ak_okr RL 77 (8, 135, 3, 11) := ⟨q_135, (RX11, TX11, 9), rfl, mk_135, rfl, rfl, by decide +kernel, ak_wc_4 118 (by decide +kernel) (by decide +kernel), ak_wc_4 119 (by decide +kernel) (by decide +kernel), ak_wc_4 120 (by decide +kernel) (by decide +kernel)⟩
theorem rk_RL_80 : ak_okr RL 80 (8, 229, 3, 12) := ⟨q_229, (RX12, TX12, 44), rfl, mk_229, rfl, rfl, by decide +kernel, ak_wc_6 171 (by decide +kernel) (by decide +kernel), ak_wc_6 172 (by decide +kernel) (by decide +kernel), ak_wc_6 173 (by decide +kernel) (by decide +kernel)⟩
theorem rk_RL_81 : ak_okr RL 81 (8, 146, 2, 11) := ⟨q_146, (RX11, TX11, 9), rfl, mk_146, rfl, rfl, by decide +kernel, ak_wc_4 161 (by decide +kernel) (by decide +kernel), ak_wc_4 162 (by decide +kernel) (by decide +kernel), ak_wc_4 163 (by decide +kernel) (by decide +kernel)⟩
theorem rk_RL_84 : ak_okr RL 84 (8, 232, 2, 12) := ⟨q_232, (RX12, TX12, 44), rfl, mk_232, rfl, rfl, by decide +kernel, ak_wc_6 182 (by decide +kernel) (by decide +kernel), ak_wc_6 183 (by decide +kernel) (by decide +kernel), ak_wc_6 184 (by decide +kernel) (by decide +kernel)⟩
theorem rk_RL_85 : ak_okr RL 85 (8, 150, 1, 11) := ⟨q_150, (RX11, TX11, 9), rfl, mk_150, rfl, rfl, by decide +kernel, ak_wc_4 179 (by decide +kernel) (by decide +kernel), ak_wc_4 180 (by decide +kernel) (by decide +kernel), ak_wc_4 181 (by decide +kernel) (by decide +kernel)⟩
theorem rk_RL_88 : ak_okr RL 88 (8, 234, 1, 12) := ⟨q_234, (RX12, TX12, 44), rfl, mk_234, rfl, rfl, by decide +kernel, ak_wc_6 191 (by decide +kernel) (by decide +kernel), ak_wc_6 192 (by decide +kernel) (by decide +kernel), ak_wc_6 193 (by decide +kernel) (by decide +kernel)⟩
theorem rk_RL_89 : ak_okr RL 89 (8, 152, 3, 11) := ⟨q_152, (RX11, TX11, 9), rfl, mk_152, rfl, rfl, by decide +kernel, ak_wc_4 188 (by decide +kernel) (by decide +kernel), ak_wc_4 189 (by decide +kernel) (by decide +kernel), ak_wc_4 190 (by decide +kernel) (by decide +kernel)⟩
theorem rk_RL_93 : ak_okr RL 93 (8, 236, 3, 12) := ⟨q_236, (RX12, TX12, 44), rfl, mk_236, rfl, rfl, by decide +kernel, ak_wc_6 200 (by decide +kernel) (by decide +kernel), ak_wc_6 201 (by decide +kernel) (by decide +kernel), ak_wc_6 202 (by decide +kernel) (by decide +kernel)⟩
theorem rk_RL_94 : ak_okr RL 94 (8, 154, 0, 11) := ⟨q_154, (RX11, TX11, 9), rfl, mk_154, rfl, rfl, by decide +kernel, ak_wc_4 196 (by decide +kernel) (by decide +kernel), ak_wc_4 197 (by decide +kernel) (by decide +kernel), ak_wc_4 198 (by decide +kernel) (by decide +kernel)⟩
theorem rk_RL_97 : ak_okr RL 97 (8, 237, 0, 12) := ⟨q_237, (RX12, TX12, 44), rfl, mk_237, rfl, rfl, by decide +kernel, ak_wc_6 205 (by decide +kernel) (by decide +kernel), ak_wc_6 206 (by decide +kernel) (by decide +kernel), ak_wc_6 207 (by decide +kernel) (by decide +kernel)⟩
theorem rk_RL_98 : ak_okr RL 98 (8, 155, 0, 11) := ⟨q_155, (RX11, TX11, 9), rfl, mk_155, rfl, rfl, by decide +kernel, ak_wc_4 200 (by decide +kernel) (by decide +kernel), ak_wc_4 201 (by decide +kernel) (by decide +kernel), ak_wc_4 202 (by decide +kernel) (by decide +kernel)⟩
theorem rk_RL_101 : ak_okr RL 101 (8, 238, 0, 12) := ⟨q_238, (RX12, TX12, 44), rfl, mk_238, rfl, rfl, by decide +kernel, ak_wc_6 209 (by decide +kernel) (by decide +kernel), ak_wc_6 210 (by decide +kernel) (by decide +kernel), ak_wc_6 211 (by decide +kernel) (by decide +kernel)⟩
theorem rk_RL_102 : ak_okr RL 102 (8, 156, 1, 11) := ⟨q_156, (RX11, TX11, 9), rfl, mk_156, rfl, rfl, by decide +kernel, ak_wc_4 204 (by decide +kernel) (by decide +kernel), ak_wc_4 205 (by decide +kernel) (by decide +kernel), ak_wc_4 206 (by decide +kernel) (by decide +kernel)⟩
theorem rk_RL_105 : ak_okr RL 105 (8, 239, 1, 12) := ⟨q_239, (RX12, TX12, 44), rfl, mk_239, rfl, rfl, by decide +kernel, ak_wc_6 213 (by decide +kernel) (by decide +kernel), ak_wc_6 214 (by decide +kernel) (by decide +kernel), ak_wc_6 215 (by decide +kernel) (by decide +kernel)⟩
theorem rk_RL_106 : ak_okr RL 106 (8, 159, 3, 11) := ⟨q_159, (RX11, TX11, 9), rfl, mk_159, rfl, rfl, by decide +kernel, ak_wc_4 216 (by decide +kernel) (by decide +kernel), ak_wc_4 217 (by decide +kernel) (by decide +kernel), ak_wc_4 218 (by decide +kernel) (by decide +kernel)⟩
theorem rk_RL_109 : ak_okr RL 109 (8, 233, 3, 12) := ⟨q_233, (RX12, TX12, 44), rfl, mk_233, rfl, rfl, by decide +kernel, ak_wc_6 217 (by decide +kernel) (by decide +kernel), ak_wc_6 187 (by decide +kernel) (by decide +kernel), ak_wc_6 188 (by decide +kernel) (by decide +kernel)⟩
theorem rk_RL_110 : ak_okr RL 110 (8, 161, 3, 11) := ⟨q_161, (RX11, TX11, 9), rfl, mk_161, rfl, rfl, by decide +kernel, ak_wc_4 223 (by decide +kernel) (by decide +kernel), ak_wc_4 224 (by decide +kernel) (by decide +kernel), ak_wc_4 225 (by decide +kernel) (by decide +kernel)⟩
theorem rk_RL_113 : ak_okr RL 113 (8, 240, 3, 12) := ⟨q_240, (RX12, TX12, 44), rfl, mk_240, rfl, rfl, by decide +kernel, ak_wc_6 218 (by decide +kernel) (by decide +kernel), ak_wc_6 219 (by decide +kernel) (by decide +kernel), ak_wc_6 220 (by decide +kernel) (by decide +kernel)⟩
theorem rk_RL_114 : ak_okr RL 114 (8, 162, 5, 11) := ⟨q_162, (RX11, TX11, 9), rfl, mk_162, rfl, rfl, by decide +kernel, ak_wc_4 228 (by decide +kernel) (by decide +kernel), ak_wc_4 229 (by decide +kernel) (by decide +kernel), ak_wc_4 230 (by decide +kernel) (by decide +kernel)⟩
theorem rk_RL_118 : ak_okr RL 118 (8, 241, 5, 12) := ⟨q_241, (RX12, TX12, 44), rfl, mk_241, rfl, rfl, by decide +kernel, ak_wc_6 222 (by decide +kernel) (by decide +kernel), ak_wc_6 223 (by decide +kernel) (by decide +kernel), ak_wc_6 224 (by decide +kernel) (by decide +kernel)⟩
theorem rk_RL_119 : ak_okr RL 119 (8, 163, 4, 11) := ⟨q_163, (RX11, TX11, 9), rfl, mk_163, rfl, rfl, by decide +kernel, ak_wc_4 235 (by decide +kernel) (by decide +kernel), ak_wc_4 236 (by decide +kernel) (by decide +kernel), ak_wc_4 237 (by decide +kernel) (by decide +kernel)⟩
theorem rk_RL_123 : ak_okr RL 123 (8, 242, 4, 12) := ⟨q_242, (RX12, TX12, 44), rfl, mk_242, rfl, rfl, by decide +kernel, ak_wc_6 226 (by decide +kernel) (by decide +kernel), ak_wc_6 227 (by decide +kernel) (by decide +kernel), ak_wc_6 228 (by decide +kernel) (by decide +kernel)⟩
theorem rk_RL_124 : ak_okr RL 124 (8, 164, 2, 11) := ⟨q_164, (RX11, TX11, 9), rfl, mk_164, rfl, rfl, by decide +kernel, ak_wc_5 0 (by decide +kernel) (by decide +kernel), ak_wc_5 1 (by decide +kernel) (by decide +kernel), ak_wc_5 2 (by decide +kernel) (by decide +kernel)⟩
theorem rk_RL_127 : ak_okr RL 127 (8, 243, 2, 12) := ⟨q_243, (RX12, TX12, 44), rfl, mk_243, rfl, rfl, by decide +kernel, ak_wc_6 231 (by decide +kernel) (by decide +kernel), ak_wc_6 232 (by decide +kernel) (by decide +kernel), ak_wc_6 233 (by decide +kernel) (by decide +kernel)⟩
theorem rk_RX12_7 : ak_okr RX12 7 (16, 0, 0, 0) := ak_wc_5 13 (by decide +kernel) (by decide +kernel)
theorem rk_RX12_13 : ak_okr RX12 13 (1, 12, 1, 1) := ⟨(RX12, TX12, 44), rfl, by decide, ak_wc_5 18 (by decide +kernel) (by decide +kernel), by decide +kernel⟩
theorem rk_RX12_17 : ak_okr RX12 17 (1, 12, 2, 1) := ⟨(RX12, TX12, 44), rfl, by decide, ak_wc_5 19 (by decide +kernel) (by decide +kernel), by decide +kernel⟩
theorem rk_RX12_20 : ak_okr RX12 20 (1, 12, 5, 1) := ⟨(RX12, TX12, 44), rfl, by decide, ak_wc_5 22 (by decide +kernel) (by decide +kernel), by decide +kernel⟩
theorem rk_RX12_23 : ak_okr RX12 23 (1, 12, 7, 1) := ⟨(RX12, TX12, 44), rfl, by decide, ak_wc_5 24 (by decide +kernel) (by decide +kernel), by decide +kernel⟩
theorem rk_RX12_26 : ak_okr RX12 26 (1, 12, 8, 1) := ⟨(RX12, TX12, 44), rfl, by decide, ak_wc_5 25 (by decide +kernel) (by decide +kernel), by decide +kernel⟩
theorem rk_RX12_29 : ak_okr RX12 29 (1, 12, 9, 1) := ⟨(RX12, TX12, 44), rfl, by decide, ak_wc_5 26 (by decide +kernel) (by decide +kernel), by decide +kernel⟩
theorem rk_RX12_32 : ak_okr RX12 32 (1, 12, 10, 1) := ⟨(RX12, TX12, 44), rfl, by decide, ak_wc_5 27 (by decide +kernel) (by decide +kernel), by decide +kernel⟩
theorem rk_RX12_35 : ak_okr RX12 35 (1, 12, 27, 1) := ⟨(RX12, TX12, 44), rfl, by decide, ak_wc_5 44 (by decide +kernel) (by decide +kernel), by decide +kernel⟩
theorem rk_RX12_39 : ak_okr RX12 39 (1, 12, 28, 1) := ⟨(RX12, TX12, 44), rfl, by decide, ak_wc_5 45 (by decide +kernel) (by decide +kernel), by decide +kernel⟩
theorem rk_RX12_42 : ak_okr RX12 42 (1, 12, 29, 1) := ⟨(RX12, TX12, 44), rfl, by decide, ak_wc_5 46 (by decide +kernel) (by decide +kernel), by decide +kernel⟩
theorem rk_RX12_45 : ak_okr RX12 45 (1, 12, 30, 1) := ⟨(RX12, TX12, 44), rfl, by decide, ak_wc_5 47 (by decide +kernel) (by decide +kernel), by decide +kernel⟩
theorem rk_RX12_48 : ak_okr RX12 48 (1, 12, 34, 1) := ⟨(RX12, TX12, 44), rfl, by decide, ak_wc_5 51 (by decide +kernel) (by decide +kernel), by decide +kernel⟩
theorem rk_RX12_51 : ak_okr RX12 51 (1, 12, 35, 1) := ⟨(RX12, TX12, 44), rfl, by decide, ak_wc_5 52 (by decide +kernel) (by decide +kernel), by decide +kernel⟩
theorem rk_RX12_54 : ak_okr RX12 54 (1, 12, 36, 1) := ⟨(RX12, TX12, 44), rfl, by decide, ak_wc_5 53 (by decide +kernel) (by decide +kernel), by decide +kernel⟩
theorem rk_RX12_57 : ak_okr RX12 57 (1, 12, 37, 1) := ⟨(RX12, TX12, 44), rfl, by decide, ak_wc_5 54 (by decide +kernel) (by decide +kernel), by decide +kernel⟩
theorem rk_RX12_60 : ak_okr RX12 60 (1, 12, 38, 0) := ⟨(RX12, TX12, 44), rfl, by decide, ak_wc_5 55 (by decide +kernel) (by decide +kernel), by decide +kernel⟩
theorem rk_RX12_63 : ak_okr RX12 63 (1, 12, 40, 1) := ⟨(RX12, TX12, 44), rfl, by decide, ak_wc_5 57 (by decide +kernel) (by decide +kernel), by decide +kernel⟩
theorem rk_RX12_66 : ak_okr RX12 66 (1, 12, 41, 1) := ⟨(RX12, TX12, 44), rfl, by decide, ak_wc_5 58 (by decide +kernel) (by decide +kernel), by decide +kernel⟩
theorem rk_RX12_69 : ak_okr RX12 69 (1, 12, 42, 1) := ⟨(RX12, TX12, 44), rfl, by decide, ak_wc_5 59 (by decide +kernel) (by decide +kernel), by decide +kernel⟩
theorem rk_RX12_72 : ak_okr RX12 72 (1, 12, 43, 1) := ⟨(RX12, TX12, 44), rfl, by decide, ak_wc_5 60 (by decide +kernel) (by decide +kernel), by decide +kernel⟩
theorem rk_RX12_75 : ak_okr RX12 75 (8, 167, 9, 12) := ⟨q_167, (RX12, TX12, 44), rfl, mk_167, rfl, rfl, by decide +kernel, ak_wc_5 14 (by decide +kernel) (by decide +kernel), ak_wc_5 16 (by decide +kernel) (by decide +kernel), ak_w 47 (by decide +kernel) (by decide +kernel)⟩
theorem rk_RX12_79 : ak_okr RX12 79 (1, 12, 3, 0) := ⟨(RX12, TX12, 44), rfl, by decide, ak_wc_5 20 (by decide +kernel) (by decide +kernel), by decide +kernel⟩
theorem rk_RX12_82 : ak_okr RX12 82 (1, 12, 11, 0) := ⟨(RX12, TX12, 44), rfl, by decide, ak_wc_5 28 (by decide +kernel) (by decide +kernel), by decide +kernel⟩
theorem rk_RX12_85 : ak_okr RX12 85 (11, 169, 3, 0) := ⟨q_169, rfl, mk_169, by decide +kernel, ak_wc_5 155 (by decide +kernel) (by decide +kernel), ak_wc_5 156 (by decide +kernel) (by decide +kernel)⟩
theorem rk_RX12_89 : ak_okr RX12 89 (6, 0, 0, 7) := ak_wc_6 62 (by decide +kernel) (by decide +kernel)
theorem rk_RX12_91 : ak_okr RX12 91 (6, 0, 0, 6) := ak_wc_5 154 (by decide +kernel) (by decide +kernel)
theorem rk_RX12_93 : ak_okr RX12 93 (8, 170, 1, 12) := ⟨q_170, (RX12, TX12, 44), rfl, mk_170, rfl, rfl, by decide +kernel, ak_wc_5 158 (by decide +kernel) (by decide +kernel), ak_wc_5 160 (by decide +kernel) (by decide +kernel), ak_w 48 (by decide +kernel) (by decide +kernel)⟩
theorem rk_RX12_97 : ak_okr RX12 97 (11, 171, 1, 0) := ⟨q_171, rfl, mk_171, by decide +kernel, ak_wc_5 162 (by decide +kernel) (by decide +kernel), ak_wc_5 163 (by decide +kernel) (by decide +kernel)⟩
theorem rk_RX12_101 : ak_okr RX12 101 (8, 172, 2, 12) := ⟨q_172, (RX12, TX12, 44), rfl, mk_172, rfl, rfl, by decide +kernel, ak_wc_5 165 (by decide +kernel) (by decide +kernel), ak_wc_5 166 (by decide +kernel) (by decide +kernel), ak_wc_5 167 (by decide +kernel) (by decide +kernel)⟩
theorem rk_RX12_105 : ak_okr RX12 105 (8, 197, 3, 12) := ⟨q_197, (RX12, TX12, 44), rfl, mk_197, rfl, rfl, by decide +kernel, ak_wc_6 37 (by decide +kernel) (by decide +kernel), ak_wc_6 39 (by decide +kernel) (by decide +kernel), ak_w 72 (by decide +kernel) (by decide +kernel)⟩
theorem rk_RX12_109 : ak_okr RX12 109 (1, 12, 4, 0) := ⟨(RX12, TX12, 44), rfl, by decide, ak_wc_5 21 (by decide +kernel) (by decide +kernel), by decide +kernel⟩
theorem rk_RX12_112 : ak_okr RX12 112 (6, 0, 0, 5) := ak_wc_6 20 (by decide +kernel) (by decide +kernel)
theorem rk_RX12_114 : ak_okr RX12 114 (6, 0, 0, 9) := ak_wc_6 45 (by decide +kernel) (by decide +kernel)
theorem rk_RX12_116 : ak_okr RX12 116 (6, 0, 0, 4) := ak_wc_6 46 (by decide +kernel) (by decide +kernel)
theorem rk_RX12_118 : ak_okr RX12 118 (8, 199, 3, 12) := ⟨q_199, (RX12, TX12, 44), rfl, mk_199, rfl, rfl, by decide +kernel, ak_wc_6 47 (by decide +kernel) (by decide +kernel), ak_wc_6 49 (by decide +kernel) (by decide +kernel), ak_w 73 (by decide +kernel) (by decide +kernel)⟩
theorem rk_RX12_121 : ak_okr RX12 121 (11, 202, 1, 0) := ⟨q_202, rfl, mk_202, by decide +kernel, ak_wc_6 59 (by decide +kernel) (by decide +kernel), ak_wc_6 60 (by decide +kernel) (by decide +kernel)⟩
theorem rk_RX12_124 : ak_okr RX12 124 (8, 203, 2, 12) := ⟨q_203, (RX12, TX12, 44), rfl, mk_203, rfl, rfl, by decide +kernel, ak_wc_6 63 (by decide +kernel) (by decide +kernel), ak_wc_6 65 (by decide +kernel) (by decide +kernel), ak_w 74 (by decide +kernel) (by decide +kernel)⟩
theorem rk_RX12_128 : ak_okr RX12 128 (6, 0, 0, 20) := ak_wc_5 169 (by decide +kernel) (by decide +kernel)
theorem rk_RX12_130 : ak_okr RX12 130 (6, 0, 0, 27) := ak_wc_5 170 (by decide +kernel) (by decide +kernel)
theorem rk_RX12_132 : ak_okr RX12 132 (6, 0, 0, 30) := ak_wc_5 171 (by decide +kernel) (by decide +kernel)
theorem rk_RX12_134 : ak_okr RX12 134 (6, 0, 0, 37) := ak_wc_5 172 (by decide +kernel) (by decide +kernel)
theorem rk_RX12_136 : ak_okr RX12 136 (6, 0, 0, 10) := ak_wc_5 173 (by decide +kernel) (by decide +kernel)
theorem rk_RX12_138 : ak_okr RX12 138 (8, 173, 2, 12) := ⟨q_173, (RX12, TX12, 44), rfl, mk_173, rfl, rfl, by decide +kernel, ak_wc_5 174 (by decide +kernel) (by decide +kernel), ak_wc_5 176 (by decide +kernel) (by decide +kernel), ak_w 49 (by decide +kernel) (by decide +kernel)⟩
theorem rk_RX12_141 : ak_okr RX12 141 (8, 193, 2, 12) := ⟨q_193, (RX12, TX12, 44), rfl, mk_193, rfl, rfl, by decide +kernel, ak_wc_6 21 (by decide +kernel) (by decide +kernel), ak_wc_6 23 (by decide +kernel) (by decide +kernel), ak_w 68 (by decide +kernel) (by decide +kernel)⟩
theorem rk_RX12_144 : ak_okr RX12 144 (8, 194, 2, 12) := ⟨q_194, (RX12, TX12, 44), rfl, mk_194, rfl, rfl, by decide +kernel, ak_wc_6 25 (by decide +kernel) (by decide +kernel), ak_wc_6 27 (by decide +kernel) (by decide +kernel), ak_w 69 (by decide +kernel) (by decide +kernel)⟩
theorem rk_RX12_147 : ak_okr RX12 147 (8, 196, 1, 12) := ⟨q_196, (RX12, TX12, 44), rfl, mk_196, rfl, rfl, by decide +kernel, ak_wc_6 33 (by decide +kernel) (by decide +kernel), ak_wc_6 35 (by decide +kernel) (by decide +kernel), ak_w 71 (by decide +kernel) (by decide +kernel)⟩
theorem rk_RX12_150 : ak_okr RX12 150 (6, 0, 0, 255) := ak_wc_6 72 (by decide +kernel) (by decide +kernel)
theorem rk_RX12_152 : ak_okr RX12 152 (1, 12, 6, 0) := ⟨(RX12, TX12, 44), rfl, by decide, ak_wc_5 23 (by decide +kernel) (by decide +kernel), by decide +kernel⟩
theorem rk_RX12_155 : ak_okr RX12 155 (1, 12, 19, 0) := ⟨(RX12, TX12, 44), rfl, by decide, ak_wc_5 36 (by decide +kernel) (by decide +kernel), by decide +kernel⟩
theorem rk_RX12_158 : ak_okr RX12 158 (1, 12, 18, 0) := ⟨(RX12, TX12, 44), rfl, by decide, ak_wc_5 35 (by decide +kernel) (by decide +kernel), by decide +kernel⟩
theorem rk_RX12_161 : ak_okr RX12 161 (1, 12, 20, 0) := ⟨(RX12, TX12, 44), rfl, by decide, ak_wc_5 37 (by decide +kernel) (by decide +kernel), by decide +kernel⟩
theorem rk_RX12_164 : ak_okr RX12 164 (8, 178, 1, 12) := ⟨q_178, (RX12, TX12, 44), rfl, mk_178, rfl, rfl, by decide +kernel, ak_wc_5 194 (by decide +kernel) (by decide +kernel), ak_wc_5 196 (by decide +kernel) (by decide +kernel), ak_w 54 (by decide +kernel) (by decide +kernel)⟩
theorem rk_RX12_167 : ak_okr RX12 167 (1, 12, 22, 0) := ⟨(RX12, TX12, 44), rfl, by decide, ak_wc_5 39 (by decide +kernel) (by decide +kernel), by decide +kernel⟩
theorem rk_RX12_170 : ak_okr RX12 170 (1, 12, 21, 0) := ⟨(RX12, TX12, 44), rfl, by decide, ak_wc_5 38 (by decide +kernel) (by decide +kernel), by decide +kernel⟩
theorem rk_RX12_173 : ak_okr RX12 173 (6, 0, 0, 97) := ak_wc_5 198 (by decide +kernel) (by decide +kernel)
theorem rk_RX12_175 : ak_okr RX12 175 (6, 0, 0, 122) := ak_wc_5 199 (by decide +kernel) (by decide +kernel)
theorem rk_RX12_177 : ak_okr RX12 177 (6, 0, 0, 48) := ak_wc_5 200 (by decide +kernel) (by decide +kernel)
theorem rk_RX12_179 : ak_okr RX12 179 (6, 0, 0, 57) := ak_wc_5 201 (by decide +kernel) (by decide +kernel)
theorem rk_RX12_181 : ak_okr RX12 181 (1, 12, 23, 0) := ⟨(RX12, TX12, 44), rfl, by decide, ak_wc_5 40 (by decide +kernel) (by decide +kernel), by decide +kernel⟩
theorem rk_RX12_185 : ak_okr RX12 185 (1, 12, 25, 0) := ⟨(RX12, TX12, 44), rfl, by decide, ak_wc_5 42 (by decide +kernel) (by decide +kernel), by decide +kernel⟩
theorem rk_RX12_189 : ak_okr RX12 189 (1, 12, 26, 0) := ⟨(RX12, TX12, 44), rfl, by decide, ak_wc_5 43 (by decide +kernel) (by decide +kernel), by decide +kernel⟩
theorem rk_RX12_192 : ak_okr RX12 192 (8, 180, 2, 12) := ⟨q_180, (RX12, TX12, 44), rfl, mk_180, rfl, rfl, by decide +kernel, ak_wc_5 206 (by decide +kernel) (by decide +kernel), ak_wc_5 208 (by decide +kernel) (by decide +kernel), ak_w 56 (by decide +kernel) (by decide +kernel)⟩
theorem rk_RX12_195 : ak_okr RX12 195 (1, 12, 24, 0) := ⟨(RX12, TX12, 44), rfl, by decide, ak_wc_5 41 (by decide +kernel) (by decide +kernel), by decide +kernel⟩
theorem rk_RX12_198 : ak_okr RX12 198 (8, 182, 0, 12) := ⟨q_182, (RX12, TX12, 44), rfl, mk_182, rfl, rfl, by decide +kernel, ak_wc_5 214 (by decide +kernel) (by decide +kernel), ak_wc_5 216 (by decide +kernel) (by decide +kernel), ak_w 58 (by decide +kernel) (by decide +kernel)⟩
theorem rk_RX12_201 : ak_okr RX12 201 (8, 177, 0, 12) := ⟨q_177, (RX12, TX12, 44), rfl, mk_177, rfl, rfl, by decide +kernel, ak_wc_5 190 (by decide +kernel) (by decide +kernel), ak_wc_5 192 (by decide +kernel) (by decide +kernel), ak_w 53 (by decide +kernel) (by decide +kernel)⟩
theorem rk_RX12_204 : ak_okr RX12 204 (8, 179, 8, 12) := ⟨q_179, (RX12, TX12, 44), rfl, mk_179, rfl, rfl, by decide +kernel, ak_wc_5 202 (by decide +kernel) (by decide +kernel), ak_wc_5 204 (by decide +kernel) (by decide +kernel), ak_w 55 (by decide +kernel) (by decide +kernel)⟩
theorem rk_RX12_208 : ak_okr RX12 208 (1, 12, 12, 0) := ⟨(RX12, TX12, 44), rfl, by decide, ak_wc_5 29 (by decide +kernel) (by decide +kernel), by decide +kernel⟩
theorem rk_RX12_211 : ak_okr RX12 211 (1, 12, 13, 0) := ⟨(RX12, TX12, 44), rfl, by decide, ak_wc_5 30 (by decide +kernel) (by decide +kernel), by decide +kernel⟩
theorem rk_RX12_214 : ak_okr RX12 214 (1, 12, 14, 0) := ⟨(RX12, TX12, 44), rfl, by decide, ak_wc_5 31 (by decide +kernel) (by decide +kernel), by decide +kernel⟩
theorem rk_RX12_217 : ak_okr RX12 217 (1, 12, 15, 0) := ⟨(RX12, TX12, 44), rfl, by decide, ak_wc_5 32 (by decide +kernel) (by decide +kernel), by decide +kernel⟩
theorem rk_RX12_220 : ak_okr RX12 220 (1, 12, 16, 0) := ⟨(RX12, TX12, 44), rfl, by decide, ak_wc_5 33 (by decide +kernel) (by decide +kernel), by decide +kernel⟩
theorem rk_RX12_223 : ak_okr RX12 223 (1, 12, 17, 0) := ⟨(RX12, TX12, 44), rfl, by decide, ak_wc_5 34 (by decide +kernel) (by decide +kernel), by decide +kernel⟩
theorem rk_RX12_226 : ak_okr RX12 226 (8, 190, 1, 12) := ⟨q_190, (RX12, TX12, 44), rfl, mk_190, rfl, rfl, by decide +kernel, ak_wc_6 6 (by decide +kernel) (by decide +kernel), ak_wc_6 8 (by decide +kernel) (by decide +kernel), ak_w 66 (by decide +kernel) (by decide +kernel)⟩
theorem rk_RX12_229 : ak_okr RX12 229 (8, 186, 0, 12) := ⟨q_186, (RX12, TX12, 44), rfl, mk_186, rfl, rfl, by decide +kernel, ak_wc_5 230 (by decide +kernel) (by decide +kernel), ak_wc_5 232 (by decide +kernel) (by decide +kernel), ak_w 62 (by decide +kernel) (by decide +kernel)⟩
theorem rk_RX12_233 : ak_okr RX12 233 (8, 189, 0, 12) := ⟨q_189, (RX12, TX12, 44), rfl, mk_189, rfl, rfl, by decide +kernel, ak_wc_6 2 (by decide +kernel) (by decide +kernel), ak_wc_6 4 (by decide +kernel) (by decide +kernel), ak_w 65 (by decide +kernel) (by decide +kernel)⟩
theorem rk_RX12_237 : ak_okr RX12 237 (8, 183, 0, 12) := ⟨q_183, (RX12, TX12, 44), rfl, mk_183, rfl, rfl, by decide +kernel, ak_wc_5 218 (by decide +kernel) (by decide +kernel), ak_wc_5 220 (by decide +kernel) (by decide +kernel), ak_w 59 (by decide +kernel) (by decide +kernel)⟩
theorem rk_RX12_240 : ak_okr RX12 240 (8, 191, 0, 12) := ⟨q_191, (RX12, TX12, 44), rfl, mk_191, rfl, rfl, by decide +kernel, ak_wc_6 10 (by decide +kernel) (by decide +kernel), ak_wc_6 12 (by decide +kernel) (by decide +kernel), ak_w 67 (by decide +kernel) (by decide +kernel)⟩
theorem rk_RX12_243 : ak_okr RX12 243 (8, 188, 0, 12) := ⟨q_188, (RX12, TX12, 44), rfl, mk_188, rfl, rfl, by decide +kernel, ak_wc_5 238 (by decide +kernel) (by decide +kernel), ak_wc_6 0 (by decide +kernel) (by decide +kernel), ak_w 64 (by decide +kernel) (by decide +kernel)⟩
theorem rk_RX12_246 : ak_okr RX12 246 (6, 0, 0, 43) := ak_wc_6 14 (by decide +kernel) (by decide +kernel)
theorem rk_RX12_248 : ak_okr RX12 248 (8, 185, 0, 12) := ⟨q_185, (RX12, TX12, 44), rfl, mk_185, rfl, rfl, by decide +kernel, ak_wc_5 226 (by decide +kernel) (by decide +kernel), ak_wc_5 228 (by decide +kernel) (by decide +kernel), ak_w 61 (by decide +kernel) (by decide +kernel)⟩
theorem rk_RX12_251 : ak_okr RX12 251 (8, 187, 0, 12) := ⟨q_187, (RX12, TX12, 44), rfl, mk_187, rfl, rfl, by decide +kernel, ak_wc_5 234 (by decide +kernel) (by decide +kernel), ak_wc_5 236 (by decide +kernel) (by decide +kernel), ak_w 63 (by decide +kernel) (by decide +kernel)⟩
theorem rk_RX12_254 : ak_okr RX12 254 (6, 0, 0, 60) := ak_wc_6 15 (by decide +kernel) (by decide +kernel)
theorem rk_RX12_256 : ak_okr RX12 256 (8, 184, 0, 12) := ⟨q_184, (RX12, TX12, 44), rfl, mk_184, rfl, rfl, by decide +kernel, ak_wc_5 222 (by decide +kernel) (by decide +kernel), ak_wc_5 224 (by decide +kernel) (by decide +kernel), ak_w 60 (by decide +kernel) (by decide +kernel)⟩
theorem rk_RX12_259 : ak_okr RX12 259 (8, 181, 1, 12) := ⟨q_181, (RX12, TX12, 44), rfl, mk_181, rfl, rfl, by decide +kernel, ak_wc_5 210 (by decide +kernel) (by decide +kernel), ak_wc_5 212 (by decide +kernel) (by decide +kernel), ak_w 57 (by decide +kernel) (by decide +kernel)⟩
theorem rk_RX12_263 : ak_okr RX12 263 (8, 176, 2, 12) := ⟨q_176, (RX12, TX12, 44), rfl, mk_176, rfl, rfl, by decide +kernel, ak_wc_5 186 (by decide +kernel) (by decide +kernel), ak_wc_5 188 (by decide +kernel) (by decide +kernel), ak_w 52 (by decide +kernel) (by decide +kernel)⟩
theorem rk_RX12_266 : ak_okr RX12 266 (8, 174, 2, 12) := ⟨q_174, (RX12, TX12, 44), rfl, mk_174, rfl, rfl, by decide +kernel, ak_wc_5 178 (by decide +kernel) (by decide +kernel), ak_wc_5 180 (by decide +kernel) (by decide +kernel), ak_w 50 (by decide +kernel) (by decide +kernel)⟩
theorem rk_RX12_269 : ak_okr RX12 269 (11, 192, 3, 0) := ⟨q_192, rfl, mk_192, by decide +kernel, ak_wc_6 16 (by decide +kernel) (by decide +kernel), ak_wc_6 17 (by decide +kernel) (by decide +kernel)⟩
theorem rk_RX12_273 : ak_okr RX12 273 (8, 175, 3, 12) := ⟨q_175, (RX12, TX12, 44), rfl, mk_175, rfl, rfl, by decide +kernel, ak_wc_5 182 (by decide +kernel) (by decide +kernel), ak_wc_5 184 (by decide +kernel) (by decide +kernel), ak_w 51 (by decide +kernel) (by decide +kernel)⟩
theorem rk_RX12_276 : ak_okr RX12 276 (6, 0, 0, 3) := ak_wc_6 19 (by decide +kernel) (by decide +kernel)
theorem rk_RX12_278 : ak_okr RX12 278 (8, 195, 2, 12) := ⟨q_195, (RX12, TX12, 44), rfl, mk_195, rfl, rfl, by decide +kernel, ak_wc_6 29 (by decide +kernel) (by decide +kernel), ak_wc_6 31 (by decide +kernel) (by decide +kernel), ak_w 70 (by decide +kernel) (by decide +kernel)⟩
theorem rk_RX12_281 : ak_okr RX12 281 (8, 213, 1, 12) := ⟨q_213, (RX12, TX12, 44), rfl, mk_213, rfl, rfl, by decide +kernel, ak_wc_6 108 (by decide +kernel) (by decide +kernel), ak_wc_6 110 (by decide +kernel) (by decide +kernel), ak_w 80 (by decide +kernel) (by decide +kernel)⟩
theorem rk_RX12_284 : ak_okr RX12 284 (11, 214, 1, 0) := ⟨q_214, rfl, mk_214, by decide +kernel, ak_wc_6 112 (by decide +kernel) (by decide +kernel), ak_wc_6 113 (by decide +kernel) (by decide +kernel)⟩
theorem rk_RX12_287 : ak_okr RX12 287 (8, 212, 1, 12) := ⟨q_212, (RX12, TX12, 44), rfl, mk_212, rfl, rfl, by decide +kernel, ak_wc_6 104 (by decide +kernel) (by decide +kernel), ak_wc_6 106 (by decide +kernel) (by decide +kernel), ak_w 79 (by decide +kernel) (by decide +kernel)⟩
theorem rk_RX12_290 : ak_okr RX12 290 (8, 211, 0, 12) := ⟨q_211, (RX12, TX12, 44), rfl, mk_211, rfl, rfl, by decide +kernel, ak_wc_6 100 (by decide +kernel) (by decide +kernel), ak_wc_6 102 (by decide +kernel) (by decide +kernel), ak_w 78 (by decide +kernel) (by decide +kernel)⟩
theorem rk_RX12_293 : ak_okr RX12 293 (6, 0, 0, 2) := ak_wc_6 85 (by decide +kernel) (by decide +kernel)
theorem rk_RX12_295 : ak_okr RX12 295 (6, 0, 0, 17) := ak_wc_6 86 (by decide +kernel) (by decide +kernel)
theorem rk_RX12_297 : ak_okr RX12 297 (4, 0, 0, -100000) := ak_wc_6 87 (by decide +kernel) (by decide +kernel)
theorem rk_RX12_298 : ak_okr RX12 298 (8, 208, 0, 12) := ⟨q_208, (RX12, TX12, 44), rfl, mk_208, rfl, rfl, by decide +kernel, ak_wc_6 88 (by decide +kernel) (by decide +kernel), ak_wc_6 90 (by decide +kernel) (by decide +kernel), ak_w 75 (by decide +kernel) (by decide +kernel)⟩
theorem rk_RX12_301 : ak_okr RX12 301 (8, 209, 0, 12) := ⟨q_209, (RX12, TX12, 44), rfl, mk_209, rfl, rfl, by decide +kernel, ak_wc_6 92 (by decide +kernel) (by decide +kernel), ak_wc_6 94 (by decide +kernel) (by decide +kernel), ak_w 76 (by decide +kernel) (by decide +kernel)⟩
theorem rk_RX12_304 : ak_okr RX12 304 (8, 210, 0, 12) := ⟨q_210, (RX12, TX12, 44), rfl, mk_210, rfl, rfl, by decide +kernel, ak_wc_6 96 (by decide +kernel) (by decide +kernel), ak_wc_6 98 (by decide +kernel) (by decide +kernel), ak_w 77 (by decide +kernel) (by decide +kernel)⟩
theorem rk_RX12_307 : ak_okr RX12 307 (8, 215, 0, 12) := ⟨q_215, (RX12, TX12, 44), rfl, mk_215, rfl, rfl, by decide +kernel, ak_wc_6 115 (by decide +kernel) (by decide +kernel), ak_wc_6 117 (by decide +kernel) (by decide +kernel), ak_w 81 (by decide +kernel) (by decide +kernel)⟩
theorem rk_RX12_310 : ak_okr RX12 310 (8, 219, 0, 12) := ⟨q_219, (RX12, TX12, 44), rfl, mk_219, rfl, rfl, by decide +kernel, ak_wc_6 131 (by decide +kernel) (by decide +kernel), ak_wc_6 133 (by decide +kernel) (by decide +kernel), ak_w 83 (by decide +kernel) (by decide +kernel)⟩
theorem rk_RX12_313 : ak_okr RX12 313 (1, 12, 31, 0) := ⟨(RX12, TX12, 44), rfl, by decide, ak_wc_5 48 (by decide +kernel) (by decide +kernel), by decide +kernel⟩
theorem rk_RX12_316 : ak_okr RX12 316 (1, 12, 33, 0) := ⟨(RX12, TX12, 44), rfl, by decide, ak_wc_5 50 (by decide +kernel) (by decide +kernel), by decide +kernel⟩
theorem rk_RX12_319 : ak_okr RX12 319 (8, 220, 0, 12) := ⟨q_220, (RX12, TX12, 44), rfl, mk_220, rfl, rfl, by decide +kernel, ak_wc_6 135 (by decide +kernel) (by decide +kernel), ak_wc_6 137 (by decide +kernel) (by decide +kernel), ak_w 84 (by decide +kernel) (by decide +kernel)⟩
theorem rk_RX12_322 : ak_okr RX12 322 (1, 12, 32, 0) := ⟨(RX12, TX12, 44), rfl, by decide, ak_wc_5 49 (by decide +kernel) (by decide +kernel), by decide +kernel⟩
theorem rk_RX12_325 : ak_okr RX12 325 (8, 218, 2, 12) := ⟨q_218, (RX12, TX12, 44), rfl, mk_218, rfl, rfl, by decide +kernel, ak_wc_6 127 (by decide +kernel) (by decide +kernel), ak_wc_6 129 (by decide +kernel) (by decide +kernel), ak_w 82 (by decide +kernel) (by decide +kernel)⟩
theorem rk_RX12_329 : ak_okr RX12 329 (8, 223, 1, 12) := ⟨q_223, (RX12, TX12, 44), rfl, mk_223, rfl, rfl, by decide +kernel, ak_wc_6 147 (by decide +kernel) (by decide +kernel), ak_wc_6 149 (by decide +kernel) (by decide +kernel), ak_w 86 (by decide +kernel) (by decide +kernel)⟩
theorem rk_RX12_332 : ak_okr RX12 332 (8, 224, 1, 12) := ⟨q_224, (RX12, TX12, 44), rfl, mk_224, rfl, rfl, by decide +kernel, ak_wc_6 151 (by decide +kernel) (by decide +kernel), ak_wc_6 153 (by decide +kernel) (by decide +kernel), ak_w 87 (by decide +kernel) (by decide +kernel)⟩
theorem rk_RX12_336 : ak_okr RX12 336 (8, 222, 0, 12) := ⟨q_222, (RX12, TX12, 44), rfl, mk_222, rfl, rfl, by decide +kernel, ak_wc_6 143 (by decide +kernel) (by decide +kernel), ak_wc_6 145 (by decide +kernel) (by decide +kernel), ak_w 85 (by decide +kernel) (by decide +kernel)⟩
theorem rk_RX12_339 : ak_okr RX12 339 (8, 225, 0, 12) := ⟨q_225, (RX12, TX12, 44), rfl, mk_225, rfl, rfl, by decide +kernel, ak_wc_6 155 (by decide +kernel) (by decide +kernel), ak_wc_6 157 (by decide +kernel) (by decide +kernel), ak_w 88 (by decide +kernel) (by decide +kernel)⟩
theorem rk_RX12_342 : ak_okr RX12 342 (11, 230, 1, 0) := ⟨q_230, rfl, mk_230, by decide +kernel, ak_wc_6 175 (by decide +kernel) (by decide +kernel), ak_wc_6 176 (by decide +kernel) (by decide +kernel)⟩
theorem rk_RX12_345 : ak_okr RX12 345 (8, 231, 2, 12) := ⟨q_231, (RX12, TX12, 44), rfl, mk_231, rfl, rfl, by decide +kernel, ak_wc_6 178 (by decide +kernel) (by decide +kernel), ak_wc_6 180 (by decide +kernel) (by decide +kernel), ak_w 89 (by decide +kernel) (by decide +kernel)⟩
theorem rk_RX12_348 : ak_okr RX12 348 (8, 233, 3, 12) := ⟨q_233, (RX12, TX12, 44), rfl, mk_233, rfl, rfl, by decide +kernel, ak_wc_6 186 (by decide +kernel) (by decide +kernel), ak_wc_6 187 (by decide +kernel) (by decide +kernel), ak_wc_6 188 (by decide +kernel) (by decide +kernel)⟩
theorem rk_RX12_351 : ak_okr RX12 351 (4, 0, 0, 1103515245) := ak_wc_6 199 (by decide +kernel) (by decide +kernel)
theorem rk_RX12_352 : ak_okr RX12 352 (8, 235, 1, 12) := ⟨q_235, (RX12, TX12, 44), rfl, mk_235, rfl, rfl, by decide +kernel, ak_wc_6 195 (by decide +kernel) (by decide +kernel), ak_wc_6 197 (by decide +kernel) (by decide +kernel), ak_w 90 (by decide +kernel) (by decide +kernel)⟩
theorem rk_RX12_355 : ak_okr RX12 355 (6, 0, 0, -4611686018427387904) := ak_wc_6 204 (by decide +kernel) (by decide +kernel)
theorem rk_RX12_357 : ak_okr RX12 357 (1, 12, 39, 0) := ⟨(RX12, TX12, 44), rfl, by decide, ak_wc_5 56 (by decide +kernel) (by decide +kernel), by decide +kernel⟩
theorem rk_RX12_360 : ak_okr RX12 360 (6, 0, 0, -1) := ak_wc_6 190 (by decide +kernel) (by decide +kernel)
theorem rk_RX12_362 : ak_okr RX12 362 (8, 198, 3, 12) := ⟨q_198, (RX12, TX12, 44), rfl, mk_198, rfl, rfl, by decide +kernel, ak_wc_6 230 (by decide +kernel) (by decide +kernel), ak_wc_6 42 (by decide +kernel) (by decide +kernel), ak_wc_6 43 (by decide +kernel) (by decide +kernel)⟩
theorem rk_RX12_365 : ak_okr RX12 365 (11, 244, 1, 0) := ⟨q_244, rfl, mk_244, by decide +kernel, ak_wc_6 235 (by decide +kernel) (by decide +kernel), ak_wc_6 236 (by decide +kernel) (by decide +kernel)⟩
theorem rk_RJ6_265 : ak_okr RJ6 265 (4, 0, 0, 1431655765) := ak_wc_3 209 (by decide +kernel) (by decide +kernel)
theorem rk_RJ6_266 : ak_okr RJ6 266 (4, 0, 0, 858993459) := ak_wc_3 210 (by decide +kernel) (by decide +kernel)
theorem rk_RJ6_267 : ak_okr RJ6 267 (4, 0, 0, 252645135) := ak_wc_3 211 (by decide +kernel) (by decide +kernel)
theorem rk_RJ0_9 : ak_okr RJ0 9 (2, 0, 0, 0) := ak_wc_7 7 (by decide +kernel) (by decide +kernel)
theorem rk_RJ0_15 : ak_okr RJ0 15 (2, 1, 0, 0) := ak_wc_7 8 (by decide +kernel) (by decide +kernel)
theorem rk_RJ0_38 : ak_okr RJ0 38 (3, 2, 0, 0) := ⟨_, rfl, ak_wc_3 75 (by decide +kernel) (by decide +kernel)⟩
theorem rk_RJ0_335 : ak_okr RJ0 335 (9, 72, 0, 0) := ⟨q_72, rfl, mk_72, rfl, by decide +kernel, ak_wc_3 71 (by decide +kernel) (by decide +kernel), ak_wc_3 72 (by decide +kernel) (by decide +kernel), ak_wc_3 73 (by decide +kernel) (by decide +kernel)⟩
theorem rk_RJ0_492 : ak_okr RJ0 492 (9, 74, 0, 0) := ⟨q_74, rfl, mk_74, rfl, by decide +kernel, ak_wc_3 81 (by decide +kernel) (by decide +kernel), ak_wc_3 82 (by decide +kernel) (by decide +kernel), ak_wc_3 83 (by decide +kernel) (by decide +kernel)⟩
theorem rk_RJ0_495 : ak_okr RJ0 495 (11, 75, 2, 0) := ⟨q_75, rfl, mk_75, by decide +kernel, ak_wc_3 85 (by decide +kernel) (by decide +kernel), ak_wc_3 86 (by decide +kernel) (by decide +kernel)⟩
theorem rk_RJ0_498 : ak_okr RJ0 498 (11, 78, 2, 0) := ⟨q_78, rfl, mk_78, by decide +kernel, ak_wc_3 96 (by decide +kernel) (by decide +kernel), ak_wc_3 97 (by decide +kernel) (by decide +kernel)⟩
theorem rk_RJ0_1053 : ak_okr RJ0 1053 (3, 3, 0, 0) := ⟨_, rfl, ak_wc_3 91 (by decide +kernel) (by decide +kernel)⟩
theorem rk_RJ0_1059 : ak_okr RJ0 1059 (11, 77, 3, 0) := ⟨q_77, rfl, mk_77, by decide +kernel, ak_wc_3 93 (by decide +kernel) (by decide +kernel), ak_wc_3 94 (by decide +kernel) (by decide +kernel)⟩
theorem rk_RJ1_9 : ak_okr RJ1 9 (11, 76, 2, 0) := ⟨q_76, rfl, mk_76, by decide +kernel, ak_wc_3 88 (by decide +kernel) (by decide +kernel), ak_wc_3 89 (by decide +kernel) (by decide +kernel)⟩
theorem rk_RJ2_44 : ak_okr RJ2 44 (0, 0, 0, 0) := trivial
theorem rk_RJ2_48 : ak_okr RJ2 48 (11, 80, 1, 0) := ⟨q_80, rfl, mk_80, by decide +kernel, ak_wc_3 102 (by decide +kernel) (by decide +kernel), ak_wc_3 103 (by decide +kernel) (by decide +kernel)⟩
theorem rk_RJ2_59 : ak_okr RJ2 59 (0, 0, 0, 0) := trivial
theorem rk_RJ2_63 : ak_okr RJ2 63 (0, 0, 0, 0) := trivial
theorem rk_RJ2_67 : ak_okr RJ2 67 (11, 79, 2, 0) := ⟨q_79, rfl, mk_79, by decide +kernel, ak_wc_3 99 (by decide +kernel) (by decide +kernel), ak_wc_3 100 (by decide +kernel) (by decide +kernel)⟩
theorem rk_RJ2_71 : ak_okr RJ2 71 (11, 81, 2, 0) := ⟨q_81, rfl, mk_81, by decide +kernel, ak_wc_3 106 (by decide +kernel) (by decide +kernel), ak_wc_3 107 (by decide +kernel) (by decide +kernel)⟩
theorem rk_RJ2_414 : ak_okr RJ2 414 (11, 76, 2, 0) := ⟨q_76, rfl, mk_76, by decide +kernel, ak_wc_3 105 (by decide +kernel) (by decide +kernel), ak_wc_3 89 (by decide +kernel) (by decide +kernel)⟩
def rt_RX11 : List (Nat × ak_X) := [(3, (16, 0, 0, 0)), (9, (7, 8, 0, 0)), (11, (14, 1, 0, 8)), (12, (1, 11, 0, 1)), (16, (1, 11, 1, 1)), (19, (1, 11, 2, 1)), (22, (1, 11, 4, 1)), (26, (7, 6, 0, 0)), (28, (14, 2, 1, 6)), (31, (1, 11, 6, 1)), (35, (7, 5, 0, 0)), (37, (14, 12, 2, 5)), (40, (1, 11, 7, 1)), (44, (7, 7, 4, 0)), (46, (1, 11, 8, 1)), (50, (14, 13, 0, 7)), (51, (8, 15, 2, 8)), (55, (8, 17, 2, 8)), (58, (8, 18, 2, 8)), (62, (8, 20, 3, 8)), (66, (8, 22, 3, 8)), (70, (8, 16, 1, 8)), (74, (1, 8, 11, 1)), (77, (8, 23, 3, 8)), (81, (11, 26, 1, 0)), (84, (8, 27, 3, 6)), (88, (1, 8, 10, 1)), (91, (1, 8, 5, 1)), (94, (8, 47, 2, 6)), (98, (8, 55, 2, 6)), (101, (8, 61, 2, 11)), (104, (8, 48, 3, 6)), (108, (8, 29, 3, 6)), (111, (1, 11, 5, 0)), (115, (1, 6, 0, 0)), (118, (8, 34, 1, 6)), (122, (8, 64, 1, 10)), (128, (1, 8, 3, 0)), (131, (4, 0, 0, -100000)), (132, (8, 99, 1, 5)), (136, (8, 105, 1, 5)), (139, (8, 107, 0, 5)), (143, (8, 109, 0, 5)), (147, (8, 108, 0, 5)), (150, (1, 8, 0, 0)), (153, (1, 8, 4, 0)), (156, (1, 8, 9, 1)), (159, (19, 0, 0, 0)), (164, (8, 111, 0, 8)), (167, (8, 113, 1, 5)), (171, (8, 120, 0, 5)), (174, (8, 121, 0, 5)), (177, (8, 123, 0, 5)), (180, (8, 126, 0, 5)), (183, (8, 128, 0, 5)), (186, (8, 131, 2, 5)), (189, (8, 134, 1, 5)), (192, (11, 136, 1, 0)), (195, (8, 137, 0, 7)), (198, (1, 7, 1, 0)), (199, (8, 138, 1, 8)), (202, (8, 139, 2, 11)), (206, (8, 140, 2, 11)), (209, (8, 141, 2, 11)), (212, (8, 142, 2, 11)), (215, (8, 144, 2, 11)), (218, (8, 145, 2, 11)), (221, (8, 147, 2, 7)), (225, (8, 148, 2, 7)), (227, (8, 151, 1, 11)), (231, (6, 0, 0, -4611686018427387904)), (233, (11, 153, 2, 0)), (236, (1, 11, 3, 0)), (240, (8, 157, 0, 8)), (243, (8, 158, 0, 8)), (246, (4, 0, 0, 1103515245)), (247, (1, 8, 8, 1)), (250, (1, 7, 2, 1)), (253, (1, 8, 6, 1)), (256, (8, 143, 4, 11)), (260, (11, 160, 1, 0)), (263, (8, 149, 2, 7)), (266, (1, 7, 0, 0)), (269, (17, 0, 0, 0)), (275, (8, 21, 3, 11)), (278, (8, 165, 2, 6))]
set_option maxRecDepth 100000 in
theorem rt_RX11_ok : ∀ e ∈ rt_RX11, ak_okr RX11 e.1 e.2 := List.forall_mem_cons.mpr ⟨rk_RX11_3, List.forall_mem_cons.mpr ⟨rk_RX11_9, List.forall_mem_cons.mpr ⟨rk_RX11_11, List.forall_mem_cons.mpr ⟨rk_RX11_12, List.forall_mem_cons.mpr ⟨rk_RX11_16, List.forall_mem_cons.mpr ⟨rk_RX11_19, List.forall_mem_cons.mpr ⟨rk_RX11_22, List.forall_mem_cons.mpr ⟨rk_RX11_26, List.forall_mem_cons.mpr ⟨rk_RX11_28, List.forall_mem_cons.mpr ⟨rk_RX11_31, List.forall_mem_cons.mpr ⟨rk_RX11_35, List.forall_mem_cons.mpr ⟨rk_RX11_37, List.forall_mem_cons.mpr ⟨rk_RX11_40, List.forall_mem_cons.mpr ⟨rk_RX11_44, List.forall_mem_cons.mpr ⟨rk_RX11_46, List.forall_mem_cons.mpr ⟨rk_RX11_50, List.forall_mem_cons.mpr ⟨rk_RX11_51, List.forall_mem_cons.mpr ⟨rk_RX11_55, List.forall_mem_cons.mpr ⟨rk_RX11_58, List.forall_mem_cons.mpr ⟨rk_RX11_62, List.forall_mem_cons.mpr ⟨rk_RX11_66, List.forall_mem_cons.mpr ⟨rk_RX11_70, List.forall_mem_cons.mpr ⟨rk_RX11_74, List.forall_mem_cons.mpr ⟨rk_RX11_77, List.forall_mem_cons.mpr ⟨rk_RX11_81, List.forall_mem_cons.mpr ⟨rk_RX11_84, List.forall_mem_cons.mpr ⟨rk_RX11_88, List.forall_mem_cons.mpr ⟨rk_RX11_91, List.forall_mem_cons.mpr ⟨rk_RX11_94, List.forall_mem_cons.mpr ⟨rk_RX11_98, List.forall_mem_cons.mpr ⟨rk_RX11_101, List.forall_mem_cons.mpr ⟨rk_RX11_104, List.forall_mem_cons.mpr ⟨rk_RX11_108, List.forall_mem_cons.mpr ⟨rk_RX11_111, List.forall_mem_cons.mpr ⟨rk_RX11_115, List.forall_mem_cons.mpr ⟨rk_RX11_118, List.forall_mem_cons.mpr ⟨rk_RX11_122, List.forall_mem_cons.mpr ⟨rk_RX11_128, List.forall_mem_cons.mpr ⟨rk_RX11_131, List.forall_mem_cons.mpr ⟨rk_RX11_132, List.forall_mem_cons.mpr ⟨rk_RX11_136, List.forall_mem_cons.mpr ⟨rk_RX11_139, List.forall_mem_cons.mpr ⟨rk_RX11_143, List.forall_mem_cons.mpr ⟨rk_RX11_147, List.forall_mem_cons.mpr ⟨rk_RX11_150, List.forall_mem_cons.mpr ⟨rk_RX11_153, List.forall_mem_cons.mpr ⟨rk_RX11_156, List.forall_mem_cons.mpr ⟨rk_RX11_159, List.forall_mem_cons.mpr ⟨rk_RX11_164, List.forall_mem_cons.mpr ⟨rk_RX11_167, List.forall_mem_cons.mpr ⟨rk_RX11_171, List.forall_mem_cons.mpr ⟨rk_RX11_174, List.forall_mem_cons.mpr ⟨rk_RX11_177, List.forall_mem_cons.mpr ⟨rk_RX11_180, List.forall_mem_cons.mpr ⟨rk_RX11_183, List.forall_mem_cons.mpr ⟨rk_RX11_186, List.forall_mem_cons.mpr ⟨rk_RX11_189, List.forall_mem_cons.mpr ⟨rk_RX11_192, List.forall_mem_cons.mpr ⟨rk_RX11_195, List.forall_mem_cons.mpr ⟨rk_RX11_198, List.forall_mem_cons.mpr ⟨rk_RX11_199, List.forall_mem_cons.mpr ⟨rk_RX11_202, List.forall_mem_cons.mpr ⟨rk_RX11_206, List.forall_mem_cons.mpr ⟨rk_RX11_209, List.forall_mem_cons.mpr ⟨rk_RX11_212, List.forall_mem_cons.mpr ⟨rk_RX11_215, List.forall_mem_cons.mpr ⟨rk_RX11_218, List.forall_mem_cons.mpr ⟨rk_RX11_221, List.forall_mem_cons.mpr ⟨rk_RX11_225, List.forall_mem_cons.mpr ⟨rk_RX11_227, List.forall_mem_cons.mpr ⟨rk_RX11_231, List.forall_mem_cons.mpr ⟨rk_RX11_233, List.forall_mem_cons.mpr ⟨rk_RX11_236, List.forall_mem_cons.mpr ⟨rk_RX11_240, List.forall_mem_cons.mpr ⟨rk_RX11_243, List.forall_mem_cons.mpr ⟨rk_RX11_246, List.forall_mem_cons.mpr ⟨rk_RX11_247, List.forall_mem_cons.mpr ⟨rk_RX11_250, List.forall_mem_cons.mpr ⟨rk_RX11_253, List.forall_mem_cons.mpr ⟨rk_RX11_256, List.forall_mem_cons.mpr ⟨rk_RX11_260, List.forall_mem_cons.mpr ⟨rk_RX11_263, List.forall_mem_cons.mpr ⟨rk_RX11_266, List.forall_mem_cons.mpr ⟨rk_RX11_269, List.forall_mem_cons.mpr ⟨rk_RX11_275, List.forall_mem_cons.mpr ⟨rk_RX11_278, List.forall_mem_nil _⟩⟩⟩⟩⟩⟩⟩⟩⟩⟩⟩⟩⟩⟩⟩⟩⟩⟩⟩⟩⟩⟩⟩⟩⟩⟩⟩⟩⟩⟩⟩⟩⟩⟩⟩⟩⟩⟩⟩⟩⟩⟩⟩⟩⟩⟩⟩⟩⟩⟩⟩⟩⟩⟩⟩⟩⟩⟩⟩⟩⟩⟩⟩⟩⟩⟩⟩⟩⟩⟩⟩⟩⟩⟩⟩⟩⟩⟩⟩⟩⟩⟩⟩⟩⟩⟩
def rt_RX0 : List (Nat × ak_X) := [(1, (14, 3, 0, 3)), (7, (15, 60, 2, 0))]
set_option maxRecDepth 100000 in
theorem rt_RX0_ok : ∀ e ∈ rt_RX0, ak_okr RX0 e.1 e.2 := List.forall_mem_cons.mpr ⟨rk_RX0_1, List.forall_mem_cons.mpr ⟨rk_RX0_7, List.forall_mem_nil _⟩⟩
def rt_RX1 : List (Nat × ak_X) := [(1, (14, 5, 0, 9)), (7, (15, 51, 4, 0))]
set_option maxRecDepth 100000 in
theorem rt_RX1_ok : ∀ e ∈ rt_RX1, ak_okr RX1 e.1 e.2 := List.forall_mem_cons.mpr ⟨rk_RX1_1, List.forall_mem_cons.mpr ⟨rk_RX1_7, List.forall_mem_nil _⟩⟩
def rt_RX2 : List (Nat × ak_X) := [(3, (14, 4, 0, 4)), (9, (15, 53, 4, 0)), (13, (18, 45, 3, 0))]
set_option maxRecDepth 100000 in
theorem rt_RX2_ok : ∀ e ∈ rt_RX2, ak_okr RX2 e.1 e.2 := List.forall_mem_cons.mpr ⟨rk_RX2_3, List.forall_mem_cons.mpr ⟨rk_RX2_9, List.forall_mem_cons.mpr ⟨rk_RX2_13, List.forall_mem_nil _⟩⟩⟩
def rt_RX3 : List (Nat × ak_X) := [(1, (16, 0, 0, 0))]
set_option maxRecDepth 100000 in
theorem rt_RX3_ok : ∀ e ∈ rt_RX3, ak_okr RX3 e.1 e.2 := List.forall_mem_cons.mpr ⟨rk_RX3_1, List.forall_mem_nil _⟩
def rt_RX4 : List (Nat × ak_X) := [(1, (14, 3, 0, 3)), (7, (15, 54, 4, 0)), (11, (13, 44, 1, 0))]
set_option maxRecDepth 100000 in
theorem rt_RX4_ok : ∀ e ∈ rt_RX4, ak_okr RX4 e.1 e.2 := List.forall_mem_cons.mpr ⟨rk_RX4_1, List.forall_mem_cons.mpr ⟨rk_RX4_7, List.forall_mem_cons.mpr ⟨rk_RX4_11, List.forall_mem_nil _⟩⟩⟩
def rt_RX5 : List (Nat × ak_X) := [(3, (16, 0, 0, 0)), (9, (1, 5, 2, 1)), (15, (1, 5, 3, 1)), (18, (1, 5, 4, 1)), (22, (1, 5, 5, 1)), (25, (1, 5, 6, 1)), (28, (1, 5, 7, 1)), (31, (1, 5, 8, 1)), (34, (1, 5, 9, 1)), (37, (1, 5, 0, 1)), (41, (1, 5, 1, 0)), (45, (8, 100, 1, 8)), (51, (1, 8, 4, 0)), (55, (8, 102, 1, 5)), (59, (8, 104, 0, 5)), (62, (8, 48, 3, 6)), (67, (8, 29, 3, 6)), (71, (8, 28, 2, 8)), (75, (8, 103, 1, 5)), (79, (1, 8, 10, 1)), (82, (12, 26, 1, 0)), (85, (8, 16, 1, 8)), (88, (8, 106, 1, 5)), (91, (19, 0, 0, 0)), (96, (8, 108, 0, 5)), (100, (8, 105, 1, 5)), (103, (1, 5, 10, 0)), (107, (1, 5, 11, 0)), (110, (8, 114, 0, 5)), (113, (8, 115, 0, 5)), (118, (4, 0, 0, 2147483647)), (119, (8, 116, 3, 5)), (123, (20, 0, 0, 0)), (126, (8, 117, 1, 5)), (129, (8, 118, 1, 5)), (132, (8, 119, 2, 5)), (136, (8, 124, 1, 5)), (139, (8, 125, 1, 5)), (142, (1, 8, 9, 1)), (145, (8, 109, 0, 5)), (148, (8, 129, 2, 5)), (152, (8, 107, 0, 5)), (156, (8, 132, 1, 5))]
set_option maxRecDepth 100000 in
theorem rt_RX5_ok : ∀ e ∈ rt_RX5, ak_okr RX5 e.1 e.2 := List.forall_mem_cons.mpr ⟨rk_RX5_3, List.forall_mem_cons.mpr ⟨rk_RX5_9, List.forall_mem_cons.mpr ⟨rk_RX5_15, List.forall_mem_cons.mpr ⟨rk_RX5_18, List.forall_mem_cons.mpr ⟨rk_RX5_22, List.forall_mem_cons.mpr ⟨rk_RX5_25, List.forall_mem_cons.mpr ⟨rk_RX5_28, List.forall_mem_cons.mpr ⟨rk_RX5_31, List.forall_mem_cons.mpr ⟨rk_RX5_34, List.forall_mem_cons.mpr ⟨rk_RX5_37, List.forall_mem_cons.mpr ⟨rk_RX5_41, List.forall_mem_cons.mpr ⟨rk_RX5_45, List.forall_mem_cons.mpr ⟨rk_RX5_51, List.forall_mem_cons.mpr ⟨rk_RX5_55, List.forall_mem_cons.mpr ⟨rk_RX5_59, List.forall_mem_cons.mpr ⟨rk_RX5_62, List.forall_mem_cons.mpr ⟨rk_RX5_67, List.forall_mem_cons.mpr ⟨rk_RX5_71, List.forall_mem_cons.mpr ⟨rk_RX5_75, List.forall_mem_cons.mpr ⟨rk_RX5_79, List.forall_mem_cons.mpr ⟨rk_RX5_82, List.forall_mem_cons.mpr ⟨rk_RX5_85, List.forall_mem_cons.mpr ⟨rk_RX5_88, List.forall_mem_cons.mpr ⟨rk_RX5_91, List.forall_mem_cons.mpr ⟨rk_RX5_96, List.forall_mem_cons.mpr ⟨rk_RX5_100, List.forall_mem_cons.mpr ⟨rk_RX5_103, List.forall_mem_cons.mpr ⟨rk_RX5_107, List.forall_mem_cons.mpr ⟨rk_RX5_110, List.forall_mem_cons.mpr ⟨rk_RX5_113, List.forall_mem_cons.mpr ⟨rk_RX5_118, List.forall_mem_cons.mpr ⟨rk_RX5_119, List.forall_mem_cons.mpr ⟨rk_RX5_123, List.forall_mem_cons.mpr ⟨rk_RX5_126, List.forall_mem_cons.mpr ⟨rk_RX5_129, List.forall_mem_cons.mpr ⟨rk_RX5_132, List.forall_mem_cons.mpr ⟨rk_RX5_136, List.forall_mem_cons.mpr ⟨rk_RX5_139, List.forall_mem_cons.mpr ⟨rk_RX5_142, List.forall_mem_cons.mpr ⟨rk_RX5_145, List.forall_mem_cons.mpr ⟨rk_RX5_148, List.forall_mem_cons.mpr ⟨rk_RX5_152, List.forall_mem_cons.mpr ⟨rk_RX5_156, List.forall_mem_nil _⟩⟩⟩⟩⟩⟩⟩⟩⟩⟩⟩⟩⟩⟩⟩⟩⟩⟩⟩⟩⟩⟩⟩⟩⟩⟩⟩⟩⟩⟩⟩⟩⟩⟩⟩⟩⟩⟩⟩⟩⟩⟩⟩
def rt_RX6 : List (Nat × ak_X) := [(3, (16, 0, 0, 0)), (9, (1, 6, 0, 0)), (15, (7, 10, 2, 0)), (17, (1, 6, 1, 1)), (21, (7, 3, 3, 0)), (23, (14, 3, 0, 3)), (24, (7, 4, 0, 0)), (26, (14, 4, 0, 4)), (27, (7, 9, 0, 0)), (29, (14, 5, 0, 9)), (30, (7, 2, 0, 0)), (32, (14, 6, 0, 2)), (33, (7, 1, 0, 0)), (35, (14, 7, 0, 1)), (36, (7, 0, 0, 0)), (38, (14, 8, 0, 0)), (39, (1, 6, 2, 1)), (43, (1, 6, 3, 1)), (47, (1, 6, 4, 1)), (50, (14, 9, 1, 10)), (53, (8, 10, 1, 10)), (57, (8, 11, 0, 10)), (60, (8, 39, 1, 6)), (64, (8, 30, 3, 6)), (68, (1, 8, 3, 0)), (73, (8, 34, 1, 6)), (77, (8, 35, 3, 10)), (81, (19, 0, 0, 0)), (87, (20, 0, 0, 0)), (90, (1, 8, 5, 1)), (92, (8, 32, 2, 8)), (96, (1, 8, 6, 1)), (99, (10, 0, 4, 0)), (103, (10, 2, 3, 0)), (107, (8, 47, 2, 6)), (111, (8, 31, 2, 6)), (115, (10, 1, 2, 0)), (118, (1, 8, 10, 1)), (121, (8, 28, 2, 8)), (124, (8, 48, 3, 6)), (127, (8, 29, 3, 6)), (130, (8, 33, 2, 8)), (133, (1, 8, 7, 1)), (136, (1, 8, 9, 1))]
set_option maxRecDepth 100000 in
theorem rt_RX6_ok : ∀ e ∈ rt_RX6, ak_okr RX6 e.1 e.2 := List.forall_mem_cons.mpr ⟨rk_RX6_3, List.forall_mem_cons.mpr ⟨rk_RX6_9, List.forall_mem_cons.mpr ⟨rk_RX6_15, List.forall_mem_cons.mpr ⟨rk_RX6_17, List.forall_mem_cons.mpr ⟨rk_RX6_21, List.forall_mem_cons.mpr ⟨rk_RX6_23, List.forall_mem_cons.mpr ⟨rk_RX6_24, List.forall_mem_cons.mpr ⟨rk_RX6_26, List.forall_mem_cons.mpr ⟨rk_RX6_27, List.forall_mem_cons.mpr ⟨rk_RX6_29, List.forall_mem_cons.mpr ⟨rk_RX6_30, List.forall_mem_cons.mpr ⟨rk_RX6_32, List.forall_mem_cons.mpr ⟨rk_RX6_33, List.forall_mem_cons.mpr ⟨rk_RX6_35, List.forall_mem_cons.mpr ⟨rk_RX6_36, List.forall_mem_cons.mpr ⟨rk_RX6_38, List.forall_mem_cons.mpr ⟨rk_RX6_39, List.forall_mem_cons.mpr ⟨rk_RX6_43, List.forall_mem_cons.mpr ⟨rk_RX6_47, List.forall_mem_cons.mpr ⟨rk_RX6_50, List.forall_mem_cons.mpr ⟨rk_RX6_53, List.forall_mem_cons.mpr ⟨rk_RX6_57, List.forall_mem_cons.mpr ⟨rk_RX6_60, List.forall_mem_cons.mpr ⟨rk_RX6_64, List.forall_mem_cons.mpr ⟨rk_RX6_68, List.forall_mem_cons.mpr ⟨rk_RX6_73, List.forall_mem_cons.mpr ⟨rk_RX6_77, List.forall_mem_cons.mpr ⟨rk_RX6_81, List.forall_mem_cons.mpr ⟨rk_RX6_87, List.forall_mem_cons.mpr ⟨rk_RX6_90, List.forall_mem_cons.mpr ⟨rk_RX6_92, List.forall_mem_cons.mpr ⟨rk_RX6_96, List.forall_mem_cons.mpr ⟨rk_RX6_99, List.forall_mem_cons.mpr ⟨rk_RX6_103, List.forall_mem_cons.mpr ⟨rk_RX6_107, List.forall_mem_cons.mpr ⟨rk_RX6_111, List.forall_mem_cons.mpr ⟨rk_RX6_115, List.forall_mem_cons.mpr ⟨rk_RX6_118, List.forall_mem_cons.mpr ⟨rk_RX6_121, List.forall_mem_cons.mpr ⟨rk_RX6_124, List.forall_mem_cons.mpr ⟨rk_RX6_127, List.forall_mem_cons.mpr ⟨rk_RX6_130, List.forall_mem_cons.mpr ⟨rk_RX6_133, List.forall_mem_cons.mpr ⟨rk_RX6_136, List.forall_mem_nil _⟩⟩⟩⟩⟩⟩⟩⟩⟩⟩⟩⟩⟩⟩⟩⟩⟩⟩⟩⟩⟩⟩⟩⟩⟩⟩⟩⟩⟩⟩⟩⟩⟩⟩⟩⟩⟩⟩⟩⟩⟩⟩⟩⟩
def rt_RX7 : List (Nat × ak_X) := [(3, (16, 0, 0, 0)), (9, (1, 7, 0, 0)), (15, (1, 7, 2, 1)), (19, (19, 0, 0, 0)), (25, (20, 0, 0, 0)), (28, (1, 7, 1, 0)), (31, (8, 149, 2, 7))]
set_option maxRecDepth 100000 in
theorem rt_RX7_ok : ∀ e ∈ rt_RX7, ak_okr RX7 e.1 e.2 := List.forall_mem_cons.mpr ⟨rk_RX7_3, List.forall_mem_cons.mpr ⟨rk_RX7_9, List.forall_mem_cons.mpr ⟨rk_RX7_15, List.forall_mem_cons.mpr ⟨rk_RX7_19, List.forall_mem_cons.mpr ⟨rk_RX7_25, List.forall_mem_cons.mpr ⟨rk_RX7_28, List.forall_mem_cons.mpr ⟨rk_RX7_31, List.forall_mem_nil _⟩⟩⟩⟩⟩⟩⟩
def rt_RX8 : List (Nat × ak_X) := [(3, (16, 0, 0, 0)), (9, (1, 8, 1, 0)), (15, (1, 8, 5, 1)), (19, (1, 8, 6, 1)), (22, (1, 8, 7, 1)), (25, (1, 8, 8, 1)), (28, (1, 8, 9, 1)), (31, (1, 8, 10, 1)), (34, (1, 8, 11, 1)), (37, (1, 8, 0, 0)), (40, (1, 8, 2, 0)), (43, (1, 8, 3, 0)), (46, (1, 8, 4, 0)), (49, (8, 16, 1, 8)), (53, (3, 0, 0, 0)), (56, (3, 1, 0, 0)), (59, (8, 19, 1, 8)), (63, (8, 23, 3, 8)), (67, (12, 26, 1, 0)), (70, (11, 101, 1, 0)), (76, (19, 0, 0, 0))]
set_option maxRecDepth 100000 in
theorem rt_RX8_ok : ∀ e ∈ rt_RX8, ak_okr RX8 e.1 e.2 := List.forall_mem_cons.mpr ⟨rk_RX8_3, List.forall_mem_cons.mpr ⟨rk_RX8_9, List.forall_mem_cons.mpr ⟨rk_RX8_15, List.forall_mem_cons.mpr ⟨rk_RX8_19, List.forall_mem_cons.mpr ⟨rk_RX8_22, List.forall_mem_cons.mpr ⟨rk_RX8_25, List.forall_mem_cons.mpr ⟨rk_RX8_28, List.forall_mem_cons.mpr ⟨rk_RX8_31, List.forall_mem_cons.mpr ⟨rk_RX8_34, List.forall_mem_cons.mpr ⟨rk_RX8_37, List.forall_mem_cons.mpr ⟨rk_RX8_40, List.forall_mem_cons.mpr ⟨rk_RX8_43, List.forall_mem_cons.mpr ⟨rk_RX8_46, List.forall_mem_cons.mpr ⟨rk_RX8_49, List.forall_mem_cons.mpr ⟨rk_RX8_53, List.forall_mem_cons.mpr ⟨rk_RX8_56, List.forall_mem_cons.mpr ⟨rk_RX8_59, List.forall_mem_cons.mpr ⟨rk_RX8_63, List.forall_mem_cons.mpr ⟨rk_RX8_67, List.forall_mem_cons.mpr ⟨rk_RX8_70, List.forall_mem_cons.mpr ⟨rk_RX8_76, List.forall_mem_nil _⟩⟩⟩⟩⟩⟩⟩⟩⟩⟩⟩⟩⟩⟩⟩⟩⟩⟩⟩⟩⟩
def rt_RX9 : List (Nat × ak_X) := [(1, (14, 3, 0, 3)), (7, (15, 54, 4, 0)), (11, (13, 44, 1, 0))]
set_option maxRecDepth 100000 in
theorem rt_RX9_ok : ∀ e ∈ rt_RX9, ak_okr RX9 e.1 e.2 := List.forall_mem_cons.mpr ⟨rk_RX9_1, List.forall_mem_cons.mpr ⟨rk_RX9_7, List.forall_mem_cons.mpr ⟨rk_RX9_11, List.forall_mem_nil _⟩⟩⟩
def rt_RX10 : List (Nat × ak_X) := [(3, (16, 0, 0, 0)), (9, (1, 10, 0, 1)), (15, (1, 10, 1, 1)), (18, (1, 10, 4, 1)), (21, (1, 10, 2, 0)), (25, (8, 10, 1, 10)), (29, (1, 10, 3, 0)), (32, (19, 0, 0, 0)), (38, (11, 36, 2, 0)), (42, (11, 37, 2, 0)), (45, (11, 38, 3, 0)), (49, (20, 0, 0, 0)), (52, (1, 10, 5, 0)), (55, (1, 10, 6, 0)), (58, (1, 10, 10, 0)), (61, (1, 10, 11, 0)), (64, (8, 65, 0, 10)), (67, (8, 87, 1, 10)), (70, (8, 88, 0, 10)), (73, (8, 11, 0, 10)), (76, (1, 10, 8, 0)), (79, (8, 83, 0, 10)), (82, (8, 89, 0, 10)), (85, (8, 90, 0, 10)), (88, (8, 91, 0, 10)), (91, (8, 96, 0, 10)), (95, (8, 92, 0, 10)), (98, (8, 93, 0, 10)), (101, (8, 94, 0, 10)), (104, (1, 10, 9, 0)), (107, (8, 95, 1, 10)), (110, (1, 10, 7, 0)), (113, (8, 66, 1, 10)), (117, (8, 67, 1, 10)), (120, (8, 68, 0, 10)), (123, (8, 84, 1, 10)), (126, (8, 85, 0, 10)), (129, (8, 86, 1, 10)), (132, (8, 69, 0, 10)), (136, (8, 82, 0, 10)), (139, (5, 0, 0, 0)), (141, (8, 70, 1, 10)), (145, (5, 1, 0, 0)), (147, (5, 2, 0, 0)), (149, (5, 3, 0, 0)), (151, (5, 4, 0, 0)), (153, (5, 5, 0, 0)), (155, (5, 6, 0, 0)), (157, (5, 7, 0, 0)), (159, (5, 8, 0, 0)), (161, (5, 9, 0, 0)), (163, (5, 10, 0, 0)), (165, (5, 11, 0, 0)), (167, (9, 71, 0, 0)), (171, (9, 73, 1, 0))]
set_option maxRecDepth 100000 in
theorem rt_RX10_ok : ∀ e ∈ rt_RX10, ak_okr RX10 e.1 e.2 := List.forall_mem_cons.mpr ⟨rk_RX10_3, List.forall_mem_cons.mpr ⟨rk_RX10_9, List.forall_mem_cons.mpr ⟨rk_RX10_15, List.forall_mem_cons.mpr ⟨rk_RX10_18, List.forall_mem_cons.mpr ⟨rk_RX10_21, List.forall_mem_cons.mpr ⟨rk_RX10_25, List.forall_mem_cons.mpr ⟨rk_RX10_29, List.forall_mem_cons.mpr ⟨rk_RX10_32, List.forall_mem_cons.mpr ⟨rk_RX10_38, List.forall_mem_cons.mpr ⟨rk_RX10_42, List.forall_mem_cons.mpr ⟨rk_RX10_45, List.forall_mem_cons.mpr ⟨rk_RX10_49, List.forall_mem_cons.mpr ⟨rk_RX10_52, List.forall_mem_cons.mpr ⟨rk_RX10_55, List.forall_mem_cons.mpr ⟨rk_RX10_58, List.forall_mem_cons.mpr ⟨rk_RX10_61, List.forall_mem_cons.mpr ⟨rk_RX10_64, List.forall_mem_cons.mpr ⟨rk_RX10_67, List.forall_mem_cons.mpr ⟨rk_RX10_70, List.forall_mem_cons.mpr ⟨rk_RX10_73, List.forall_mem_cons.mpr ⟨rk_RX10_76, List.forall_mem_cons.mpr ⟨rk_RX10_79, List.forall_mem_cons.mpr ⟨rk_RX10_82, List.forall_mem_cons.mpr ⟨rk_RX10_85, List.forall_mem_cons.mpr ⟨rk_RX10_88, List.forall_mem_cons.mpr ⟨rk_RX10_91, List.forall_mem_cons.mpr ⟨rk_RX10_95, List.forall_mem_cons.mpr ⟨rk_RX10_98, List.forall_mem_cons.mpr ⟨rk_RX10_101, List.forall_mem_cons.mpr ⟨rk_RX10_104, List.forall_mem_cons.mpr ⟨rk_RX10_107, List.forall_mem_cons.mpr ⟨rk_RX10_110, List.forall_mem_cons.mpr ⟨rk_RX10_113, List.forall_mem_cons.mpr ⟨rk_RX10_117, List.forall_mem_cons.mpr ⟨rk_RX10_120, List.forall_mem_cons.mpr ⟨rk_RX10_123, List.forall_mem_cons.mpr ⟨rk_RX10_126, List.forall_mem_cons.mpr ⟨rk_RX10_129, List.forall_mem_cons.mpr ⟨rk_RX10_132, List.forall_mem_cons.mpr ⟨rk_RX10_136, List.forall_mem_cons.mpr ⟨rk_RX10_139, List.forall_mem_cons.mpr ⟨rk_RX10_141, List.forall_mem_cons.mpr ⟨rk_RX10_145, List.forall_mem_cons.mpr ⟨rk_RX10_147, List.forall_mem_cons.mpr ⟨rk_RX10_149, List.forall_mem_cons.mpr ⟨rk_RX10_151, List.forall_mem_cons.mpr ⟨rk_RX10_153, List.forall_mem_cons.mpr ⟨rk_RX10_155, List.forall_mem_cons.mpr ⟨rk_RX10_157, List.forall_mem_cons.mpr ⟨rk_RX10_159, List.forall_mem_cons.mpr ⟨rk_RX10_161, List.forall_mem_cons.mpr ⟨rk_RX10_163, List.forall_mem_cons.mpr ⟨rk_RX10_165, List.forall_mem_cons.mpr ⟨rk_RX10_167, List.forall_mem_cons.mpr ⟨rk_RX10_171, List.forall_mem_nil _⟩⟩⟩⟩⟩⟩⟩⟩⟩⟩⟩⟩⟩⟩⟩⟩⟩⟩⟩⟩⟩⟩⟩⟩⟩⟩⟩⟩⟩⟩⟩⟩⟩⟩⟩⟩⟩⟩⟩⟩⟩⟩⟩⟩⟩⟩⟩⟩⟩⟩⟩⟩⟩⟩⟩
def rt_RL : List (Nat × ak_X) := [(7, (7, 11, 0, 0)), (9, (14, 0, 0, 11)), (10, (7, 12, 0, 0)), (12, (14, 166, 0, 12)), (13, (8, 14, 3, 11)), (17, (8, 168, 3, 12)), (18, (8, 21, 3, 11)), (21, (8, 198, 3, 12)), (22, (8, 24, 3, 11)), (25, (8, 200, 3, 12)), (26, (8, 25, 2, 11)), (30, (8, 201, 2, 12)), (31, (8, 46, 2, 11)), (34, (8, 172, 2, 12)), (35, (8, 62, 1, 11)), (39, (8, 204, 1, 12)), (40, (8, 63, 0, 11)), (44, (8, 205, 0, 12)), (45, (8, 97, 1, 11)), (48, (8, 206, 1, 12)), (49, (8, 98, 1, 11)), (52, (8, 207, 1, 12)), (53, (8, 110, 0, 11)), (56, (8, 216, 0, 12)), (57, (8, 112, 1, 11)), (60, (8, 217, 1, 12)), (61, (8, 122, 1, 11)), (64, (8, 221, 1, 12)), (65, (8, 127, 1, 11)), (68, (8, 227, 1, 12)), (69, (8, 130, 2, 11)), (72, (8, 228, 2, 12)), (73, (8, 133, 0, 11)), (76, (8, 226, 0, 12)), (77, (8, 135, 3, 11)), (80, (8, 229, 3, 12)), (81, (8, 146, 2, 11)), (84, (8, 232, 2, 12)), (85, (8, 150, 1, 11)), (88, (8, 234, 1, 12)), (89, (8, 152, 3, 11)), (93, (8, 236, 3, 12)), (94, (8, 154, 0, 11)), (97, (8, 237, 0, 12)), (98, (8, 155, 0, 11)), (101, (8, 238, 0, 12)), (102, (8, 156, 1, 11)), (105, (8, 239, 1, 12)), (106, (8, 159, 3, 11)), (109, (8, 233, 3, 12)), (110, (8, 161, 3, 11)), (113, (8, 240, 3, 12)), (114, (8, 162, 5, 11)), (118, (8, 241, 5, 12)), (119, (8, 163, 4, 11)), (123, (8, 242, 4, 12)), (124, (8, 164, 2, 11)), (127, (8, 243, 2, 12))]
set_option maxRecDepth 100000 in
theorem rt_RL_ok : ∀ e ∈ rt_RL, ak_okr RL e.1 e.2 := List.forall_mem_cons.mpr ⟨rk_RL_7, List.forall_mem_cons.mpr ⟨rk_RL_9, List.forall_mem_cons.mpr ⟨rk_RL_10, List.forall_mem_cons.mpr ⟨rk_RL_12, List.forall_mem_cons.mpr ⟨rk_RL_13, List.forall_mem_cons.mpr ⟨rk_RL_17, List.forall_mem_cons.mpr ⟨rk_RL_18, List.forall_mem_cons.mpr ⟨rk_RL_21, List.forall_mem_cons.mpr ⟨rk_RL_22, List.forall_mem_cons.mpr ⟨rk_RL_25, List.forall_mem_cons.mpr ⟨rk_RL_26, List.forall_mem_cons.mpr ⟨rk_RL_30, List.forall_mem_cons.mpr ⟨rk_RL_31, List.forall_mem_cons.mpr ⟨rk_RL_34, List.forall_mem_cons.mpr ⟨rk_RL_35, List.forall_mem_cons.mpr ⟨rk_RL_39, List.forall_mem_cons.mpr ⟨rk_RL_40, List.forall_mem_cons.mpr ⟨rk_RL_44, List.forall_mem_cons.mpr ⟨rk_RL_45, List.forall_mem_cons.mpr ⟨rk_RL_48, List.forall_mem_cons.mpr ⟨rk_RL_49, List.forall_mem_cons.mpr ⟨rk_RL_52, List.forall_mem_cons.mpr ⟨rk_RL_53, List.forall_mem_cons.mpr ⟨rk_RL_56, List.forall_mem_cons.mpr ⟨rk_RL_57, List.forall_mem_cons.mpr ⟨rk_RL_60, List.forall_mem_cons.mpr ⟨rk_RL_61, List.forall_mem_cons.mpr ⟨rk_RL_64, List.forall_mem_cons.mpr ⟨rk_RL_65, List.forall_mem_cons.mpr ⟨rk_RL_68, List.forall_mem_cons.mpr ⟨rk_RL_69, List.forall_mem_cons.mpr ⟨rk_RL_72, List.forall_mem_cons.mpr ⟨rk_RL_73, List.forall_mem_cons.mpr ⟨rk_RL_76, List.forall_mem_cons.mpr ⟨rk_RL_77, List.forall_mem_cons.mpr ⟨rk_RL_80, List.forall_mem_cons.mpr ⟨rk_RL_81, List.forall_mem_cons.mpr ⟨rk_RL_84, List.forall_mem_cons.mpr ⟨rk_RL_85, List.forall_mem_cons.mpr ⟨rk_RL_88, List.forall_mem_cons.mpr ⟨rk_RL_89, List.forall_mem_cons.mpr ⟨rk_RL_93, List.forall_mem_cons.mpr ⟨rk_RL_94, List.forall_mem_cons.mpr ⟨rk_RL_97, List.forall_mem_cons.mpr ⟨rk_RL_98, List.forall_mem_cons.mpr ⟨rk_RL_101, List.forall_mem_cons.mpr ⟨rk_RL_102, List.forall_mem_cons.mpr ⟨rk_RL_105, List.forall_mem_cons.mpr ⟨rk_RL_106, List.forall_mem_cons.mpr ⟨rk_RL_109, List.forall_mem_cons.mpr ⟨rk_RL_110, List.forall_mem_cons.mpr ⟨rk_RL_113, List.forall_mem_cons.mpr ⟨rk_RL_114, List.forall_mem_cons.mpr ⟨rk_RL_118, List.forall_mem_cons.mpr ⟨rk_RL_119, List.forall_mem_cons.mpr ⟨rk_RL_123, List.forall_mem_cons.mpr ⟨rk_RL_124, List.forall_mem_cons.mpr ⟨rk_RL_127, List.forall_mem_nil _⟩⟩⟩⟩⟩⟩⟩⟩⟩⟩⟩⟩⟩⟩⟩⟩⟩⟩⟩⟩⟩⟩⟩⟩⟩⟩⟩⟩⟩⟩⟩⟩⟩⟩⟩⟩⟩⟩⟩⟩⟩⟩⟩⟩⟩⟩⟩⟩⟩⟩⟩⟩⟩⟩⟩⟩⟩⟩
def rt_RX12 : List (Nat × ak_X) := [(7, (16, 0, 0, 0)), (13, (1, 12, 1, 1)), (17, (1, 12, 2, 1)), (20, (1, 12, 5, 1)), (23, (1, 12, 7, 1)), (26, (1, 12, 8, 1)), (29, (1, 12, 9, 1)), (32, (1, 12, 10, 1)), (35, (1, 12, 27, 1)), (39, (1, 12, 28, 1)), (42, (1, 12, 29, 1)), (45, (1, 12, 30, 1)), (48, (1, 12, 34, 1)), (51, (1, 12, 35, 1)), (54, (1, 12, 36, 1)), (57, (1, 12, 37, 1)), (60, (1, 12, 38, 0)), (63, (1, 12, 40, 1)), (66, (1, 12, 41, 1)), (69, (1, 12, 42, 1)), (72, (1, 12, 43, 1)), (75, (8, 167, 9, 12)), (79, (1, 12, 3, 0)), (82, (1, 12, 11, 0)), (85, (11, 169, 3, 0)), (89, (6, 0, 0, 7)), (91, (6, 0, 0, 6)), (93, (8, 170, 1, 12)), (97, (11, 171, 1, 0)), (101, (8, 172, 2, 12)), (105, (8, 197, 3, 12)), (109, (1, 12, 4, 0)), (112, (6, 0, 0, 5)), (114, (6, 0, 0, 9)), (116, (6, 0, 0, 4)), (118, (8, 199, 3, 12)), (121, (11, 202, 1, 0)), (124, (8, 203, 2, 12)), (128, (6, 0, 0, 20)), (130, (6, 0, 0, 27)), (132, (6, 0, 0, 30)), (134, (6, 0, 0, 37)), (136, (6, 0, 0, 10)), (138, (8, 173, 2, 12)), (141, (8, 193, 2, 12)), (144, (8, 194, 2, 12)), (147, (8, 196, 1, 12)), (150, (6, 0, 0, 255)), (152, (1, 12, 6, 0)), (155, (1, 12, 19, 0)), (158, (1, 12, 18, 0)), (161, (1, 12, 20, 0)), (164, (8, 178, 1, 12)), (167, (1, 12, 22, 0)), (170, (1, 12, 21, 0)), (173, (6, 0, 0, 97)), (175, (6, 0, 0, 122)), (177, (6, 0, 0, 48)), (179, (6, 0, 0, 57)), (181, (1, 12, 23, 0)), (185, (1, 12, 25, 0)), (189, (1, 12, 26, 0)), (192, (8, 180, 2, 12)), (195, (1, 12, 24, 0)), (198, (8, 182, 0, 12)), (201, (8, 177, 0, 12)), (204, (8, 179, 8, 12)), (208, (1, 12, 12, 0)), (211, (1, 12, 13, 0)), (214, (1, 12, 14, 0)), (217, (1, 12, 15, 0)), (220, (1, 12, 16, 0)), (223, (1, 12, 17, 0)), (226, (8, 190, 1, 12)), (229, (8, 186, 0, 12)), (233, (8, 189, 0, 12)), (237, (8, 183, 0, 12)), (240, (8, 191, 0, 12)), (243, (8, 188, 0, 12)), (246, (6, 0, 0, 43)), (248, (8, 185, 0, 12)), (251, (8, 187, 0, 12)), (254, (6, 0, 0, 60)), (256, (8, 184, 0, 12)), (259, (8, 181, 1, 12)), (263, (8, 176, 2, 12)), (266, (8, 174, 2, 12)), (269, (11, 192, 3, 0)), (273, (8, 175, 3, 12)), (276, (6, 0, 0, 3)), (278, (8, 195, 2, 12)), (281, (8, 213, 1, 12)), (284, (11, 214, 1, 0)), (287, (8, 212, 1, 12)), (290, (8, 211, 0, 12)), (293, (6, 0, 0, 2)), (295, (6, 0, 0, 17)), (297, (4, 0, 0, -100000)), (298, (8, 208, 0, 12)), (301, (8, 209, 0, 12)), (304, (8, 210, 0, 12)), (307, (8, 215, 0, 12)), (310, (8, 219, 0, 12)), (313, (1, 12, 31, 0)), (316, (1, 12, 33, 0)), (319, (8, 220, 0, 12)), (322, (1, 12, 32, 0)), (325, (8, 218, 2, 12)), (329, (8, 223, 1, 12)), (332, (8, 224, 1, 12)), (336, (8, 222, 0, 12)), (339, (8, 225, 0, 12)), (342, (11, 230, 1, 0)), (345, (8, 231, 2, 12)), (348, (8, 233, 3, 12)), (351, (4, 0, 0, 1103515245)), (352, (8, 235, 1, 12)), (355, (6, 0, 0, -4611686018427387904)), (357, (1, 12, 39, 0)), (360, (6, 0, 0, -1)), (362, (8, 198, 3, 12)), (365, (11, 244, 1, 0))]
set_option maxRecDepth 100000 in
theorem rt_RX12_ok : ∀ e ∈ rt_RX12, ak_okr RX12 e.1 e.2 := List.forall_mem_cons.mpr ⟨rk_RX12_7, List.forall_mem_cons.mpr ⟨rk_RX12_13, List.forall_mem_cons.mpr ⟨rk_RX12_17, List.forall_mem_cons.mpr ⟨rk_RX12_20, List.forall_mem_cons.mpr ⟨rk_RX12_23, List.forall_mem_cons.mpr ⟨rk_RX12_26, List.forall_mem_cons.mpr ⟨rk_RX12_29, List.forall_mem_cons.mpr ⟨rk_RX12_32, List.forall_mem_cons.mpr ⟨rk_RX12_35, List.forall_mem_cons.mpr ⟨rk_RX12_39, List.forall_mem_cons.mpr ⟨rk_RX12_42, List.forall_mem_cons.mpr ⟨rk_RX12_45, List.forall_mem_cons.mpr ⟨rk_RX12_48, List.forall_mem_cons.mpr ⟨rk_RX12_51, List.forall_mem_cons.mpr ⟨rk_RX12_54, List.forall_mem_cons.mpr ⟨rk_RX12_57, List.forall_mem_cons.mpr ⟨rk_RX12_60, List.forall_mem_cons.mpr ⟨rk_RX12_63, List.forall_mem_cons.mpr ⟨rk_RX12_66, List.forall_mem_cons.mpr ⟨rk_RX12_69, List.forall_mem_cons.mpr ⟨rk_RX12_72, List.forall_mem_cons.mpr ⟨rk_RX12_75, List.forall_mem_cons.mpr ⟨rk_RX12_79, List.forall_mem_cons.mpr ⟨rk_RX12_82, List.forall_mem_cons.mpr ⟨rk_RX12_85, List.forall_mem_cons.mpr ⟨rk_RX12_89, List.forall_mem_cons.mpr ⟨rk_RX12_91, List.forall_mem_cons.mpr ⟨rk_RX12_93, List.forall_mem_cons.mpr ⟨rk_RX12_97, List.forall_mem_cons.mpr ⟨rk_RX12_101, List.forall_mem_cons.mpr ⟨rk_RX12_105, List.forall_mem_cons.mpr ⟨rk_RX12_109, List.forall_mem_cons.mpr ⟨rk_RX12_112, List.forall_mem_cons.mpr ⟨rk_RX12_114, List.forall_mem_cons.mpr ⟨rk_RX12_116, List.forall_mem_cons.mpr ⟨rk_RX12_118, List.forall_mem_cons.mpr ⟨rk_RX12_121, List.forall_mem_cons.mpr ⟨rk_RX12_124, List.forall_mem_cons.mpr ⟨rk_RX12_128, List.forall_mem_cons.mpr ⟨rk_RX12_130, List.forall_mem_cons.mpr ⟨rk_RX12_132, List.forall_mem_cons.mpr ⟨rk_RX12_134, List.forall_mem_cons.mpr ⟨rk_RX12_136, List.forall_mem_cons.mpr ⟨rk_RX12_138, List.forall_mem_cons.mpr ⟨rk_RX12_141, List.forall_mem_cons.mpr ⟨rk_RX12_144, List.forall_mem_cons.mpr ⟨rk_RX12_147, List.forall_mem_cons.mpr ⟨rk_RX12_150, List.forall_mem_cons.mpr ⟨rk_RX12_152, List.forall_mem_cons.mpr ⟨rk_RX12_155, List.forall_mem_cons.mpr ⟨rk_RX12_158, List.forall_mem_cons.mpr ⟨rk_RX12_161, List.forall_mem_cons.mpr ⟨rk_RX12_164, List.forall_mem_cons.mpr ⟨rk_RX12_167, List.forall_mem_cons.mpr ⟨rk_RX12_170, List.forall_mem_cons.mpr ⟨rk_RX12_173, List.forall_mem_cons.mpr ⟨rk_RX12_175, List.forall_mem_cons.mpr ⟨rk_RX12_177, List.forall_mem_cons.mpr ⟨rk_RX12_179, List.forall_mem_cons.mpr ⟨rk_RX12_181, List.forall_mem_cons.mpr ⟨rk_RX12_185, List.forall_mem_cons.mpr ⟨rk_RX12_189, List.forall_mem_cons.mpr ⟨rk_RX12_192, List.forall_mem_cons.mpr ⟨rk_RX12_195, List.forall_mem_cons.mpr ⟨rk_RX12_198, List.forall_mem_cons.mpr ⟨rk_RX12_201, List.forall_mem_cons.mpr ⟨rk_RX12_204, List.forall_mem_cons.mpr ⟨rk_RX12_208, List.forall_mem_cons.mpr ⟨rk_RX12_211, List.forall_mem_cons.mpr ⟨rk_RX12_214, List.forall_mem_cons.mpr ⟨rk_RX12_217, List.forall_mem_cons.mpr ⟨rk_RX12_220, List.forall_mem_cons.mpr ⟨rk_RX12_223, List.forall_mem_cons.mpr ⟨rk_RX12_226, List.forall_mem_cons.mpr ⟨rk_RX12_229, List.forall_mem_cons.mpr ⟨rk_RX12_233, List.forall_mem_cons.mpr ⟨rk_RX12_237, List.forall_mem_cons.mpr ⟨rk_RX12_240, List.forall_mem_cons.mpr ⟨rk_RX12_243, List.forall_mem_cons.mpr ⟨rk_RX12_246, List.forall_mem_cons.mpr ⟨rk_RX12_248, List.forall_mem_cons.mpr ⟨rk_RX12_251, List.forall_mem_cons.mpr ⟨rk_RX12_254, List.forall_mem_cons.mpr ⟨rk_RX12_256, List.forall_mem_cons.mpr ⟨rk_RX12_259, List.forall_mem_cons.mpr ⟨rk_RX12_263, List.forall_mem_cons.mpr ⟨rk_RX12_266, List.forall_mem_cons.mpr ⟨rk_RX12_269, List.forall_mem_cons.mpr ⟨rk_RX12_273, List.forall_mem_cons.mpr ⟨rk_RX12_276, List.forall_mem_cons.mpr ⟨rk_RX12_278, List.forall_mem_cons.mpr ⟨rk_RX12_281, List.forall_mem_cons.mpr ⟨rk_RX12_284, List.forall_mem_cons.mpr ⟨rk_RX12_287, List.forall_mem_cons.mpr ⟨rk_RX12_290, List.forall_mem_cons.mpr ⟨rk_RX12_293, List.forall_mem_cons.mpr ⟨rk_RX12_295, List.forall_mem_cons.mpr ⟨rk_RX12_297, List.forall_mem_cons.mpr ⟨rk_RX12_298, List.forall_mem_cons.mpr ⟨rk_RX12_301, List.forall_mem_cons.mpr ⟨rk_RX12_304, List.forall_mem_cons.mpr ⟨rk_RX12_307, List.forall_mem_cons.mpr ⟨rk_RX12_310, List.forall_mem_cons.mpr ⟨rk_RX12_313, List.forall_mem_cons.mpr ⟨rk_RX12_316, List.forall_mem_cons.mpr ⟨rk_RX12_319, List.forall_mem_cons.mpr ⟨rk_RX12_322, List.forall_mem_cons.mpr ⟨rk_RX12_325, List.forall_mem_cons.mpr ⟨rk_RX12_329, List.forall_mem_cons.mpr ⟨rk_RX12_332, List.forall_mem_cons.mpr ⟨rk_RX12_336, List.forall_mem_cons.mpr ⟨rk_RX12_339, List.forall_mem_cons.mpr ⟨rk_RX12_342, List.forall_mem_cons.mpr ⟨rk_RX12_345, List.forall_mem_cons.mpr ⟨rk_RX12_348, List.forall_mem_cons.mpr ⟨rk_RX12_351, List.forall_mem_cons.mpr ⟨rk_RX12_352, List.forall_mem_cons.mpr ⟨rk_RX12_355, List.forall_mem_cons.mpr ⟨rk_RX12_357, List.forall_mem_cons.mpr ⟨rk_RX12_360, List.forall_mem_cons.mpr ⟨rk_RX12_362, List.forall_mem_cons.mpr ⟨rk_RX12_365, List.forall_mem_nil _⟩⟩⟩⟩⟩⟩⟩⟩⟩⟩⟩⟩⟩⟩⟩⟩⟩⟩⟩⟩⟩⟩⟩⟩⟩⟩⟩⟩⟩⟩⟩⟩⟩⟩⟩⟩⟩⟩⟩⟩⟩⟩⟩⟩⟩⟩⟩⟩⟩⟩⟩⟩⟩⟩⟩⟩⟩⟩⟩⟩⟩⟩⟩⟩⟩⟩⟩⟩⟩⟩⟩⟩⟩⟩⟩⟩⟩⟩⟩⟩⟩⟩⟩⟩⟩⟩⟩⟩⟩⟩⟩⟩⟩⟩⟩⟩⟩⟩⟩⟩⟩⟩⟩⟩⟩⟩⟩⟩⟩⟩⟩⟩⟩⟩⟩⟩⟩⟩⟩⟩⟩⟩
def rt_RJ6 : List (Nat × ak_X) := [(265, (4, 0, 0, 1431655765)), (266, (4, 0, 0, 858993459)), (267, (4, 0, 0, 252645135))]
set_option maxRecDepth 100000 in
theorem rt_RJ6_ok : ∀ e ∈ rt_RJ6, ak_okr RJ6 e.1 e.2 := List.forall_mem_cons.mpr ⟨rk_RJ6_265, List.forall_mem_cons.mpr ⟨rk_RJ6_266, List.forall_mem_cons.mpr ⟨rk_RJ6_267, List.forall_mem_nil _⟩⟩⟩
def rt_RJ0 : List (Nat × ak_X) := [(9, (2, 0, 0, 0)), (15, (2, 1, 0, 0)), (38, (3, 2, 0, 0)), (335, (9, 72, 0, 0)), (492, (9, 74, 0, 0)), (495, (11, 75, 2, 0)), (498, (11, 78, 2, 0)), (1053, (3, 3, 0, 0)), (1059, (11, 77, 3, 0))]
set_option maxRecDepth 100000 in
theorem rt_RJ0_ok : ∀ e ∈ rt_RJ0, ak_okr RJ0 e.1 e.2 := List.forall_mem_cons.mpr ⟨rk_RJ0_9, List.forall_mem_cons.mpr ⟨rk_RJ0_15, List.forall_mem_cons.mpr ⟨rk_RJ0_38, List.forall_mem_cons.mpr ⟨rk_RJ0_335, List.forall_mem_cons.mpr ⟨rk_RJ0_492, List.forall_mem_cons.mpr ⟨rk_RJ0_495, List.forall_mem_cons.mpr ⟨rk_RJ0_498, List.forall_mem_cons.mpr ⟨rk_RJ0_1053, List.forall_mem_cons.mpr ⟨rk_RJ0_1059, List.forall_mem_nil _⟩⟩⟩⟩⟩⟩⟩⟩⟩
def rt_RJ1 : List (Nat × ak_X) := [(9, (11, 76, 2, 0))]
set_option maxRecDepth 100000 in
theorem rt_RJ1_ok : ∀ e ∈ rt_RJ1, ak_okr RJ1 e.1 e.2 := List.forall_mem_cons.mpr ⟨rk_RJ1_9, List.forall_mem_nil _⟩
def rt_RJ2 : List (Nat × ak_X) := [(44, (0, 0, 0, 0)), (48, (11, 80, 1, 0)), (59, (0, 0, 0, 0)), (63, (0, 0, 0, 0)), (67, (11, 79, 2, 0)), (71, (11, 81, 2, 0)), (414, (11, 76, 2, 0))]
set_option maxRecDepth 100000 in
theorem rt_RJ2_ok : ∀ e ∈ rt_RJ2, ak_okr RJ2 e.1 e.2 := List.forall_mem_cons.mpr ⟨rk_RJ2_44, List.forall_mem_cons.mpr ⟨rk_RJ2_48, List.forall_mem_cons.mpr ⟨rk_RJ2_59, List.forall_mem_cons.mpr ⟨rk_RJ2_63, List.forall_mem_cons.mpr ⟨rk_RJ2_67, List.forall_mem_cons.mpr ⟨rk_RJ2_71, List.forall_mem_cons.mpr ⟨rk_RJ2_414, List.forall_mem_nil _⟩⟩⟩⟩⟩⟩⟩
/-- a method's table speaks of its class's pool as that stands -/
def ak_coh (rt : List (Nat × ak_X)) : List ak_I → Bool
  | [] => true
  | none :: t => ak_coh rt t
  | some q :: t => (match ak_idx q.1 with
    | none => true
    | some i => match q.2.2.1 with
      | 0 => true
      | _ => rt.any (fun e => decide (e = (i, q.2.2)))) && ak_coh rt t
theorem ak_coh_at {rt : List (Nat × ak_X)} {own : String} (hr : ∀ e ∈ rt, ak_okr own e.1 e.2) : ∀ (l : List ak_I), ak_coh rt l = true → ∀ (k : Nat) (q : Instr × Nat × ak_X) (i : Nat), l[k]? = some (some q) → ak_idx q.1 = some i → ak_okr own i q.2.2
  | [], _, k, q, i, h, _ => by simp at h
  | a :: t, hc, k, q, i, h, hi => by
    cases k with
    | zero =>
      rw [List.getElem?_cons_zero] at h
      cases h
      simp only [ak_coh, Bool.and_eq_true, hi] at hc
      obtain ⟨ins, w, x⟩ := q
      obtain ⟨x0, x1, x2, x3⟩ := x
      have h1 := hc.1
      split at h1
      · rename_i e
        change x0 = 0 at e
        subst e
        trivial
      · obtain ⟨e, he, hd⟩ := List.any_eq_true.mp h1
        have hd := of_decide_eq_true hd
        have := hr e he
        rw [hd] at this
        exact this
    | succ k =>
      rw [List.getElem?_cons_succ] at h
      refine ak_coh_at hr t ?_ k q i h hi
      cases a with
      | none => exact hc
      | some a => simp only [ak_coh, Bool.and_eq_true] at hc; exact hc.2
/-- what is known of each method -/
def ak_mall (q : ak_Q) : Prop := ak_chk q.2.1 0 q.2.2.2.2.1 = true ∧ (∀ (k : Nat) (e : Instr × Nat × ak_X) (i : Nat), q.2.2.2.2.1[k]? = some (some e) → ak_idx e.1 = some i → ak_okr q.1.cls i e.2.2) ∧ (∀ r : vw_C, vwCl[q.2.2.2.2.2]? = some r → r.1 = q.1.cls)
set_option maxRecDepth 100000 in
theorem ma_0 : ak_mall q_0 := ⟨kd_0, ak_coh_at rt_RX11_ok _ (by decide +kernel), fun r h => by cases h; rfl⟩
set_option maxRecDepth 100000 in
theorem ma_1 : ak_mall q_1 := ⟨kd_1, ak_coh_at rt_RX8_ok _ (by decide +kernel), fun r h => by cases h; rfl⟩
set_option maxRecDepth 100000 in
theorem ma_2 : ak_mall q_2 := ⟨kd_2, ak_coh_at rt_RX6_ok _ (by decide +kernel), fun r h => by cases h; rfl⟩
set_option maxRecDepth 100000 in
theorem ma_3 : ak_mall q_3 := ⟨kd_3, ak_coh_at rt_RX3_ok _ (by decide +kernel), fun r h => by cases h; rfl⟩
set_option maxRecDepth 100000 in
theorem ma_4 : ak_mall q_4 := ⟨kd_4, ak_coh_at rt_RX4_ok _ (by decide +kernel), fun r h => by cases h; rfl⟩
set_option maxRecDepth 100000 in
theorem ma_5 : ak_mall q_5 := ⟨kd_5, ak_coh_at rt_RX9_ok _ (by decide +kernel), fun r h => by cases h; rfl⟩
set_option maxRecDepth 100000 in
theorem ma_6 : ak_mall q_6 := ⟨kd_6, ak_coh_at rt_RX2_ok _ (by decide +kernel), fun r h => by cases h; rfl⟩
set_option maxRecDepth 100000 in
theorem ma_7 : ak_mall q_7 := ⟨kd_7, ak_coh_at rt_RX1_ok _ (by decide +kernel), fun r h => by cases h; rfl⟩
set_option maxRecDepth 100000 in
theorem ma_8 : ak_mall q_8 := ⟨kd_8, ak_coh_at rt_RX0_ok _ (by decide +kernel), fun r h => by cases h; rfl⟩
set_option maxRecDepth 100000 in
theorem ma_9 : ak_mall q_9 := ⟨kd_9, ak_coh_at rt_RX10_ok _ (by decide +kernel), fun r h => by cases h; rfl⟩
set_option maxRecDepth 100000 in
theorem ma_10 : ak_mall q_10 := ⟨kd_10, ak_coh_at rt_RX10_ok _ (by decide +kernel), fun r h => by cases h; rfl⟩
set_option maxRecDepth 100000 in
theorem ma_11 : ak_mall q_11 := ⟨kd_11, ak_coh_at rt_RX10_ok _ (by decide +kernel), fun r h => by cases h; rfl⟩
set_option maxRecDepth 100000 in
theorem ma_12 : ak_mall q_12 := ⟨kd_12, ak_coh_at rt_RX5_ok _ (by decide +kernel), fun r h => by cases h; rfl⟩
set_option maxRecDepth 100000 in
theorem ma_13 : ak_mall q_13 := ⟨kd_13, ak_coh_at rt_RX7_ok _ (by decide +kernel), fun r h => by cases h; rfl⟩
set_option maxRecDepth 100000 in
theorem ma_14 : ak_mall q_14 := ⟨kd_14, ak_coh_at rt_RX11_ok _ (by decide +kernel), fun r h => by cases h; rfl⟩
set_option maxRecDepth 100000 in
theorem ma_15 : ak_mall q_15 := ⟨kd_15, ak_coh_at rt_RX8_ok _ (by decide +kernel), fun r h => by cases h; rfl⟩
set_option maxRecDepth 100000 in
theorem ma_16 : ak_mall q_16 := ⟨kd_16, ak_coh_at rt_RX8_ok _ (by decide +kernel), fun r h => by cases h; rfl⟩
set_option maxRecDepth 100000 in
theorem ma_17 : ak_mall q_17 := ⟨kd_17, ak_coh_at rt_RX8_ok _ (by decide +kernel), fun r h => by cases h; rfl⟩
set_option maxRecDepth 100000 in
theorem ma_18 : ak_mall q_18 := ⟨kd_18, ak_coh_at rt_RX8_ok _ (by decide +kernel), fun r h => by cases h; rfl⟩
set_option maxRecDepth 100000 in
theorem ma_19 : ak_mall q_19 := ⟨kd_19, ak_coh_at rt_RX8_ok _ (by decide +kernel), fun r h => by cases h; rfl⟩
set_option maxRecDepth 100000 in
theorem ma_20 : ak_mall q_20 := ⟨kd_20, ak_coh_at rt_RX8_ok _ (by decide +kernel), fun r h => by cases h; rfl⟩
set_option maxRecDepth 100000 in
theorem ma_21 : ak_mall q_21 := ⟨kd_21, ak_coh_at rt_RX11_ok _ (by decide +kernel), fun r h => by cases h; rfl⟩
set_option maxRecDepth 100000 in
theorem ma_22 : ak_mall q_22 := ⟨kd_22, ak_coh_at rt_RX8_ok _ (by decide +kernel), fun r h => by cases h; rfl⟩
set_option maxRecDepth 100000 in
theorem ma_23 : ak_mall q_23 := ⟨kd_23, ak_coh_at rt_RX8_ok _ (by decide +kernel), fun r h => by cases h; rfl⟩
set_option maxRecDepth 100000 in
theorem ma_24 : ak_mall q_24 := ⟨kd_24, ak_coh_at rt_RX11_ok _ (by decide +kernel), fun r h => by cases h; rfl⟩
set_option maxRecDepth 100000 in
theorem ma_25 : ak_mall q_25 := ⟨kd_25, ak_coh_at rt_RX11_ok _ (by decide +kernel), fun r h => by cases h; rfl⟩
set_option maxRecDepth 100000 in
theorem ma_26 : ak_mall q_26 := ⟨kd_26, ak_coh_at rt_RX11_ok _ (by decide +kernel), fun r h => by cases h; rfl⟩
set_option maxRecDepth 100000 in
theorem ma_27 : ak_mall q_27 := ⟨kd_27, ak_coh_at rt_RX6_ok _ (by decide +kernel), fun r h => by cases h; rfl⟩
set_option maxRecDepth 100000 in
theorem ma_28 : ak_mall q_28 := ⟨kd_28, ak_coh_at rt_RX8_ok _ (by decide +kernel), fun r h => by cases h; rfl⟩
set_option maxRecDepth 100000 in
theorem ma_29 : ak_mall q_29 := ⟨kd_29, ak_coh_at rt_RX6_ok _ (by decide +kernel), fun r h => by cases h; rfl⟩
set_option maxRecDepth 100000 in
theorem ma_30 : ak_mall q_30 := ⟨kd_30, ak_coh_at rt_RX6_ok _ (by decide +kernel), fun r h => by cases h; rfl⟩
set_option maxRecDepth 100000 in
theorem ma_31 : ak_mall q_31 := ⟨kd_31, ak_coh_at rt_RX6_ok _ (by decide +kernel), fun r h => by cases h; rfl⟩
set_option maxRecDepth 100000 in
theorem ma_32 : ak_mall q_32 := ⟨kd_32, ak_coh_at rt_RX8_ok _ (by decide +kernel), fun r h => by cases h; rfl⟩
set_option maxRecDepth 100000 in
theorem ma_33 : ak_mall q_33 := ⟨kd_33, ak_coh_at rt_RX8_ok _ (by decide +kernel), fun r h => by cases h; rfl⟩
set_option maxRecDepth 100000 in
theorem ma_34 : ak_mall q_34 := ⟨kd_34, ak_coh_at rt_RX6_ok _ (by decide +kernel), fun r h => by cases h; rfl⟩
set_option maxRecDepth 100000 in
theorem ma_35 : ak_mall q_35 := ⟨kd_35, ak_coh_at rt_RX10_ok _ (by decide +kernel), fun r h => by cases h; rfl⟩
set_option maxRecDepth 100000 in
theorem ma_36 : ak_mall q_36 := ⟨kd_36, ak_coh_at rt_RX10_ok _ (by decide +kernel), fun r h => by cases h; rfl⟩
set_option maxRecDepth 100000 in
theorem ma_37 : ak_mall q_37 := ⟨kd_37, ak_coh_at rt_RX10_ok _ (by decide +kernel), fun r h => by cases h; rfl⟩
set_option maxRecDepth 100000 in
theorem ma_38 : ak_mall q_38 := ⟨kd_38, ak_coh_at rt_RX10_ok _ (by decide +kernel), fun r h => by cases h; rfl⟩
set_option maxRecDepth 100000 in
theorem ma_39 : ak_mall q_39 := ⟨kd_39, ak_coh_at rt_RX6_ok _ (by decide +kernel), fun r h => by cases h; rfl⟩
set_option maxRecDepth 100000 in
theorem ma_40 : ak_mall q_40 := ⟨kd_40, ak_coh_at rt_RX0_ok _ (by decide +kernel), fun r h => by cases h; rfl⟩
set_option maxRecDepth 100000 in
theorem ma_41 : ak_mall q_41 := ⟨kd_41, ak_coh_at rt_RX1_ok _ (by decide +kernel), fun r h => by cases h; rfl⟩
set_option maxRecDepth 100000 in
theorem ma_42 : ak_mall q_42 := ⟨kd_42, ak_coh_at rt_RX2_ok _ (by decide +kernel), fun r h => by cases h; rfl⟩
set_option maxRecDepth 100000 in
theorem ma_43 : ak_mall q_43 := ⟨kd_43, ak_coh_at rt_RX9_ok _ (by decide +kernel), fun r h => by cases h; rfl⟩
set_option maxRecDepth 100000 in
theorem ma_44 : ak_mall q_44 := ⟨kd_44, ak_coh_at rt_RX3_ok _ (by decide +kernel), fun r h => by cases h; rfl⟩
set_option maxRecDepth 100000 in
theorem ma_45 : ak_mall q_45 := ⟨kd_45, ak_coh_at rt_RX3_ok _ (by decide +kernel), fun r h => by cases h; rfl⟩
set_option maxRecDepth 100000 in
theorem ma_46 : ak_mall q_46 := ⟨kd_46, ak_coh_at rt_RX11_ok _ (by decide +kernel), fun r h => by cases h; rfl⟩
set_option maxRecDepth 100000 in
theorem ma_47 : ak_mall q_47 := ⟨kd_47, ak_coh_at rt_RX6_ok _ (by decide +kernel), fun r h => by cases h; rfl⟩
set_option maxRecDepth 100000 in
theorem ma_48 : ak_mall q_48 := ⟨kd_48, ak_coh_at rt_RX6_ok _ (by decide +kernel), fun r h => by cases h; rfl⟩
set_option maxRecDepth 100000 in
theorem ma_49 : ak_mall q_49 := ⟨kd_49, ak_coh_at rt_RX0_ok _ (by decide +kernel), fun r h => by cases h; rfl⟩
set_option maxRecDepth 100000 in
theorem ma_50 : ak_mall q_50 := ⟨kd_50, ak_coh_at rt_RX1_ok _ (by decide +kernel), fun r h => by cases h; rfl⟩
set_option maxRecDepth 100000 in
theorem ma_51 : ak_mall q_51 := ⟨kd_51, ak_coh_at rt_RX9_ok _ (by decide +kernel), fun r h => by cases h; rfl⟩
set_option maxRecDepth 100000 in
theorem ma_52 : ak_mall q_52 := ⟨kd_52, ak_coh_at rt_RX2_ok _ (by decide +kernel), fun r h => by cases h; rfl⟩
set_option maxRecDepth 100000 in
theorem ma_53 : ak_mall q_53 := ⟨kd_53, ak_coh_at rt_RX4_ok _ (by decide +kernel), fun r h => by cases h; rfl⟩
set_option maxRecDepth 100000 in
theorem ma_54 : ak_mall q_54 := ⟨kd_54, ak_coh_at rt_RX3_ok _ (by decide +kernel), fun r h => by cases h; rfl⟩
set_option maxRecDepth 100000 in
theorem ma_55 : ak_mall q_55 := ⟨kd_55, ak_coh_at rt_RX6_ok _ (by decide +kernel), fun r h => by cases h; rfl⟩
set_option maxRecDepth 100000 in
theorem ma_56 : ak_mall q_56 := ⟨kd_56, ak_coh_at rt_RX0_ok _ (by decide +kernel), fun r h => by cases h; rfl⟩
set_option maxRecDepth 100000 in
theorem ma_57 : ak_mall q_57 := ⟨kd_57, ak_coh_at rt_RX1_ok _ (by decide +kernel), fun r h => by cases h; rfl⟩
set_option maxRecDepth 100000 in
theorem ma_58 : ak_mall q_58 := ⟨kd_58, ak_coh_at rt_RX4_ok _ (by decide +kernel), fun r h => by cases h; rfl⟩
set_option maxRecDepth 100000 in
theorem ma_59 : ak_mall q_59 := ⟨kd_59, ak_coh_at rt_RX9_ok _ (by decide +kernel), fun r h => by cases h; rfl⟩
set_option maxRecDepth 100000 in
theorem ma_60 : ak_mall q_60 := ⟨kd_60, ak_coh_at rt_RX3_ok _ (by decide +kernel), fun r h => by cases h; rfl⟩
set_option maxRecDepth 100000 in
theorem ma_61 : ak_mall q_61 := ⟨kd_61, ak_coh_at rt_RX11_ok _ (by decide +kernel), fun r h => by cases h; rfl⟩
set_option maxRecDepth 100000 in
theorem ma_62 : ak_mall q_62 := ⟨kd_62, ak_coh_at rt_RX11_ok _ (by decide +kernel), fun r h => by cases h; rfl⟩
set_option maxRecDepth 100000 in
theorem ma_63 : ak_mall q_63 := ⟨kd_63, ak_coh_at rt_RX11_ok _ (by decide +kernel), fun r h => by cases h; rfl⟩
set_option maxRecDepth 100000 in
theorem ma_64 : ak_mall q_64 := ⟨kd_64, ak_coh_at rt_RX10_ok _ (by decide +kernel), fun r h => by cases h; rfl⟩
set_option maxRecDepth 100000 in
theorem ma_65 : ak_mall q_65 := ⟨kd_65, ak_coh_at rt_RX10_ok _ (by decide +kernel), fun r h => by cases h; rfl⟩
set_option maxRecDepth 100000 in
theorem ma_66 : ak_mall q_66 := ⟨kd_66, ak_coh_at rt_RX10_ok _ (by decide +kernel), fun r h => by cases h; rfl⟩
set_option maxRecDepth 100000 in
theorem ma_67 : ak_mall q_67 := ⟨kd_67, ak_coh_at rt_RX10_ok _ (by decide +kernel), fun r h => by cases h; rfl⟩
set_option maxRecDepth 100000 in
theorem ma_68 : ak_mall q_68 := ⟨kd_68, ak_coh_at rt_RX10_ok _ (by decide +kernel), fun r h => by cases h; rfl⟩
set_option maxRecDepth 100000 in
theorem ma_69 : ak_mall q_69 := ⟨kd_69, ak_coh_at rt_RX10_ok _ (by decide +kernel), fun r h => by cases h; rfl⟩
set_option maxRecDepth 100000 in
theorem ma_70 : ak_mall q_70 := ⟨kd_70, ak_coh_at rt_RX10_ok _ (by decide +kernel), fun r h => by cases h; rfl⟩
set_option maxRecDepth 100000 in
theorem ma_71 : ak_mall q_71 := ⟨kd_71, ak_coh_at rt_RJ0_ok _ (by decide +kernel), fun r h => by cases h⟩
set_option maxRecDepth 100000 in
theorem ma_72 : ak_mall q_72 := ⟨kd_72, ak_coh_at rt_RJ0_ok _ (by decide +kernel), fun r h => by cases h⟩
set_option maxRecDepth 100000 in
theorem ma_73 : ak_mall q_73 := ⟨kd_73, ak_coh_at rt_RJ0_ok _ (by decide +kernel), fun r h => by cases h⟩
set_option maxRecDepth 100000 in
theorem ma_74 : ak_mall q_74 := ⟨kd_74, ak_coh_at rt_RJ0_ok _ (by decide +kernel), fun r h => by cases h⟩
set_option maxRecDepth 100000 in
theorem ma_75 : ak_mall q_75 := ⟨kd_75, ak_coh_at rt_RJ1_ok _ (by decide +kernel), fun r h => by cases h⟩
set_option maxRecDepth 100000 in
theorem ma_76 : ak_mall q_76 := ⟨kd_76, ak_coh_at rt_RJ0_ok _ (by decide +kernel), fun r h => by cases h⟩
set_option maxRecDepth 100000 in
theorem ma_77 : ak_mall q_77 := ⟨kd_77, ak_coh_at (rt := []) (List.forall_mem_nil _) _ (by decide +kernel), fun r h => by cases h⟩
set_option maxRecDepth 100000 in
theorem ma_78 : ak_mall q_78 := ⟨kd_78, ak_coh_at rt_RJ2_ok _ (by decide +kernel), fun r h => by cases h⟩
set_option maxRecDepth 100000 in
theorem ma_79 : ak_mall q_79 := ⟨kd_79, ak_coh_at rt_RJ2_ok _ (by decide +kernel), fun r h => by cases h⟩
set_option maxRecDepth 100000 in
theorem ma_80 : ak_mall q_80 := ⟨kd_80, ak_coh_at rt_RJ2_ok _ (by decide +kernel), fun r h => by cases h⟩
set_option maxRecDepth 100000 in
theorem ma_81 : ak_mall q_81 := ⟨kd_81, ak_coh_at rt_RJ2_ok _ (by decide +kernel), fun r h => by cases h⟩
set_option maxRecDepth 100000 in
theorem ma_82 : ak_mall q_82 := ⟨kd_82, ak_coh_at rt_RX10_ok _ (by decide +kernel), fun r h => by cases h; rfl⟩
set_option maxRecDepth 100000 in
theorem ma_83 : ak_mall q_83 := ⟨kd_83, ak_coh_at rt_RX10_ok _ (by decide +kernel), fun r h => by cases h; rfl⟩
set_option maxRecDepth 100000 in
theorem ma_84 : ak_mall q_84 := ⟨kd_84, ak_coh_at rt_RX10_ok _ (by decide +kernel), fun r h => by cases h; rfl⟩
set_option maxRecDepth 100000 in
theorem ma_85 : ak_mall q_85 := ⟨kd_85, ak_coh_at rt_RX10_ok _ (by decide +kernel), fun r h => by cases h; rfl⟩
set_option maxRecDepth 100000 in
theorem ma_86 : ak_mall q_86 := ⟨kd_86, ak_coh_at rt_RX10_ok _ (by decide +kernel), fun r h => by cases h; rfl⟩
set_option maxRecDepth 100000 in
theorem ma_87 : ak_mall q_87 := ⟨kd_87, ak_coh_at rt_RX10_ok _ (by decide +kernel), fun r h => by cases h; rfl⟩
set_option maxRecDepth 100000 in
theorem ma_88 : ak_mall q_88 := ⟨kd_88, ak_coh_at rt_RX10_ok _ (by decide +kernel), fun r h => by cases h; rfl⟩
set_option maxRecDepth 100000 in
theorem ma_89 : ak_mall q_89 := ⟨kd_89, ak_coh_at rt_RX10_ok _ (by decide +kernel), fun r h => by cases h; rfl⟩
set_option maxRecDepth 100000 in
theorem ma_90 : ak_mall q_90 := ⟨kd_90, ak_coh_at rt_RX10_ok _ (by decide +kernel), fun r h => by cases h; rfl⟩
set_option maxRecDepth 100000 in
theorem ma_91 : ak_mall q_91 := ⟨kd_91, ak_coh_at rt_RX10_ok _ (by decide +kernel), fun r h => by cases h; rfl⟩
set_option maxRecDepth 100000 in
theorem ma_92 : ak_mall q_92 := ⟨kd_92, ak_coh_at rt_RX10_ok _ (by decide +kernel), fun r h => by cases h; rfl⟩
set_option maxRecDepth 100000 in
theorem ma_93 : ak_mall q_93 := ⟨kd_93, ak_coh_at rt_RX10_ok _ (by decide +kernel), fun r h => by cases h; rfl⟩
set_option maxRecDepth 100000 in
theorem ma_94 : ak_mall q_94 := ⟨kd_94, ak_coh_at rt_RX10_ok _ (by decide +kernel), fun r h => by cases h; rfl⟩
set_option maxRecDepth 100000 in
theorem ma_95 : ak_mall q_95 := ⟨kd_95, ak_coh_at rt_RX10_ok _ (by decide +kernel), fun r h => by cases h; rfl⟩
set_option maxRecDepth 100000 in
theorem ma_96 : ak_mall q_96 := ⟨kd_96, ak_coh_at rt_RX10_ok _ (by decide +kernel), fun r h => by cases h; rfl⟩
set_option maxRecDepth 100000 in
theorem ma_97 : ak_mall q_97 := ⟨kd_97, ak_coh_at rt_RX11_ok _ (by decide +kernel), fun r h => by cases h; rfl⟩
set_option maxRecDepth 100000 in
theorem ma_98 : ak_mall q_98 := ⟨kd_98, ak_coh_at rt_RX11_ok _ (by decide +kernel), fun r h => by cases h; rfl⟩
set_option maxRecDepth 100000 in
theorem ma_99 : ak_mall q_99 := ⟨kd_99, ak_coh_at rt_RX5_ok _ (by decide +kernel), fun r h => by cases h; rfl⟩
set_option maxRecDepth 100000 in
theorem ma_100 : ak_mall q_100 := ⟨kd_100, ak_coh_at rt_RX8_ok _ (by decide +kernel), fun r h => by cases h; rfl⟩
set_option maxRecDepth 100000 in
theorem ma_101 : ak_mall q_101 := ⟨kd_101, ak_coh_at rt_RJ6_ok _ (by decide +kernel), fun r h => by cases h⟩
set_option maxRecDepth 100000 in
theorem ma_102 : ak_mall q_102 := ⟨kd_102, ak_coh_at rt_RX5_ok _ (by decide +kernel), fun r h => by cases h; rfl⟩
set_option maxRecDepth 100000 in
theorem ma_103 : ak_mall q_103 := ⟨kd_103, ak_coh_at rt_RX5_ok _ (by decide +kernel), fun r h => by cases h; rfl⟩
set_option maxRecDepth 100000 in
theorem ma_104 : ak_mall q_104 := ⟨kd_104, ak_coh_at rt_RX5_ok _ (by decide +kernel), fun r h => by cases h; rfl⟩
set_option maxRecDepth 100000 in
theorem ma_105 : ak_mall q_105 := ⟨kd_105, ak_coh_at rt_RX5_ok _ (by decide +kernel), fun r h => by cases h; rfl⟩
set_option maxRecDepth 100000 in
theorem ma_106 : ak_mall q_106 := ⟨kd_106, ak_coh_at rt_RX5_ok _ (by decide +kernel), fun r h => by cases h; rfl⟩
set_option maxRecDepth 100000 in
theorem ma_107 : ak_mall q_107 := ⟨kd_107, ak_coh_at rt_RX5_ok _ (by decide +kernel), fun r h => by cases h; rfl⟩
set_option maxRecDepth 100000 in
theorem ma_108 : ak_mall q_108 := ⟨kd_108, ak_coh_at rt_RX5_ok _ (by decide +kernel), fun r h => by cases h; rfl⟩
set_option maxRecDepth 100000 in
theorem ma_109 : ak_mall q_109 := ⟨kd_109, ak_coh_at rt_RX5_ok _ (by decide +kernel), fun r h => by cases h; rfl⟩
set_option maxRecDepth 100000 in
theorem ma_110 : ak_mall q_110 := ⟨kd_110, ak_coh_at rt_RX11_ok _ (by decide +kernel), fun r h => by cases h; rfl⟩
set_option maxRecDepth 100000 in
theorem ma_111 : ak_mall q_111 := ⟨kd_111, ak_coh_at rt_RX8_ok _ (by decide +kernel), fun r h => by cases h; rfl⟩
set_option maxRecDepth 100000 in
theorem ma_112 : ak_mall q_112 := ⟨kd_112, ak_coh_at rt_RX11_ok _ (by decide +kernel), fun r h => by cases h; rfl⟩
set_option maxRecDepth 100000 in
theorem ma_113 : ak_mall q_113 := ⟨kd_113, ak_coh_at rt_RX5_ok _ (by decide +kernel), fun r h => by cases h; rfl⟩
set_option maxRecDepth 100000 in
theorem ma_114 : ak_mall q_114 := ⟨kd_114, ak_coh_at rt_RX5_ok _ (by decide +kernel), fun r h => by cases h; rfl⟩
set_option maxRecDepth 100000 in
theorem ma_115 : ak_mall q_115 := ⟨kd_115, ak_coh_at rt_RX5_ok _ (by decide +kernel), fun r h => by cases h; rfl⟩
set_option maxRecDepth 100000 in
theorem ma_116 : ak_mall q_116 := ⟨kd_116, ak_coh_at rt_RX5_ok _ (by decide +kernel), fun r h => by cases h; rfl⟩
set_option maxRecDepth 100000 in
theorem ma_117 : ak_mall q_117 := ⟨kd_117, ak_coh_at rt_RX5_ok _ (by decide +kernel), fun r h => by cases h; rfl⟩
set_option maxRecDepth 100000 in
theorem ma_118 : ak_mall q_118 := ⟨kd_118, ak_coh_at rt_RX5_ok _ (by decide +kernel), fun r h => by cases h; rfl⟩
set_option maxRecDepth 100000 in
theorem ma_119 : ak_mall q_119 := ⟨kd_119, ak_coh_at rt_RX5_ok _ (by decide +kernel), fun r h => by cases h; rfl⟩
set_option maxRecDepth 100000 in
theorem ma_120 : ak_mall q_120 := ⟨kd_120, ak_coh_at rt_RX5_ok _ (by decide +kernel), fun r h => by cases h; rfl⟩
set_option maxRecDepth 100000 in
theorem ma_121 : ak_mall q_121 := ⟨kd_121, ak_coh_at rt_RX5_ok _ (by decide +kernel), fun r h => by cases h; rfl⟩
set_option maxRecDepth 100000 in
theorem ma_122 : ak_mall q_122 := ⟨kd_122, ak_coh_at rt_RX11_ok _ (by decide +kernel), fun r h => by cases h; rfl⟩
set_option maxRecDepth 100000 in
theorem ma_123 : ak_mall q_123 := ⟨kd_123, ak_coh_at rt_RX5_ok _ (by decide +kernel), fun r h => by cases h; rfl⟩
set_option maxRecDepth 100000 in
theorem ma_124 : ak_mall q_124 := ⟨kd_124, ak_coh_at rt_RX5_ok _ (by decide +kernel), fun r h => by cases h; rfl⟩
set_option maxRecDepth 100000 in
theorem ma_125 : ak_mall q_125 := ⟨kd_125, ak_coh_at rt_RX5_ok _ (by decide +kernel), fun r h => by cases h; rfl⟩
set_option maxRecDepth 100000 in
theorem ma_126 : ak_mall q_126 := ⟨kd_126, ak_coh_at rt_RX5_ok _ (by decide +kernel), fun r h => by cases h; rfl⟩
set_option maxRecDepth 100000 in
theorem ma_127 : ak_mall q_127 := ⟨kd_127, ak_coh_at rt_RX11_ok _ (by decide +kernel), fun r h => by cases h; rfl⟩
set_option maxRecDepth 100000 in
theorem ma_128 : ak_mall q_128 := ⟨kd_128, ak_coh_at rt_RX5_ok _ (by decide +kernel), fun r h => by cases h; rfl⟩
set_option maxRecDepth 100000 in
theorem ma_129 : ak_mall q_129 := ⟨kd_129, ak_coh_at rt_RX5_ok _ (by decide +kernel), fun r h => by cases h; rfl⟩
set_option maxRecDepth 100000 in
theorem ma_130 : ak_mall q_130 := ⟨kd_130, ak_coh_at rt_RX11_ok _ (by decide +kernel), fun r h => by cases h; rfl⟩
set_option maxRecDepth 100000 in
theorem ma_131 : ak_mall q_131 := ⟨kd_131, ak_coh_at rt_RX5_ok _ (by decide +kernel), fun r h => by cases h; rfl⟩
set_option maxRecDepth 100000 in
theorem ma_132 : ak_mall q_132 := ⟨kd_132, ak_coh_at rt_RX5_ok _ (by decide +kernel), fun r h => by cases h; rfl⟩
set_option maxRecDepth 100000 in
theorem ma_133 : ak_mall q_133 := ⟨kd_133, ak_coh_at rt_RX11_ok _ (by decide +kernel), fun r h => by cases h; rfl⟩
set_option maxRecDepth 100000 in
theorem ma_134 : ak_mall q_134 := ⟨kd_134, ak_coh_at rt_RX5_ok _ (by decide +kernel), fun r h => by cases h; rfl⟩
set_option maxRecDepth 100000 in
theorem ma_135 : ak_mall q_135 := ⟨kd_135, ak_coh_at rt_RX11_ok _ (by decide +kernel), fun r h => by cases h; rfl⟩
set_option maxRecDepth 100000 in
theorem ma_136 : ak_mall q_136 := ⟨kd_136, ak_coh_at rt_RX11_ok _ (by decide +kernel), fun r h => by cases h; rfl⟩
set_option maxRecDepth 100000 in
theorem ma_137 : ak_mall q_137 := ⟨kd_137, ak_coh_at rt_RX7_ok _ (by decide +kernel), fun r h => by cases h; rfl⟩
set_option maxRecDepth 100000 in
theorem ma_138 : ak_mall q_138 := ⟨kd_138, ak_coh_at rt_RX8_ok _ (by decide +kernel), fun r h => by cases h; rfl⟩
set_option maxRecDepth 100000 in
theorem ma_139 : ak_mall q_139 := ⟨kd_139, ak_coh_at rt_RX11_ok _ (by decide +kernel), fun r h => by cases h; rfl⟩
set_option maxRecDepth 100000 in
theorem ma_140 : ak_mall q_140 := ⟨kd_140, ak_coh_at rt_RX11_ok _ (by decide +kernel), fun r h => by cases h; rfl⟩
set_option maxRecDepth 100000 in
theorem ma_141 : ak_mall q_141 := ⟨kd_141, ak_coh_at rt_RX11_ok _ (by decide +kernel), fun r h => by cases h; rfl⟩
set_option maxRecDepth 100000 in
theorem ma_142 : ak_mall q_142 := ⟨kd_142, ak_coh_at rt_RX11_ok _ (by decide +kernel), fun r h => by cases h; rfl⟩
set_option maxRecDepth 100000 in
theorem ma_143 : ak_mall q_143 := ⟨kd_143, ak_coh_at rt_RX11_ok _ (by decide +kernel), fun r h => by cases h; rfl⟩
set_option maxRecDepth 100000 in
theorem ma_144 : ak_mall q_144 := ⟨kd_144, ak_coh_at rt_RX11_ok _ (by decide +kernel), fun r h => by cases h; rfl⟩
set_option maxRecDepth 100000 in
theorem ma_145 : ak_mall q_145 := ⟨kd_145, ak_coh_at rt_RX11_ok _ (by decide +kernel), fun r h => by cases h; rfl⟩
set_option maxRecDepth 100000 in
theorem ma_146 : ak_mall q_146 := ⟨kd_146, ak_coh_at rt_RX11_ok _ (by decide +kernel), fun r h => by cases h; rfl⟩
set_option maxRecDepth 100000 in
theorem ma_147 : ak_mall q_147 := ⟨kd_147, ak_coh_at rt_RX7_ok _ (by decide +kernel), fun r h => by cases h; rfl⟩
set_option maxRecDepth 100000 in
theorem ma_148 : ak_mall q_148 := ⟨kd_148, ak_coh_at rt_RX7_ok _ (by decide +kernel), fun r h => by cases h; rfl⟩
set_option maxRecDepth 100000 in
theorem ma_149 : ak_mall q_149 := ⟨kd_149, ak_coh_at rt_RX7_ok _ (by decide +kernel), fun r h => by cases h; rfl⟩
set_option maxRecDepth 100000 in
theorem ma_150 : ak_mall q_150 := ⟨kd_150, ak_coh_at rt_RX11_ok _ (by decide +kernel), fun r h => by cases h; rfl⟩
set_option maxRecDepth 100000 in
theorem ma_151 : ak_mall q_151 := ⟨kd_151, ak_coh_at rt_RX11_ok _ (by decide +kernel), fun r h => by cases h; rfl⟩
set_option maxRecDepth 100000 in
theorem ma_152 : ak_mall q_152 := ⟨kd_152, ak_coh_at rt_RX11_ok _ (by decide +kernel), fun r h => by cases h; rfl⟩
set_option maxRecDepth 100000 in
theorem ma_153 : ak_mall q_153 := ⟨kd_153, ak_coh_at rt_RX11_ok _ (by decide +kernel), fun r h => by cases h; rfl⟩
set_option maxRecDepth 100000 in
theorem ma_154 : ak_mall q_154 := ⟨kd_154, ak_coh_at rt_RX11_ok _ (by decide +kernel), fun r h => by cases h; rfl⟩
set_option maxRecDepth 100000 in
theorem ma_155 : ak_mall q_155 := ⟨kd_155, ak_coh_at rt_RX11_ok _ (by decide +kernel), fun r h => by cases h; rfl⟩
set_option maxRecDepth 100000 in
theorem ma_156 : ak_mall q_156 := ⟨kd_156, ak_coh_at rt_RX11_ok _ (by decide +kernel), fun r h => by cases h; rfl⟩
set_option maxRecDepth 100000 in
theorem ma_157 : ak_mall q_157 := ⟨kd_157, ak_coh_at rt_RX8_ok _ (by decide +kernel), fun r h => by cases h; rfl⟩
set_option maxRecDepth 100000 in
theorem ma_158 : ak_mall q_158 := ⟨kd_158, ak_coh_at rt_RX8_ok _ (by decide +kernel), fun r h => by cases h; rfl⟩
set_option maxRecDepth 100000 in
theorem ma_159 : ak_mall q_159 := ⟨kd_159, ak_coh_at rt_RX11_ok _ (by decide +kernel), fun r h => by cases h; rfl⟩
set_option maxRecDepth 100000 in
theorem ma_160 : ak_mall q_160 := ⟨kd_160, ak_coh_at rt_RX7_ok _ (by decide +kernel), fun r h => by cases h; rfl⟩
set_option maxRecDepth 100000 in
theorem ma_161 : ak_mall q_161 := ⟨kd_161, ak_coh_at rt_RX11_ok _ (by decide +kernel), fun r h => by cases h; rfl⟩
set_option maxRecDepth 100000 in
theorem ma_162 : ak_mall q_162 := ⟨kd_162, ak_coh_at rt_RX11_ok _ (by decide +kernel), fun r h => by cases h; rfl⟩
set_option maxRecDepth 100000 in
theorem ma_163 : ak_mall q_163 := ⟨kd_163, ak_coh_at rt_RX11_ok _ (by decide +kernel), fun r h => by cases h; rfl⟩
set_option maxRecDepth 100000 in
theorem ma_164 : ak_mall q_164 := ⟨kd_164, ak_coh_at rt_RX11_ok _ (by decide +kernel), fun r h => by cases h; rfl⟩
set_option maxRecDepth 100000 in
theorem ma_165 : ak_mall q_165 := ⟨kd_165, ak_coh_at rt_RX6_ok _ (by decide +kernel), fun r h => by cases h; rfl⟩
set_option maxRecDepth 100000 in
theorem ma_166 : ak_mall q_166 := ⟨kd_166, ak_coh_at rt_RX12_ok _ (by decide +kernel), fun r h => by cases h; rfl⟩
set_option maxRecDepth 100000 in
theorem ma_167 : ak_mall q_167 := ⟨kd_167, ak_coh_at rt_RX12_ok _ (by decide +kernel), fun r h => by cases h; rfl⟩
set_option maxRecDepth 100000 in
theorem ma_168 : ak_mall q_168 := ⟨kd_168, ak_coh_at rt_RX12_ok _ (by decide +kernel), fun r h => by cases h; rfl⟩
set_option maxRecDepth 100000 in
theorem ma_169 : ak_mall q_169 := ⟨kd_169, ak_coh_at rt_RX12_ok _ (by decide +kernel), fun r h => by cases h; rfl⟩
set_option maxRecDepth 100000 in
theorem ma_170 : ak_mall q_170 := ⟨kd_170, ak_coh_at rt_RX12_ok _ (by decide +kernel), fun r h => by cases h; rfl⟩
set_option maxRecDepth 100000 in
theorem ma_171 : ak_mall q_171 := ⟨kd_171, ak_coh_at rt_RX12_ok _ (by decide +kernel), fun r h => by cases h; rfl⟩
set_option maxRecDepth 100000 in
theorem ma_172 : ak_mall q_172 := ⟨kd_172, ak_coh_at rt_RX12_ok _ (by decide +kernel), fun r h => by cases h; rfl⟩
set_option maxRecDepth 100000 in
theorem ma_173 : ak_mall q_173 := ⟨kd_173, ak_coh_at rt_RX12_ok _ (by decide +kernel), fun r h => by cases h; rfl⟩
set_option maxRecDepth 100000 in
theorem ma_174 : ak_mall q_174 := ⟨kd_174, ak_coh_at rt_RX12_ok _ (by decide +kernel), fun r h => by cases h; rfl⟩
set_option maxRecDepth 100000 in
theorem ma_175 : ak_mall q_175 := ⟨kd_175, ak_coh_at rt_RX12_ok _ (by decide +kernel), fun r h => by cases h; rfl⟩
set_option maxRecDepth 100000 in
theorem ma_176 : ak_mall q_176 := ⟨kd_176, ak_coh_at rt_RX12_ok _ (by decide +kernel), fun r h => by cases h; rfl⟩
set_option maxRecDepth 100000 in
theorem ma_177 : ak_mall q_177 := ⟨kd_177, ak_coh_at rt_RX12_ok _ (by decide +kernel), fun r h => by cases h; rfl⟩
set_option maxRecDepth 100000 in
theorem ma_178 : ak_mall q_178 := ⟨kd_178, ak_coh_at rt_RX12_ok _ (by decide +kernel), fun r h => by cases h; rfl⟩
set_option maxRecDepth 100000 in
theorem ma_179 : ak_mall q_179 := ⟨kd_179, ak_coh_at rt_RX12_ok _ (by decide +kernel), fun r h => by cases h; rfl⟩
set_option maxRecDepth 100000 in
theorem ma_180 : ak_mall q_180 := ⟨kd_180, ak_coh_at rt_RX12_ok _ (by decide +kernel), fun r h => by cases h; rfl⟩
set_option maxRecDepth 100000 in
theorem ma_181 : ak_mall q_181 := ⟨kd_181, ak_coh_at rt_RX12_ok _ (by decide +kernel), fun r h => by cases h; rfl⟩
set_option maxRecDepth 100000 in
theorem ma_182 : ak_mall q_182 := ⟨kd_182, ak_coh_at rt_RX12_ok _ (by decide +kernel), fun r h => by cases h; rfl⟩
set_option maxRecDepth 100000 in
theorem ma_183 : ak_mall q_183 := ⟨kd_183, ak_coh_at rt_RX12_ok _ (by decide +kernel), fun r h => by cases h; rfl⟩
set_option maxRecDepth 100000 in
theorem ma_184 : ak_mall q_184 := ⟨kd_184, ak_coh_at rt_RX12_ok _ (by decide +kernel), fun r h => by cases h; rfl⟩
set_option maxRecDepth 100000 in
theorem ma_185 : ak_mall q_185 := ⟨kd_185, ak_coh_at rt_RX12_ok _ (by decide +kernel), fun r h => by cases h; rfl⟩
set_option maxRecDepth 100000 in
theorem ma_186 : ak_mall q_186 := ⟨kd_186, ak_coh_at rt_RX12_ok _ (by decide +kernel), fun r h => by cases h; rfl⟩
set_option maxRecDepth 100000 in
theorem ma_187 : ak_mall q_187 := ⟨kd_187, ak_coh_at rt_RX12_ok _ (by decide +kernel), fun r h => by cases h; rfl⟩
set_option maxRecDepth 100000 in
theorem ma_188 : ak_mall q_188 := ⟨kd_188, ak_coh_at rt_RX12_ok _ (by decide +kernel), fun r h => by cases h; rfl⟩
set_option maxRecDepth 100000 in
theorem ma_189 : ak_mall q_189 := ⟨kd_189, ak_coh_at rt_RX12_ok _ (by decide +kernel), fun r h => by cases h; rfl⟩
set_option maxRecDepth 100000 in
theorem ma_190 : ak_mall q_190 := ⟨kd_190, ak_coh_at rt_RX12_ok _ (by decide +kernel), fun r h => by cases h; rfl⟩
set_option maxRecDepth 100000 in
theorem ma_191 : ak_mall q_191 := ⟨kd_191, ak_coh_at rt_RX12_ok _ (by decide +kernel), fun r h => by cases h; rfl⟩
set_option maxRecDepth 100000 in
theorem ma_192 : ak_mall q_192 := ⟨kd_192, ak_coh_at rt_RX12_ok _ (by decide +kernel), fun r h => by cases h; rfl⟩
set_option maxRecDepth 100000 in
theorem ma_193 : ak_mall q_193 := ⟨kd_193, ak_coh_at rt_RX12_ok _ (by decide +kernel), fun r h => by cases h; rfl⟩
set_option maxRecDepth 100000 in
theorem ma_194 : ak_mall q_194 := ⟨kd_194, ak_coh_at rt_RX12_ok _ (by decide +kernel), fun r h => by cases h; rfl⟩
set_option maxRecDepth 100000 in
theorem ma_195 : ak_mall q_195 := ⟨kd_195, ak_coh_at rt_RX12_ok _ (by decide +kernel), fun r h => by cases h; rfl⟩
set_option maxRecDepth 100000 in
theorem ma_196 : ak_mall q_196 := ⟨kd_196, ak_coh_at rt_RX12_ok _ (by decide +kernel), fun r h => by cases h; rfl⟩
set_option maxRecDepth 100000 in
theorem ma_197 : ak_mall q_197 := ⟨kd_197, ak_coh_at rt_RX12_ok _ (by decide +kernel), fun r h => by cases h; rfl⟩
set_option maxRecDepth 100000 in
theorem ma_198 : ak_mall q_198 := ⟨kd_198, ak_coh_at rt_RX12_ok _ (by decide +kernel), fun r h => by cases h; rfl⟩
set_option maxRecDepth 100000 in
theorem ma_199 : ak_mall q_199 := ⟨kd_199, ak_coh_at rt_RX12_ok _ (by decide +kernel), fun r h => by cases h; rfl⟩
set_option maxRecDepth 100000 in
theorem ma_200 : ak_mall q_200 := ⟨kd_200, ak_coh_at rt_RX12_ok _ (by decide +kernel), fun r h => by cases h; rfl⟩
set_option maxRecDepth 100000 in
theorem ma_201 : ak_mall q_201 := ⟨kd_201, ak_coh_at rt_RX12_ok _ (by decide +kernel), fun r h => by cases h; rfl⟩
set_option maxRecDepth 100000 in
theorem ma_202 : ak_mall q_202 := ⟨kd_202, ak_coh_at rt_RX12_ok _ (by decide +kernel), fun r h => by cases h; rfl⟩
set_option maxRecDepth 100000 in
theorem ma_203 : ak_mall q_203 := ⟨kd_203, ak_coh_at rt_RX12_ok _ (by decide +kernel), fun r h => by cases h; rfl⟩
set_option maxRecDepth 100000 in
theorem ma_204 : ak_mall q_204 := ⟨kd_204, ak_coh_at rt_RX12_ok _ (by decide +kernel), fun r h => by cases h; rfl⟩
set_option maxRecDepth 100000 in
theorem ma_205 : ak_mall q_205 := ⟨kd_205, ak_coh_at rt_RX12_ok _ (by decide +kernel), fun r h => by cases h; rfl⟩
set_option maxRecDepth 100000 in
theorem ma_206 : ak_mall q_206 := ⟨kd_206, ak_coh_at rt_RX12_ok _ (by decide +kernel), fun r h => by cases h; rfl⟩
set_option maxRecDepth 100000 in
theorem ma_207 : ak_mall q_207 := ⟨kd_207, ak_coh_at rt_RX12_ok _ (by decide +kernel), fun r h => by cases h; rfl⟩
set_option maxRecDepth 100000 in
theorem ma_208 : ak_mall q_208 := ⟨kd_208, ak_coh_at rt_RX12_ok _ (by decide +kernel), fun r h => by cases h; rfl⟩
set_option maxRecDepth 100000 in
theorem ma_209 : ak_mall q_209 := ⟨kd_209, ak_coh_at rt_RX12_ok _ (by decide +kernel), fun r h => by cases h; rfl⟩
set_option maxRecDepth 100000 in
theorem ma_210 : ak_mall q_210 := ⟨kd_210, ak_coh_at rt_RX12_ok _ (by decide +kernel), fun r h => by cases h; rfl⟩
set_option maxRecDepth 100000 in
theorem ma_211 : ak_mall q_211 := ⟨kd_211, ak_coh_at rt_RX12_ok _ (by decide +kernel), fun r h => by cases h; rfl⟩
set_option maxRecDepth 100000 in
theorem ma_212 : ak_mall q_212 := ⟨kd_212, ak_coh_at rt_RX12_ok _ (by decide +kernel), fun r h => by cases h; rfl⟩
set_option maxRecDepth 100000 in
theorem ma_213 : ak_mall q_213 := ⟨kd_213, ak_coh_at rt_RX12_ok _ (by decide +kernel), fun r h => by cases h; rfl⟩
set_option maxRecDepth 100000 in
theorem ma_214 : ak_mall q_214 := ⟨kd_214, ak_coh_at rt_RX12_ok _ (by decide +kernel), fun r h => by cases h; rfl⟩
set_option maxRecDepth 100000 in
theorem ma_215 : ak_mall q_215 := ⟨kd_215, ak_coh_at rt_RX12_ok _ (by decide +kernel), fun r h => by cases h; rfl⟩
set_option maxRecDepth 100000 in
theorem ma_216 : ak_mall q_216 := ⟨kd_216, ak_coh_at rt_RX12_ok _ (by decide +kernel), fun r h => by cases h; rfl⟩
set_option maxRecDepth 100000 in
theorem ma_217 : ak_mall q_217 := ⟨kd_217, ak_coh_at rt_RX12_ok _ (by decide +kernel), fun r h => by cases h; rfl⟩
set_option maxRecDepth 100000 in
theorem ma_218 : ak_mall q_218 := ⟨kd_218, ak_coh_at rt_RX12_ok _ (by decide +kernel), fun r h => by cases h; rfl⟩
set_option maxRecDepth 100000 in
theorem ma_219 : ak_mall q_219 := ⟨kd_219, ak_coh_at rt_RX12_ok _ (by decide +kernel), fun r h => by cases h; rfl⟩
set_option maxRecDepth 100000 in
theorem ma_220 : ak_mall q_220 := ⟨kd_220, ak_coh_at rt_RX12_ok _ (by decide +kernel), fun r h => by cases h; rfl⟩
set_option maxRecDepth 100000 in
theorem ma_221 : ak_mall q_221 := ⟨kd_221, ak_coh_at rt_RX12_ok _ (by decide +kernel), fun r h => by cases h; rfl⟩
set_option maxRecDepth 100000 in
theorem ma_222 : ak_mall q_222 := ⟨kd_222, ak_coh_at rt_RX12_ok _ (by decide +kernel), fun r h => by cases h; rfl⟩
set_option maxRecDepth 100000 in
theorem ma_223 : ak_mall q_223 := ⟨kd_223, ak_coh_at rt_RX12_ok _ (by decide +kernel), fun r h => by cases h; rfl⟩
set_option maxRecDepth 100000 in
theorem ma_224 : ak_mall q_224 := ⟨kd_224, ak_coh_at rt_RX12_ok _ (by decide +kernel), fun r h => by cases h; rfl⟩
set_option maxRecDepth 100000 in
theorem ma_225 : ak_mall q_225 := ⟨kd_225, ak_coh_at rt_RX12_ok _ (by decide +kernel), fun r h => by cases h; rfl⟩
set_option maxRecDepth 100000 in
theorem ma_226 : ak_mall q_226 := ⟨kd_226, ak_coh_at rt_RX12_ok _ (by decide +kernel), fun r h => by cases h; rfl⟩
set_option maxRecDepth 100000 in
theorem ma_227 : ak_mall q_227 := ⟨kd_227, ak_coh_at rt_RX12_ok _ (by decide +kernel), fun r h => by cases h; rfl⟩
set_option maxRecDepth 100000 in
theorem ma_228 : ak_mall q_228 := ⟨kd_228, ak_coh_at rt_RX12_ok _ (by decide +kernel), fun r h => by cases h; rfl⟩
set_option maxRecDepth 100000 in
theorem ma_229 : ak_mall q_229 := ⟨kd_229, ak_coh_at rt_RX12_ok _ (by decide +kernel), fun r h => by cases h; rfl⟩
set_option maxRecDepth 100000 in
theorem ma_230 : ak_mall q_230 := ⟨kd_230, ak_coh_at rt_RX12_ok _ (by decide +kernel), fun r h => by cases h; rfl⟩
set_option maxRecDepth 100000 in
theorem ma_231 : ak_mall q_231 := ⟨kd_231, ak_coh_at rt_RX12_ok _ (by decide +kernel), fun r h => by cases h; rfl⟩
set_option maxRecDepth 100000 in
theorem ma_232 : ak_mall q_232 := ⟨kd_232, ak_coh_at rt_RX12_ok _ (by decide +kernel), fun r h => by cases h; rfl⟩
set_option maxRecDepth 100000 in
theorem ma_233 : ak_mall q_233 := ⟨kd_233, ak_coh_at rt_RX12_ok _ (by decide +kernel), fun r h => by cases h; rfl⟩
set_option maxRecDepth 100000 in
theorem ma_234 : ak_mall q_234 := ⟨kd_234, ak_coh_at rt_RX12_ok _ (by decide +kernel), fun r h => by cases h; rfl⟩
set_option maxRecDepth 100000 in
theorem ma_235 : ak_mall q_235 := ⟨kd_235, ak_coh_at rt_RX12_ok _ (by decide +kernel), fun r h => by cases h; rfl⟩
set_option maxRecDepth 100000 in
theorem ma_236 : ak_mall q_236 := ⟨kd_236, ak_coh_at rt_RX12_ok _ (by decide +kernel), fun r h => by cases h; rfl⟩
set_option maxRecDepth 100000 in
theorem ma_237 : ak_mall q_237 := ⟨kd_237, ak_coh_at rt_RX12_ok _ (by decide +kernel), fun r h => by cases h; rfl⟩
set_option maxRecDepth 100000 in
theorem ma_238 : ak_mall q_238 := ⟨kd_238, ak_coh_at rt_RX12_ok _ (by decide +kernel), fun r h => by cases h; rfl⟩
set_option maxRecDepth 100000 in
theorem ma_239 : ak_mall q_239 := ⟨kd_239, ak_coh_at rt_RX12_ok _ (by decide +kernel), fun r h => by cases h; rfl⟩
set_option maxRecDepth 100000 in
theorem ma_240 : ak_mall q_240 := ⟨kd_240, ak_coh_at rt_RX12_ok _ (by decide +kernel), fun r h => by cases h; rfl⟩
set_option maxRecDepth 100000 in
theorem ma_241 : ak_mall q_241 := ⟨kd_241, ak_coh_at rt_RX12_ok _ (by decide +kernel), fun r h => by cases h; rfl⟩
set_option maxRecDepth 100000 in
theorem ma_242 : ak_mall q_242 := ⟨kd_242, ak_coh_at rt_RX12_ok _ (by decide +kernel), fun r h => by cases h; rfl⟩
set_option maxRecDepth 100000 in
theorem ma_243 : ak_mall q_243 := ⟨kd_243, ak_coh_at rt_RX12_ok _ (by decide +kernel), fun r h => by cases h; rfl⟩
set_option maxRecDepth 100000 in
theorem ma_244 : ak_mall q_244 := ⟨kd_244, ak_coh_at rt_RX12_ok _ (by decide +kernel), fun r h => by cases h; rfl⟩
set_option maxRecDepth 100000 in
theorem ma_245 : ak_mall q_245 := ⟨kd_245, ak_coh_at rt_RL_ok _ (by decide +kernel), fun r h => by cases h⟩
set_option maxRecDepth 100000 in
theorem ak_all : ∀ q ∈ ak_M, ak_mall q := List.forall_mem_cons.mpr ⟨ma_0, List.forall_mem_cons.mpr ⟨ma_1, List.forall_mem_cons.mpr ⟨ma_2, List.forall_mem_cons.mpr ⟨ma_3, List.forall_mem_cons.mpr ⟨ma_4, List.forall_mem_cons.mpr ⟨ma_5, List.forall_mem_cons.mpr ⟨ma_6, List.forall_mem_cons.mpr ⟨ma_7, List.forall_mem_cons.mpr ⟨ma_8, List.forall_mem_cons.mpr ⟨ma_9, List.forall_mem_cons.mpr ⟨ma_10, List.forall_mem_cons.mpr ⟨ma_11, List.forall_mem_cons.mpr ⟨ma_12, List.forall_mem_cons.mpr ⟨ma_13, List.forall_mem_cons.mpr ⟨ma_14, List.forall_mem_cons.mpr ⟨ma_15, List.forall_mem_cons.mpr ⟨ma_16, List.forall_mem_cons.mpr ⟨ma_17, List.forall_mem_cons.mpr ⟨ma_18, List.forall_mem_cons.mpr ⟨ma_19, List.forall_mem_cons.mpr ⟨ma_20, List.forall_mem_cons.mpr ⟨ma_21, List.forall_mem_cons.mpr ⟨ma_22, List.forall_mem_cons.mpr ⟨ma_23, List.forall_mem_cons.mpr ⟨ma_24, List.forall_mem_cons.mpr ⟨ma_25, List.forall_mem_cons.mpr ⟨ma_26, List.forall_mem_cons.mpr ⟨ma_27, List.forall_mem_cons.mpr ⟨ma_28, List.forall_mem_cons.mpr ⟨ma_29, List.forall_mem_cons.mpr ⟨ma_30, List.forall_mem_cons.mpr ⟨ma_31, List.forall_mem_cons.mpr ⟨ma_32, List.forall_mem_cons.mpr ⟨ma_33, List.forall_mem_cons.mpr ⟨ma_34, List.forall_mem_cons.mpr ⟨ma_35, List.forall_mem_cons.mpr ⟨ma_36, List.forall_mem_cons.mpr ⟨ma_37, List.forall_mem_cons.mpr ⟨ma_38, List.forall_mem_cons.mpr ⟨ma_39, List.forall_mem_cons.mpr ⟨ma_40, List.forall_mem_cons.mpr ⟨ma_41, List.forall_mem_cons.mpr ⟨ma_42, List.forall_mem_cons.mpr ⟨ma_43, List.forall_mem_cons.mpr ⟨ma_44, List.forall_mem_cons.mpr ⟨ma_45, List.forall_mem_cons.mpr ⟨ma_46, List.forall_mem_cons.mpr ⟨ma_47, List.forall_mem_cons.mpr ⟨ma_48, List.forall_mem_cons.mpr ⟨ma_49, List.forall_mem_cons.mpr ⟨ma_50, List.forall_mem_cons.mpr ⟨ma_51, List.forall_mem_cons.mpr ⟨ma_52, List.forall_mem_cons.mpr ⟨ma_53, List.forall_mem_cons.mpr ⟨ma_54, List.forall_mem_cons.mpr ⟨ma_55, List.forall_mem_cons.mpr ⟨ma_56, List.forall_mem_cons.mpr ⟨ma_57, List.forall_mem_cons.mpr ⟨ma_58, List.forall_mem_cons.mpr ⟨ma_59, List.forall_mem_cons.mpr ⟨ma_60, List.forall_mem_cons.mpr ⟨ma_61, List.forall_mem_cons.mpr ⟨ma_62, List.forall_mem_cons.mpr ⟨ma_63, List.forall_mem_cons.mpr ⟨ma_64, List.forall_mem_cons.mpr ⟨ma_65, List.forall_mem_cons.mpr ⟨ma_66, List.forall_mem_cons.mpr ⟨ma_67, List.forall_mem_cons.mpr ⟨ma_68, List.forall_mem_cons.mpr ⟨ma_69, List.forall_mem_cons.mpr ⟨ma_70, List.forall_mem_cons.mpr ⟨ma_71, List.forall_mem_cons.mpr ⟨ma_72, List.forall_mem_cons.mpr ⟨ma_73, List.forall_mem_cons.mpr ⟨ma_74, List.forall_mem_cons.mpr ⟨ma_75, List.forall_mem_cons.mpr ⟨ma_76, List.forall_mem_cons.mpr ⟨ma_77, List.forall_mem_cons.mpr ⟨ma_78, List.forall_mem_cons.mpr ⟨ma_79, List.forall_mem_cons.mpr ⟨ma_80, List.forall_mem_cons.mpr ⟨ma_81, List.forall_mem_cons.mpr ⟨ma_82, List.forall_mem_cons.mpr ⟨ma_83, List.forall_mem_cons.mpr ⟨ma_84, List.forall_mem_cons.mpr ⟨ma_85, List.forall_mem_cons.mpr ⟨ma_86, List.forall_mem_cons.mpr ⟨ma_87, List.forall_mem_cons.mpr ⟨ma_88, List.forall_mem_cons.mpr ⟨ma_89, List.forall_mem_cons.mpr ⟨ma_90, List.forall_mem_cons.mpr ⟨ma_91, List.forall_mem_cons.mpr ⟨ma_92, List.forall_mem_cons.mpr ⟨ma_93, List.forall_mem_cons.mpr ⟨ma_94, List.forall_mem_cons.mpr ⟨ma_95, List.forall_mem_cons.mpr ⟨ma_96, List.forall_mem_cons.mpr ⟨ma_97, List.forall_mem_cons.mpr ⟨ma_98, List.forall_mem_cons.mpr ⟨ma_99, List.forall_mem_cons.mpr ⟨ma_100, List.forall_mem_cons.mpr ⟨ma_101, List.forall_mem_cons.mpr ⟨ma_102, List.forall_mem_cons.mpr ⟨ma_103, List.forall_mem_cons.mpr ⟨ma_104, List.forall_mem_cons.mpr ⟨ma_105, List.forall_mem_cons.mpr ⟨ma_106, List.forall_mem_cons.mpr ⟨ma_107, List.forall_mem_cons.mpr ⟨ma_108, List.forall_mem_cons.mpr ⟨ma_109, List.forall_mem_cons.mpr ⟨ma_110, List.forall_mem_cons.mpr ⟨ma_111, List.forall_mem_cons.mpr ⟨ma_112, List.forall_mem_cons.mpr ⟨ma_113, List.forall_mem_cons.mpr ⟨ma_114, List.forall_mem_cons.mpr ⟨ma_115, List.forall_mem_cons.mpr ⟨ma_116, List.forall_mem_cons.mpr ⟨ma_117, List.forall_mem_cons.mpr ⟨ma_118, List.forall_mem_cons.mpr ⟨ma_119, List.forall_mem_cons.mpr ⟨ma_120, List.forall_mem_cons.mpr ⟨ma_121, List.forall_mem_cons.mpr ⟨ma_122, List.forall_mem_cons.mpr ⟨ma_123, List.forall_mem_cons.mpr ⟨ma_124, List.forall_mem_cons.mpr ⟨ma_125, List.forall_mem_cons.mpr ⟨ma_126, List.forall_mem_cons.mpr ⟨ma_127, List.forall_mem_cons.mpr ⟨ma_128, List.forall_mem_cons.mpr ⟨ma_129, List.forall_mem_cons.mpr ⟨ma_130, List.forall_mem_cons.mpr ⟨ma_131, List.forall_mem_cons.mpr ⟨ma_132, List.forall_mem_cons.mpr ⟨ma_133, List.forall_mem_cons.mpr ⟨ma_134, List.forall_mem_cons.mpr ⟨ma_135, List.forall_mem_cons.mpr ⟨ma_136, List.forall_mem_cons.mpr ⟨ma_137, List.forall_mem_cons.mpr ⟨ma_138, List.forall_mem_cons.mpr ⟨ma_139, List.forall_mem_cons.mpr ⟨ma_140, List.forall_mem_cons.mpr ⟨ma_141, List.forall_mem_cons.mpr ⟨ma_142, List.forall_mem_cons.mpr ⟨ma_143, List.forall_mem_cons.mpr ⟨ma_144, List.forall_mem_cons.mpr ⟨ma_145, List.forall_mem_cons.mpr ⟨ma_146, List.forall_mem_cons.mpr ⟨ma_147, List.forall_mem_cons.mpr ⟨ma_148, List.forall_mem_cons.mpr ⟨ma_149, List.forall_mem_cons.mpr ⟨ma_150, List.forall_mem_cons.mpr ⟨ma_151, List.forall_mem_cons.mpr ⟨ma_152, List.forall_mem_cons.mpr ⟨ma_153, List.forall_mem_cons.mpr ⟨ma_154, List.forall_mem_cons.mpr ⟨ma_155, List.forall_mem_cons.mpr ⟨ma_156, List.forall_mem_cons.mpr ⟨ma_157, List.forall_mem_cons.mpr ⟨ma_158, List.forall_mem_cons.mpr ⟨ma_159, List.forall_mem_cons.mpr ⟨ma_160, List.forall_mem_cons.mpr ⟨ma_161, List.forall_mem_cons.mpr ⟨ma_162, List.forall_mem_cons.mpr ⟨ma_163, List.forall_mem_cons.mpr ⟨ma_164, List.forall_mem_cons.mpr ⟨ma_165, List.forall_mem_cons.mpr ⟨ma_166, List.forall_mem_cons.mpr ⟨ma_167, List.forall_mem_cons.mpr ⟨ma_168, List.forall_mem_cons.mpr ⟨ma_169, List.forall_mem_cons.mpr ⟨ma_170, List.forall_mem_cons.mpr ⟨ma_171, List.forall_mem_cons.mpr ⟨ma_172, List.forall_mem_cons.mpr ⟨ma_173, List.forall_mem_cons.mpr ⟨ma_174, List.forall_mem_cons.mpr ⟨ma_175, List.forall_mem_cons.mpr ⟨ma_176, List.forall_mem_cons.mpr ⟨ma_177, List.forall_mem_cons.mpr ⟨ma_178, List.forall_mem_cons.mpr ⟨ma_179, List.forall_mem_cons.mpr ⟨ma_180, List.forall_mem_cons.mpr ⟨ma_181, List.forall_mem_cons.mpr ⟨ma_182, List.forall_mem_cons.mpr ⟨ma_183, List.forall_mem_cons.mpr ⟨ma_184, List.forall_mem_cons.mpr ⟨ma_185, List.forall_mem_cons.mpr ⟨ma_186, List.forall_mem_cons.mpr ⟨ma_187, List.forall_mem_cons.mpr ⟨ma_188, List.forall_mem_cons.mpr ⟨ma_189, List.forall_mem_cons.mpr ⟨ma_190, List.forall_mem_cons.mpr ⟨ma_191, List.forall_mem_cons.mpr ⟨ma_192, List.forall_mem_cons.mpr ⟨ma_193, List.forall_mem_cons.mpr ⟨ma_194, List.forall_mem_cons.mpr ⟨ma_195, List.forall_mem_cons.mpr ⟨ma_196, List.forall_mem_cons.mpr ⟨ma_197, List.forall_mem_cons.mpr ⟨ma_198, List.forall_mem_cons.mpr ⟨ma_199, List.forall_mem_cons.mpr ⟨ma_200, List.forall_mem_cons.mpr ⟨ma_201, List.forall_mem_cons.mpr ⟨ma_202, List.forall_mem_cons.mpr ⟨ma_203, List.forall_mem_cons.mpr ⟨ma_204, List.forall_mem_cons.mpr ⟨ma_205, List.forall_mem_cons.mpr ⟨ma_206, List.forall_mem_cons.mpr ⟨ma_207, List.forall_mem_cons.mpr ⟨ma_208, List.forall_mem_cons.mpr ⟨ma_209, List.forall_mem_cons.mpr ⟨ma_210, List.forall_mem_cons.mpr ⟨ma_211, List.forall_mem_cons.mpr ⟨ma_212, List.forall_mem_cons.mpr ⟨ma_213, List.forall_mem_cons.mpr ⟨ma_214, List.forall_mem_cons.mpr ⟨ma_215, List.forall_mem_cons.mpr ⟨ma_216, List.forall_mem_cons.mpr ⟨ma_217, List.forall_mem_cons.mpr ⟨ma_218, List.forall_mem_cons.mpr ⟨ma_219, List.forall_mem_cons.mpr ⟨ma_220, List.forall_mem_cons.mpr ⟨ma_221, List.forall_mem_cons.mpr ⟨ma_222, List.forall_mem_cons.mpr ⟨ma_223, List.forall_mem_cons.mpr ⟨ma_224, List.forall_mem_cons.mpr ⟨ma_225, List.forall_mem_cons.mpr ⟨ma_226, List.forall_mem_cons.mpr ⟨ma_227, List.forall_mem_cons.mpr ⟨ma_228, List.forall_mem_cons.mpr ⟨ma_229, List.forall_mem_cons.mpr ⟨ma_230, List.forall_mem_cons.mpr ⟨ma_231, List.forall_mem_cons.mpr ⟨ma_232, List.forall_mem_cons.mpr ⟨ma_233, List.forall_mem_cons.mpr ⟨ma_234, List.forall_mem_cons.mpr ⟨ma_235, List.forall_mem_cons.mpr ⟨ma_236, List.forall_mem_cons.mpr ⟨ma_237, List.forall_mem_cons.mpr ⟨ma_238, List.forall_mem_cons.mpr ⟨ma_239, List.forall_mem_cons.mpr ⟨ma_240, List.forall_mem_cons.mpr ⟨ma_241, List.forall_mem_cons.mpr ⟨ma_242, List.forall_mem_cons.mpr ⟨ma_243, List.forall_mem_cons.mpr ⟨ma_244, List.forall_mem_cons.mpr ⟨ma_245, List.forall_mem_nil _⟩⟩⟩⟩⟩⟩⟩⟩⟩⟩⟩⟩⟩⟩⟩⟩⟩⟩⟩⟩⟩⟩⟩⟩⟩⟩⟩⟩⟩⟩⟩⟩⟩⟩⟩⟩⟩⟩⟩⟩⟩⟩⟩⟩⟩⟩⟩⟩⟩⟩⟩⟩⟩⟩⟩⟩⟩⟩⟩⟩⟩⟩⟩⟩⟩⟩⟩⟩⟩⟩⟩⟩⟩⟩⟩⟩⟩⟩⟩⟩⟩⟩⟩⟩⟩⟩⟩⟩⟩⟩⟩⟩⟩⟩⟩⟩⟩⟩⟩⟩⟩⟩⟩⟩⟩⟩⟩⟩⟩⟩⟩⟩⟩⟩⟩⟩⟩⟩⟩⟩⟩⟩⟩⟩⟩⟩⟩⟩⟩⟩⟩⟩⟩⟩⟩⟩⟩⟩⟩⟩⟩⟩⟩⟩⟩⟩⟩⟩⟩⟩⟩⟩⟩⟩⟩⟩⟩⟩⟩⟩⟩⟩⟩⟩⟩⟩⟩⟩⟩⟩⟩⟩⟩⟩⟩⟩⟩⟩⟩⟩⟩⟩⟩⟩⟩⟩⟩⟩⟩⟩⟩⟩⟩⟩⟩⟩⟩⟩⟩⟩⟩⟩⟩⟩⟩⟩⟩⟩⟩⟩⟩⟩⟩⟩⟩⟩⟩⟩⟩⟩⟩⟩⟩⟩⟩⟩⟩⟩⟩⟩⟩⟩⟩⟩⟩⟩⟩⟩⟩⟩⟩⟩⟩⟩⟩⟩
end
section
/-! a branch, taken or not -/
section AKB
variable {p : Program} {l : Launch} {e : Env} {R : Room} {s : State} {m : MethodId} {args : Array Value} {below : List Frame} {meth : Method} {c : Code} {H : Heap} {locs : List Loc} {cells slots : Nat} {Q : State → Prop}
variable {cc : ByteArray} {pc t : Nat} {ls : Array Slot} {rest : List Value}
theorem ak_nn_if_eq (hx : p.tables.exec = Jvm.exec) (hb : c.code = cc) {x : Int32} {off : Int} (hdg : decode cc pc = .ok (.ifCond .eq off, 3)) (hc : ¬ x = 0) (k : W p l e R s m args below meth c H locs cells slots Q (F0 m (pc + 3) ls rest)) : W p l e R s m args below meth c H locs cells slots Q (F0 m pc ls (.int x :: rest)) := by
  intro T hT X
  obtain ⟨t, a, b⟩ := k T hT X
  refine ⟨t, ?_, b⟩
  jvm_step X.here [X.here.top, hx, hb, hdg, Op.ifCond.holds, hc]
  exact a
theorem ak_nn_icmp_eq (hx : p.tables.exec = Jvm.exec) (hb : c.code = cc) {x y : Int32} {off : Int} (hdg : decode cc pc = .ok (.if_icmp .eq off, 3)) (hc : ¬ x = y) (k : W p l e R s m args below meth c H locs cells slots Q (F0 m (pc + 3) ls rest)) : W p l e R s m args below meth c H locs cells slots Q (F0 m pc ls (.int y :: .int x :: rest)) := by
  intro T hT X
  obtain ⟨t, a, b⟩ := k T hT X
  refine ⟨t, ?_, b⟩
  jvm_step X.here [X.here.top, hx, hb, hdg, Op.if_icmp.holds, hc]
  exact a
theorem ak_nn_if_ne (hx : p.tables.exec = Jvm.exec) (hb : c.code = cc) {x : Int32} {off : Int} (hdg : decode cc pc = .ok (.ifCond .ne off, 3)) (hc : x = 0) (k : W p l e R s m args below meth c H locs cells slots Q (F0 m (pc + 3) ls rest)) : W p l e R s m args below meth c H locs cells slots Q (F0 m pc ls (.int x :: rest)) := by
  intro T hT X
  obtain ⟨t, a, b⟩ := k T hT X
  refine ⟨t, ?_, b⟩
  jvm_step X.here [X.here.top, hx, hb, hdg, Op.ifCond.holds, hc]
  exact a
theorem ak_nn_icmp_ne (hx : p.tables.exec = Jvm.exec) (hb : c.code = cc) {x y : Int32} {off : Int} (hdg : decode cc pc = .ok (.if_icmp .ne off, 3)) (hc : x = y) (k : W p l e R s m args below meth c H locs cells slots Q (F0 m (pc + 3) ls rest)) : W p l e R s m args below meth c H locs cells slots Q (F0 m pc ls (.int y :: .int x :: rest)) := by
  intro T hT X
  obtain ⟨t, a, b⟩ := k T hT X
  refine ⟨t, ?_, b⟩
  jvm_step X.here [X.here.top, hx, hb, hdg, Op.if_icmp.holds, hc]
  exact a
theorem ak_nn_if_lt (hx : p.tables.exec = Jvm.exec) (hb : c.code = cc) {x : Int32} {off : Int} (hdg : decode cc pc = .ok (.ifCond .lt off, 3)) (hc : ¬ x < 0) (k : W p l e R s m args below meth c H locs cells slots Q (F0 m (pc + 3) ls rest)) : W p l e R s m args below meth c H locs cells slots Q (F0 m pc ls (.int x :: rest)) := by
  intro T hT X
  obtain ⟨t, a, b⟩ := k T hT X
  refine ⟨t, ?_, b⟩
  jvm_step X.here [X.here.top, hx, hb, hdg, Op.ifCond.holds, hc]
  exact a
theorem ak_nn_icmp_lt (hx : p.tables.exec = Jvm.exec) (hb : c.code = cc) {x y : Int32} {off : Int} (hdg : decode cc pc = .ok (.if_icmp .lt off, 3)) (hc : ¬ x < y) (k : W p l e R s m args below meth c H locs cells slots Q (F0 m (pc + 3) ls rest)) : W p l e R s m args below meth c H locs cells slots Q (F0 m pc ls (.int y :: .int x :: rest)) := by
  intro T hT X
  obtain ⟨t, a, b⟩ := k T hT X
  refine ⟨t, ?_, b⟩
  jvm_step X.here [X.here.top, hx, hb, hdg, Op.if_icmp.holds, hc]
  exact a
theorem ak_nn_if_ge (hx : p.tables.exec = Jvm.exec) (hb : c.code = cc) {x : Int32} {off : Int} (hdg : decode cc pc = .ok (.ifCond .ge off, 3)) (hc : ¬ 0 ≤ x) (k : W p l e R s m args below meth c H locs cells slots Q (F0 m (pc + 3) ls rest)) : W p l e R s m args below meth c H locs cells slots Q (F0 m pc ls (.int x :: rest)) := by
  intro T hT X
  obtain ⟨t, a, b⟩ := k T hT X
  refine ⟨t, ?_, b⟩
  jvm_step X.here [X.here.top, hx, hb, hdg, Op.ifCond.holds, hc]
  exact a
theorem ak_nn_icmp_ge (hx : p.tables.exec = Jvm.exec) (hb : c.code = cc) {x y : Int32} {off : Int} (hdg : decode cc pc = .ok (.if_icmp .ge off, 3)) (hc : ¬ y ≤ x) (k : W p l e R s m args below meth c H locs cells slots Q (F0 m (pc + 3) ls rest)) : W p l e R s m args below meth c H locs cells slots Q (F0 m pc ls (.int y :: .int x :: rest)) := by
  intro T hT X
  obtain ⟨t, a, b⟩ := k T hT X
  refine ⟨t, ?_, b⟩
  jvm_step X.here [X.here.top, hx, hb, hdg, Op.if_icmp.holds, hc]
  exact a
theorem ak_nn_if_gt (hx : p.tables.exec = Jvm.exec) (hb : c.code = cc) {x : Int32} {off : Int} (hdg : decode cc pc = .ok (.ifCond .gt off, 3)) (hc : ¬ 0 < x) (k : W p l e R s m args below meth c H locs cells slots Q (F0 m (pc + 3) ls rest)) : W p l e R s m args below meth c H locs cells slots Q (F0 m pc ls (.int x :: rest)) := by
  intro T hT X
  obtain ⟨t, a, b⟩ := k T hT X
  refine ⟨t, ?_, b⟩
  jvm_step X.here [X.here.top, hx, hb, hdg, Op.ifCond.holds, hc]
  exact a
theorem ak_nn_icmp_gt (hx : p.tables.exec = Jvm.exec) (hb : c.code = cc) {x y : Int32} {off : Int} (hdg : decode cc pc = .ok (.if_icmp .gt off, 3)) (hc : ¬ y < x) (k : W p l e R s m args below meth c H locs cells slots Q (F0 m (pc + 3) ls rest)) : W p l e R s m args below meth c H locs cells slots Q (F0 m pc ls (.int y :: .int x :: rest)) := by
  intro T hT X
  obtain ⟨t, a, b⟩ := k T hT X
  refine ⟨t, ?_, b⟩
  jvm_step X.here [X.here.top, hx, hb, hdg, Op.if_icmp.holds, hc]
  exact a
theorem ak_nn_if_le (hx : p.tables.exec = Jvm.exec) (hb : c.code = cc) {x : Int32} {off : Int} (hdg : decode cc pc = .ok (.ifCond .le off, 3)) (hc : ¬ x ≤ 0) (k : W p l e R s m args below meth c H locs cells slots Q (F0 m (pc + 3) ls rest)) : W p l e R s m args below meth c H locs cells slots Q (F0 m pc ls (.int x :: rest)) := by
  intro T hT X
  obtain ⟨t, a, b⟩ := k T hT X
  refine ⟨t, ?_, b⟩
  jvm_step X.here [X.here.top, hx, hb, hdg, Op.ifCond.holds, hc]
  exact a
theorem ak_nn_icmp_le (hx : p.tables.exec = Jvm.exec) (hb : c.code = cc) {x y : Int32} {off : Int} (hdg : decode cc pc = .ok (.if_icmp .le off, 3)) (hc : ¬ x ≤ y) (k : W p l e R s m args below meth c H locs cells slots Q (F0 m (pc + 3) ls rest)) : W p l e R s m args below meth c H locs cells slots Q (F0 m pc ls (.int y :: .int x :: rest)) := by
  intro T hT X
  obtain ⟨t, a, b⟩ := k T hT X
  refine ⟨t, ?_, b⟩
  jvm_step X.here [X.here.top, hx, hb, hdg, Op.if_icmp.holds, hc]
  exact a
theorem ak_t_if_eq (hx : p.tables.exec = Jvm.exec) (hb : c.code = cc) {x : Int32} {off : Int} (hdg : decode cc pc = .ok (.ifCond .eq off, 3)) (hc : x = 0) (ht : (pc : Int) + off = Int.ofNat t) (k : W p l e R s m args below meth c H locs cells slots Q (F0 m t ls rest)) : W p l e R s m args below meth c H locs cells slots Q (F0 m pc ls (.int x :: rest)) := lv_if_eq hx hb hdg ht (fun _ => k) (fun z => absurd hc z)
theorem ak_n_if_eq (hx : p.tables.exec = Jvm.exec) (hb : c.code = cc) {x : Int32} {off : Int} (hdg : decode cc pc = .ok (.ifCond .eq off, 3)) (hc : ¬ x = 0) (ht : ((pc + 3 : Nat) : Int) = Int.ofNat t) (k : W p l e R s m args below meth c H locs cells slots Q (F0 m t ls rest)) : W p l e R s m args below meth c H locs cells slots Q (F0 m pc ls (.int x :: rest)) := by
  obtain rfl : pc + 3 = t := Int.ofNat.inj ht
  exact ak_nn_if_eq hx hb hdg hc k
theorem ak_t_icmp_eq (hx : p.tables.exec = Jvm.exec) (hb : c.code = cc) {x y : Int32} {off : Int} (hdg : decode cc pc = .ok (.if_icmp .eq off, 3)) (hc : x = y) (ht : (pc : Int) + off = Int.ofNat t) (k : W p l e R s m args below meth c H locs cells slots Q (F0 m t ls rest)) : W p l e R s m args below meth c H locs cells slots Q (F0 m pc ls (.int y :: .int x :: rest)) := lv_icmp_eq hx hb hdg ht (fun _ => k) (fun z => absurd hc z)
theorem ak_n_icmp_eq (hx : p.tables.exec = Jvm.exec) (hb : c.code = cc) {x y : Int32} {off : Int} (hdg : decode cc pc = .ok (.if_icmp .eq off, 3)) (hc : ¬ x = y) (ht : ((pc + 3 : Nat) : Int) = Int.ofNat t) (k : W p l e R s m args below meth c H locs cells slots Q (F0 m t ls rest)) : W p l e R s m args below meth c H locs cells slots Q (F0 m pc ls (.int y :: .int x :: rest)) := by
  obtain rfl : pc + 3 = t := Int.ofNat.inj ht
  exact ak_nn_icmp_eq hx hb hdg hc k
theorem ak_t_if_ne (hx : p.tables.exec = Jvm.exec) (hb : c.code = cc) {x : Int32} {off : Int} (hdg : decode cc pc = .ok (.ifCond .ne off, 3)) (hc : ¬ x = 0) (ht : (pc : Int) + off = Int.ofNat t) (k : W p l e R s m args below meth c H locs cells slots Q (F0 m t ls rest)) : W p l e R s m args below meth c H locs cells slots Q (F0 m pc ls (.int x :: rest)) := lv_if_ne hx hb hdg ht (fun _ => k) (fun z => absurd z hc)
theorem ak_n_if_ne (hx : p.tables.exec = Jvm.exec) (hb : c.code = cc) {x : Int32} {off : Int} (hdg : decode cc pc = .ok (.ifCond .ne off, 3)) (hc : x = 0) (ht : ((pc + 3 : Nat) : Int) = Int.ofNat t) (k : W p l e R s m args below meth c H locs cells slots Q (F0 m t ls rest)) : W p l e R s m args below meth c H locs cells slots Q (F0 m pc ls (.int x :: rest)) := by
  obtain rfl : pc + 3 = t := Int.ofNat.inj ht
  exact ak_nn_if_ne hx hb hdg hc k
theorem ak_t_icmp_ne (hx : p.tables.exec = Jvm.exec) (hb : c.code = cc) {x y : Int32} {off : Int} (hdg : decode cc pc = .ok (.if_icmp .ne off, 3)) (hc : ¬ x = y) (ht : (pc : Int) + off = Int.ofNat t) (k : W p l e R s m args below meth c H locs cells slots Q (F0 m t ls rest)) : W p l e R s m args below meth c H locs cells slots Q (F0 m pc ls (.int y :: .int x :: rest)) := lv_icmp_ne hx hb hdg ht (fun _ => k) (fun z => absurd z hc)
theorem ak_n_icmp_ne (hx : p.tables.exec = Jvm.exec) (hb : c.code = cc) {x y : Int32} {off : Int} (hdg : decode cc pc = .ok (.if_icmp .ne off, 3)) (hc : x = y) (ht : ((pc + 3 : Nat) : Int) = Int.ofNat t) (k : W p l e R s m args below meth c H locs cells slots Q (F0 m t ls rest)) : W p l e R s m args below meth c H locs cells slots Q (F0 m pc ls (.int y :: .int x :: rest)) := by
  obtain rfl : pc + 3 = t := Int.ofNat.inj ht
  exact ak_nn_icmp_ne hx hb hdg hc k
theorem ak_t_if_lt (hx : p.tables.exec = Jvm.exec) (hb : c.code = cc) {x : Int32} {off : Int} (hdg : decode cc pc = .ok (.ifCond .lt off, 3)) (hc : x < 0) (ht : (pc : Int) + off = Int.ofNat t) (k : W p l e R s m args below meth c H locs cells slots Q (F0 m t ls rest)) : W p l e R s m args below meth c H locs cells slots Q (F0 m pc ls (.int x :: rest)) := lv_if_lt hx hb hdg ht (fun _ => k) (fun z => absurd hc z)
theorem ak_n_if_lt (hx : p.tables.exec = Jvm.exec) (hb : c.code = cc) {x : Int32} {off : Int} (hdg : decode cc pc = .ok (.ifCond .lt off, 3)) (hc : ¬ x < 0) (ht : ((pc + 3 : Nat) : Int) = Int.ofNat t) (k : W p l e R s m args below meth c H locs cells slots Q (F0 m t ls rest)) : W p l e R s m args below meth c H locs cells slots Q (F0 m pc ls (.int x :: rest)) := by
  obtain rfl : pc + 3 = t := Int.ofNat.inj ht
  exact ak_nn_if_lt hx hb hdg hc k
theorem ak_t_icmp_lt (hx : p.tables.exec = Jvm.exec) (hb : c.code = cc) {x y : Int32} {off : Int} (hdg : decode cc pc = .ok (.if_icmp .lt off, 3)) (hc : x < y) (ht : (pc : Int) + off = Int.ofNat t) (k : W p l e R s m args below meth c H locs cells slots Q (F0 m t ls rest)) : W p l e R s m args below meth c H locs cells slots Q (F0 m pc ls (.int y :: .int x :: rest)) := lv_icmp_lt hx hb hdg ht (fun _ => k) (fun z => absurd hc z)
theorem ak_n_icmp_lt (hx : p.tables.exec = Jvm.exec) (hb : c.code = cc) {x y : Int32} {off : Int} (hdg : decode cc pc = .ok (.if_icmp .lt off, 3)) (hc : ¬ x < y) (ht : ((pc + 3 : Nat) : Int) = Int.ofNat t) (k : W p l e R s m args below meth c H locs cells slots Q (F0 m t ls rest)) : W p l e R s m args below meth c H locs cells slots Q (F0 m pc ls (.int y :: .int x :: rest)) := by
  obtain rfl : pc + 3 = t := Int.ofNat.inj ht
  exact ak_nn_icmp_lt hx hb hdg hc k
theorem ak_t_if_ge (hx : p.tables.exec = Jvm.exec) (hb : c.code = cc) {x : Int32} {off : Int} (hdg : decode cc pc = .ok (.ifCond .ge off, 3)) (hc : 0 ≤ x) (ht : (pc : Int) + off = Int.ofNat t) (k : W p l e R s m args below meth c H locs cells slots Q (F0 m t ls rest)) : W p l e R s m args below meth c H locs cells slots Q (F0 m pc ls (.int x :: rest)) := lv_if_ge hx hb hdg ht (fun _ => k) (fun z => absurd hc z)
theorem ak_n_if_ge (hx : p.tables.exec = Jvm.exec) (hb : c.code = cc) {x : Int32} {off : Int} (hdg : decode cc pc = .ok (.ifCond .ge off, 3)) (hc : ¬ 0 ≤ x) (ht : ((pc + 3 : Nat) : Int) = Int.ofNat t) (k : W p l e R s m args below meth c H locs cells slots Q (F0 m t ls rest)) : W p l e R s m args below meth c H locs cells slots Q (F0 m pc ls (.int x :: rest)) := by
  obtain rfl : pc + 3 = t := Int.ofNat.inj ht
  exact ak_nn_if_ge hx hb hdg hc k
theorem ak_t_icmp_ge (hx : p.tables.exec = Jvm.exec) (hb : c.code = cc) {x y : Int32} {off : Int} (hdg : decode cc pc = .ok (.if_icmp .ge off, 3)) (hc : y ≤ x) (ht : (pc : Int) + off = Int.ofNat t) (k : W p l e R s m args below meth c H locs cells slots Q (F0 m t ls rest)) : W p l e R s m args below meth c H locs cells slots Q (F0 m pc ls (.int y :: .int x :: rest)) := lv_icmp_ge hx hb hdg ht (fun _ => k) (fun z => absurd hc z)
theorem ak_n_icmp_ge (hx : p.tables.exec = Jvm.exec) (hb : c.code = cc) {x y : Int32} {off : Int} (hdg : decode cc pc = .ok (.if_icmp .ge off, 3)) (hc : ¬ y ≤ x) (ht : ((pc + 3 : Nat) : Int) = Int.ofNat t) (k : W p l e R s m args below meth c H locs cells slots Q (F0 m t ls rest)) : W p l e R s m args below meth c H locs cells slots Q (F0 m pc ls (.int y :: .int x :: rest)) := by
  obtain rfl : pc + 3 = t := Int.ofNat.inj ht
  exact ak_nn_icmp_ge hx hb hdg hc k
theorem ak_t_if_gt (hx : p.tables.exec = Jvm.exec) (hb : c.code = cc) {x : Int32} {off : Int} (hdg : decode cc pc = .ok (.ifCond .gt off, 3)) (hc : 0 < x) (ht : (pc : Int) + off = Int.ofNat t) (k : W p l e R s m args below meth c H locs cells slots Q (F0 m t ls rest)) : W p l e R s m args below meth c H locs cells slots Q (F0 m pc ls (.int x :: rest)) := lv_if_gt hx hb hdg ht (fun _ => k) (fun z => absurd hc z)
theorem ak_n_if_gt (hx : p.tables.exec = Jvm.exec) (hb : c.code = cc) {x : Int32} {off : Int} (hdg : decode cc pc = .ok (.ifCond .gt off, 3)) (hc : ¬ 0 < x) (ht : ((pc + 3 : Nat) : Int) = Int.ofNat t) (k : W p l e R s m args below meth c H locs cells slots Q (F0 m t ls rest)) : W p l e R s m args below meth c H locs cells slots Q (F0 m pc ls (.int x :: rest)) := by
  obtain rfl : pc + 3 = t := Int.ofNat.inj ht
  exact ak_nn_if_gt hx hb hdg hc k
theorem ak_t_icmp_gt (hx : p.tables.exec = Jvm.exec) (hb : c.code = cc) {x y : Int32} {off : Int} (hdg : decode cc pc = .ok (.if_icmp .gt off, 3)) (hc : y < x) (ht : (pc : Int) + off = Int.ofNat t) (k : W p l e R s m args below meth c H locs cells slots Q (F0 m t ls rest)) : W p l e R s m args below meth c H locs cells slots Q (F0 m pc ls (.int y :: .int x :: rest)) := lv_icmp_gt hx hb hdg ht (fun _ => k) (fun z => absurd hc z)
theorem ak_n_icmp_gt (hx : p.tables.exec = Jvm.exec) (hb : c.code = cc) {x y : Int32} {off : Int} (hdg : decode cc pc = .ok (.if_icmp .gt off, 3)) (hc : ¬ y < x) (ht : ((pc + 3 : Nat) : Int) = Int.ofNat t) (k : W p l e R s m args below meth c H locs cells slots Q (F0 m t ls rest)) : W p l e R s m args below meth c H locs cells slots Q (F0 m pc ls (.int y :: .int x :: rest)) := by
  obtain rfl : pc + 3 = t := Int.ofNat.inj ht
  exact ak_nn_icmp_gt hx hb hdg hc k
theorem ak_t_if_le (hx : p.tables.exec = Jvm.exec) (hb : c.code = cc) {x : Int32} {off : Int} (hdg : decode cc pc = .ok (.ifCond .le off, 3)) (hc : x ≤ 0) (ht : (pc : Int) + off = Int.ofNat t) (k : W p l e R s m args below meth c H locs cells slots Q (F0 m t ls rest)) : W p l e R s m args below meth c H locs cells slots Q (F0 m pc ls (.int x :: rest)) := lv_if_le hx hb hdg ht (fun _ => k) (fun z => absurd hc z)
theorem ak_n_if_le (hx : p.tables.exec = Jvm.exec) (hb : c.code = cc) {x : Int32} {off : Int} (hdg : decode cc pc = .ok (.ifCond .le off, 3)) (hc : ¬ x ≤ 0) (ht : ((pc + 3 : Nat) : Int) = Int.ofNat t) (k : W p l e R s m args below meth c H locs cells slots Q (F0 m t ls rest)) : W p l e R s m args below meth c H locs cells slots Q (F0 m pc ls (.int x :: rest)) := by
  obtain rfl : pc + 3 = t := Int.ofNat.inj ht
  exact ak_nn_if_le hx hb hdg hc k
theorem ak_t_icmp_le (hx : p.tables.exec = Jvm.exec) (hb : c.code = cc) {x y : Int32} {off : Int} (hdg : decode cc pc = .ok (.if_icmp .le off, 3)) (hc : x ≤ y) (ht : (pc : Int) + off = Int.ofNat t) (k : W p l e R s m args below meth c H locs cells slots Q (F0 m t ls rest)) : W p l e R s m args below meth c H locs cells slots Q (F0 m pc ls (.int y :: .int x :: rest)) := lv_icmp_le hx hb hdg ht (fun _ => k) (fun z => absurd hc z)
theorem ak_n_icmp_le (hx : p.tables.exec = Jvm.exec) (hb : c.code = cc) {x y : Int32} {off : Int} (hdg : decode cc pc = .ok (.if_icmp .le off, 3)) (hc : ¬ x ≤ y) (ht : ((pc + 3 : Nat) : Int) = Int.ofNat t) (k : W p l e R s m args below meth c H locs cells slots Q (F0 m t ls rest)) : W p l e R s m args below meth c H locs cells slots Q (F0 m pc ls (.int y :: .int x :: rest)) := by
  obtain rfl : pc + 3 = t := Int.ofNat.inj ht
  exact ak_nn_icmp_le hx hb hdg hc k
end AKB
/-! the small machine's steps are the bytecode's: instructions of the stack, of locals, branches -/
def ak_tys (E : ak_E) : List (ClassId × FieldType) := [(E.2.1 0, .int), (E.2.1 1, .boolean), (E.2.1 2, .object RX10), (E.2.1 3, .object RX3), (E.2.1 4, .object RX7)]
/-- what holds through a frame of a method -/
def ak_C (E : ak_E) (Z : ak_Z) (p : Program) (s : State) (m : MethodId) (args : Array Value) (meth : Method) (c : Code) (q : ak_Q) : Prop :=
  p.tables.exec = Jvm.exec ∧ c.code = q.2.1 ∧ c.maxLocals = q.2.2.1 ∧ s.vm.findClass q.1.cls = some m.cls ∧ (∀ w ∈ ak_Ts, w.before args s = true) ∧ va_K E.1 vwCl (ak_tys E) s ∧ ak_G E Z s s.heap ∧ E.2.2.1 ≤ s.heap.size ∧ ((q.1.name == "<init>") = true → meth.name = "<init>")
/-- our cells, as the machine's heap has them -/
def ak_J (E : ak_E) (s : State) (h : ak_H) (H : Heap) (locs : List Loc) : Prop := (h.1.length < ak_N0 → H.size = E.2.2.1 + h.1.length) ∧ h.1.length ≤ ak_N0 ∧ va_P E.1 vwCl (ak_ws E h) H ∧ va_S (fun a => E.2.2.1 ≤ a) s.heap H locs
section AKS
variable {p : Program} {l : Launch} {e : Env} {R : Room} {s : State} {m : MethodId} {args : Array Value} {below : List Frame} {meth : Method} {c : Code} {H : Heap} {locs : List Loc} {cells slots : Nat} {Q : State → Prop}
variable {pc w : Nat} {ls : Array Slot} {E : ak_E} {Z : ak_Z} {q : ak_Q} {ins : Instr} {x : ak_X}
set_option maxHeartbeats 4000000 in
theorem ak_stk_ok (C : ak_C E Z p s m args meth c q) (hdg : decode q.2.1 pc = .ok (ins, w)) (hwd : ak_wd ins w = true) (hok : ∀ i, ak_idx ins = some i → ak_okr q.1.cls i x) {S S' : List Value} (h : ak_stk ins x S = some S')
    (k : W p l e R s m args below meth c H locs cells slots Q (F0 m (pc + w) ls (S'.map (ak_cv E)))) : W p l e R s m args below meth c H locs cells slots Q (F0 m pc ls (S.map (ak_cv E))) := by
  obtain ⟨hx, hb, hml, hown, hts, hK, hG, hbs, hini⟩ := C
  cases ins
  case iconst n =>
    obtain rfl : w = 1 := by simpa [ak_wd] using hwd
    cases h
    exact lv_iconst hx hb hdg rfl k
  case bipush n =>
    obtain rfl : w = 2 := by simpa [ak_wd] using hwd
    cases h
    exact lv_bipush hx hb hdg rfl k
  case sipush n =>
    obtain rfl : w = 3 := by simpa [ak_wd] using hwd
    cases h
    exact lv_sipush hx hb hdg rfl k
  case lconst n =>
    obtain rfl : w = 1 := by simpa [ak_wd] using hwd
    cases h
    exact lv_lconst hx hb hdg rfl k
  case ldc i =>
    obtain rfl : w = 2 := by simpa [ak_wd] using hwd
    have ho := hok i rfl
    simp only [ak_stk] at h
    split at h
    · cases h
      exact lv_ldc hx hb hown (hts _ ho) hdg k
    · rename_i kk _ _
      cases h
      obtain ⟨ho1, tx, ho2⟩ := ho
      refine va_ldcS hx hb (own := q.1.cls) hown (by rw [ho1]; exact hG.2.2.2.1 _ _ _ ho2) hdg ?_
      have e : ak_cv E (.ref (1000000 + kk)) = .ref (E.2.2.2.1 (1000000 + kk)) := by
        show Value.ref (ak_ad E (1000000 + kk)) = _
        unfold ak_ad
        rw [if_neg (by omega)]
      rw [← e]
      exact k
    · cases h
  case ldc_w i =>
    obtain rfl : w = 3 := by simpa [ak_wd] using hwd
    have ho := hok i rfl
    simp only [ak_stk] at h
    split at h
    · cases h
      exact lv_ldcw hx hb hown (hts _ ho) hdg k
    · cases h
  case ldc2_w i =>
    obtain rfl : w = 3 := by simpa [ak_wd] using hwd
    have ho := hok i rfl
    simp only [ak_stk] at h
    split at h
    · cases h
      exact lv_ldc2 hx hb hown (hts _ ho) hdg k
    · cases h
  case iadd =>
    obtain rfl : w = 1 := by simpa [ak_wd] using hwd
    simp only [ak_stk] at h
    split at h
    · cases h
      exact lv_iadd hx hb hdg k
    · cases h
  case isub =>
    obtain rfl : w = 1 := by simpa [ak_wd] using hwd
    simp only [ak_stk] at h
    split at h
    · cases h
      exact lv_isub hx hb hdg k
    · cases h
  case imul =>
    obtain rfl : w = 1 := by simpa [ak_wd] using hwd
    simp only [ak_stk] at h
    split at h
    · cases h
      exact lv_imul hx hb hdg k
    · cases h
  case iand =>
    obtain rfl : w = 1 := by simpa [ak_wd] using hwd
    simp only [ak_stk] at h
    split at h
    · cases h
      exact lv_iand hx hb hdg k
    · cases h
  case ior =>
    obtain rfl : w = 1 := by simpa [ak_wd] using hwd
    simp only [ak_stk] at h
    split at h
    · cases h
      exact lv_ior hx hb hdg k
    · cases h
  case ixor =>
    obtain rfl : w = 1 := by simpa [ak_wd] using hwd
    simp only [ak_stk] at h
    split at h
    · cases h
      exact lv_ixor hx hb hdg k
    · cases h
  case ineg =>
    obtain rfl : w = 1 := by simpa [ak_wd] using hwd
    simp only [ak_stk] at h
    split at h
    · cases h
      exact lv_ineg hx hb hdg k
    · cases h
  case ishl =>
    obtain rfl : w = 1 := by simpa [ak_wd] using hwd
    simp only [ak_stk] at h
    split at h
    · cases h
      exact lv_ishl hx hb hdg k
    · cases h
  case ishr =>
    obtain rfl : w = 1 := by simpa [ak_wd] using hwd
    simp only [ak_stk] at h
    split at h
    · cases h
      exact lv_ishr hx hb hdg k
    · cases h
  case ladd =>
    obtain rfl : w = 1 := by simpa [ak_wd] using hwd
    simp only [ak_stk] at h
    split at h
    · cases h
      exact lv_ladd hx hb hdg k
    · cases h
  case lsub =>
    obtain rfl : w = 1 := by simpa [ak_wd] using hwd
    simp only [ak_stk] at h
    split at h
    · cases h
      exact lv_lsub hx hb hdg k
    · cases h
  case lmul =>
    obtain rfl : w = 1 := by simpa [ak_wd] using hwd
    simp only [ak_stk] at h
    split at h
    · cases h
      exact lv_lmul hx hb hdg k
    · cases h
  case lcmp =>
    obtain rfl : w = 1 := by simpa [ak_wd] using hwd
    simp only [ak_stk] at h
    split at h
    · cases h
      exact W.lcmp hx hb hdg k
    · cases h
  case iushr =>
    obtain rfl : w = 1 := by simpa [ak_wd] using hwd
    simp only [ak_stk] at h
    split at h
    · cases h
      exact lv_iushr hx hb hdg rfl k
    · cases h
  case i2l =>
    obtain rfl : w = 1 := by simpa [ak_wd] using hwd
    simp only [ak_stk] at h
    split at h
    · cases h
      exact lv_i2l hx hb hdg rfl k
    · cases h
  case l2i =>
    obtain rfl : w = 1 := by simpa [ak_wd] using hwd
    simp only [ak_stk] at h
    split at h
    · cases h
      exact lv_l2i hx hb hdg rfl k
    · cases h
  case i2b =>
    obtain rfl : w = 1 := by simpa [ak_wd] using hwd
    simp only [ak_stk] at h
    split at h
    · cases h
      exact lv_i2b hx hb hdg rfl k
    · cases h
  case i2s =>
    obtain rfl : w = 1 := by simpa [ak_wd] using hwd
    simp only [ak_stk] at h
    split at h
    · cases h
      exact lv_i2s hx hb hdg rfl k
    · cases h
  case i2c =>
    obtain rfl : w = 1 := by simpa [ak_wd] using hwd
    simp only [ak_stk] at h
    split at h
    · cases h
      exact lv_i2c hx hb hdg rfl k
    · cases h
  case idiv =>
    obtain rfl : w = 1 := by simpa [ak_wd] using hwd
    simp only [ak_stk] at h
    split at h
    · split at h
      · cases h
      · rename_i hne
        cases h
        exact lv_idiv hx hb hdg hne k
    · cases h
  case irem =>
    obtain rfl : w = 1 := by simpa [ak_wd] using hwd
    simp only [ak_stk] at h
    split at h
    · split at h
      · cases h
      · rename_i hne
        cases h
        exact lv_irem hx hb hdg hne k
    · cases h
  case ldiv =>
    obtain rfl : w = 1 := by simpa [ak_wd] using hwd
    simp only [ak_stk] at h
    split at h
    · split at h
      · cases h
      · rename_i hne
        cases h
        exact lv_ldiv hx hb hdg hne k
    · cases h
  case lrem =>
    obtain rfl : w = 1 := by simpa [ak_wd] using hwd
    simp only [ak_stk] at h
    split at h
    · split at h
      · cases h
      · rename_i hne
        cases h
        exact lv_lrem hx hb hdg hne k
    · cases h
  case dup =>
    obtain rfl : w = 1 := by simpa [ak_wd] using hwd
    simp only [ak_stk] at h
    split at h
    · cases h
      exact lv_dup hx hb hdg rfl k
    · cases h
      exact lv_dup hx hb hdg rfl k
    · cases h
  case pop =>
    obtain rfl : w = 1 := by simpa [ak_wd] using hwd
    simp only [ak_stk] at h
    split at h
    · cases h
      exact lv_pop hx hb (va := .int _) hdg rfl k
    · cases h
  case dup2 =>
    obtain rfl : w = 1 := by simpa [ak_wd] using hwd
    simp only [ak_stk] at h
    split at h
    · cases h
      exact lv_dup2_11 hx hb hdg rfl rfl k
    · cases h
  all_goals (exact absurd h (by simp [ak_stk]))
theorem ak_ldi_ok {L : ak_L} {k : Nat} {S S' : List Value} (h : ak_ldi L k S = some S') : ∃ v, L[k]? = some (some (.int v)) ∧ S' = .int v :: S := by
  unfold ak_ldi at h
  split at h
  · rename_i v e
    cases h
    exact ⟨v, e, rfl⟩
  · cases h
theorem ak_ldl_ok {L : ak_L} {k : Nat} {S S' : List Value} (h : ak_ldl L k S = some S') : ∃ v, L[k]? = some (some (.long v)) ∧ S' = .long v :: S := by
  unfold ak_ldl at h
  split at h
  · rename_i v e
    cases h
    exact ⟨v, e, rfl⟩
  · cases h
theorem ak_lda_ok {L : ak_L} {k : Nat} {S S' : List Value} (h : ak_lda L k S = some S') : ∃ v, L[k]? = some (some (.ref v)) ∧ S' = .ref v :: S := by
  unfold ak_lda at h
  split at h
  · rename_i v e
    cases h
    exact ⟨v, e, rfl⟩
  · cases h
set_option maxHeartbeats 4000000 in
theorem ak_load_ok (C : ak_C E Z p s m args meth c q) (hdg : decode q.2.1 pc = .ok (ins, w)) (hwd : ak_wd ins w = true) {L : ak_L} (hl : ak_ls E ls q.2.2.1 L) {S S' : List Value} (h : ak_load ins L S = some S')
    (k : W p l e R s m args below meth c H locs cells slots Q (F0 m (pc + w) ls (S'.map (ak_cv E)))) : W p l e R s m args below meth c H locs cells slots Q (F0 m pc ls (S.map (ak_cv E))) := by
  obtain ⟨hx, hb, hml, hown, hts, hK, hG, hbs, hini⟩ := C
  cases ins
  case iload_n i =>
    obtain rfl : w = 1 := by simpa [ak_wd] using hwd
    simp only [ak_load] at h
    obtain ⟨v, hv, rfl⟩ := ak_ldi_ok h
    exact lv_iload_n hx hb hdg rfl (ak_ls_at hl hv) k
  case iload i =>
    obtain rfl : w = 2 := by simpa [ak_wd] using hwd
    simp only [ak_load] at h
    obtain ⟨v, hv, rfl⟩ := ak_ldi_ok h
    exact lv_iload hx hb hdg (ak_ls_at hl hv) k
  case lload_n i =>
    obtain rfl : w = 1 := by simpa [ak_wd] using hwd
    simp only [ak_load] at h
    obtain ⟨v, hv, rfl⟩ := ak_ldl_ok h
    exact lv_lload_n hx hb hdg rfl (ak_ls_at hl hv) k
  case lload i =>
    obtain rfl : w = 2 := by simpa [ak_wd] using hwd
    simp only [ak_load] at h
    obtain ⟨v, hv, rfl⟩ := ak_ldl_ok h
    exact lv_lload hx hb hdg (ak_ls_at hl hv) k
  case aload_n i =>
    obtain rfl : w = 1 := by simpa [ak_wd] using hwd
    simp only [ak_load] at h
    obtain ⟨v, hv, rfl⟩ := ak_lda_ok h
    exact lv_aload_n hx hb hdg rfl (ak_ls_at hl hv) k
  case aload i =>
    obtain rfl : w = 2 := by simpa [ak_wd] using hwd
    simp only [ak_load] at h
    obtain ⟨v, hv, rfl⟩ := ak_lda_ok h
    exact lv_aload hx hb hdg (ak_ls_at hl hv) k
  all_goals (exact absurd h (by simp [ak_load]))
theorem ak_stoi_ok {L : ak_L} {k : Nat} {S : List Value} {t : ak_L × List Value} (h : ak_stoi L k S = some t) : ∃ v, S = .int v :: t.2 ∧ ak_st1 L k (.int v) = some t.1 := by
  unfold ak_stoi at h
  split at h
  · rename_i v r
    cases hs : ak_st1 L k (.int v) with
    | none => rw [hs] at h; cases h
    | some l => rw [hs] at h; cases h; exact ⟨v, rfl, hs⟩
  · cases h
theorem ak_stol_ok {L : ak_L} {k : Nat} {S : List Value} {t : ak_L × List Value} (h : ak_stol L k S = some t) : ∃ v, S = .long v :: t.2 ∧ ak_st2 L k (.long v) = some t.1 := by
  unfold ak_stol at h
  split at h
  · rename_i v r
    cases hs : ak_st2 L k (.long v) with
    | none => rw [hs] at h; cases h
    | some l => rw [hs] at h; cases h; exact ⟨v, rfl, hs⟩
  · cases h
theorem ak_stoa_ok {L : ak_L} {k : Nat} {S : List Value} {t : ak_L × List Value} (h : ak_stoa L k S = some t) : ∃ v, S = .ref v :: t.2 ∧ ak_st1 L k (.ref v) = some t.1 := by
  unfold ak_stoa at h
  split at h
  · rename_i v r
    cases hs : ak_st1 L k (.ref v) with
    | none => rw [hs] at h; cases h
    | some l => rw [hs] at h; cases h; exact ⟨v, rfl, hs⟩
  · cases h
set_option maxHeartbeats 4000000 in
theorem ak_store_ok (C : ak_C E Z p s m args meth c q) (hdg : decode q.2.1 pc = .ok (ins, w)) (hwd : ak_wd ins w = true) {L : ak_L} (hl : ak_ls E ls q.2.2.1 L) {S : List Value} {t : ak_L × List Value} (h : ak_store ins L S = some t)
    (k : ∀ ls' : Array Slot, ak_ls E ls' q.2.2.1 t.1 → W p l e R s m args below meth c H locs cells slots Q (F0 m (pc + w) ls' (t.2.map (ak_cv E)))) : W p l e R s m args below meth c H locs cells slots Q (F0 m pc ls (S.map (ak_cv E))) := by
  obtain ⟨hx, hb, hml, hown, hts, hK, hG, hbs, hini⟩ := C
  have hz : E.2.2.2.2.category = 1 := hG.2.2.2.2.2.2.2
  cases ins
  case istore_n i =>
    obtain rfl : w = 1 := by simpa [ak_wd] using hwd
    simp only [ak_store] at h
    obtain ⟨v, rfl, hs⟩ := ak_stoi_ok h
    obtain ⟨g1, g2, g3⟩ := ak_st1_ok hz hs
    exact lv_istore_n hx hb hdg rfl hl.1 (by rw [← hl.2]; exact g1) rfl (fun ls' h' => k ls' (ak_ls_of h' (g2.trans hl.2) g3))
  case istore i =>
    obtain rfl : w = 2 := by simpa [ak_wd] using hwd
    simp only [ak_store] at h
    obtain ⟨v, rfl, hs⟩ := ak_stoi_ok h
    obtain ⟨g1, g2, g3⟩ := ak_st1_ok hz hs
    exact lv_istore hx hb hdg hl.1 (by rw [← hl.2]; exact g1) rfl (fun ls' h' => k ls' (ak_ls_of h' (g2.trans hl.2) g3))
  case lstore_n i =>
    obtain rfl : w = 1 := by simpa [ak_wd] using hwd
    simp only [ak_store] at h
    obtain ⟨v, rfl, hs⟩ := ak_stol_ok h
    obtain ⟨g1, g2, g3⟩ := ak_st2_ok hz hs
    exact lv_lstore_n hx hb hdg rfl hl.1 (by rw [← hl.2]; exact g1) rfl (fun ls' h' => k ls' (ak_ls_of h' (g2.trans hl.2) g3))
  case lstore i =>
    obtain rfl : w = 2 := by simpa [ak_wd] using hwd
    simp only [ak_store] at h
    obtain ⟨v, rfl, hs⟩ := ak_stol_ok h
    obtain ⟨g1, g2, g3⟩ := ak_st2_ok hz hs
    exact lv_lstore hx hb hdg hl.1 (by rw [← hl.2]; exact g1) rfl (fun ls' h' => k ls' (ak_ls_of h' (g2.trans hl.2) g3))
  case astore_n i =>
    obtain rfl : w = 1 := by simpa [ak_wd] using hwd
    simp only [ak_store] at h
    obtain ⟨v, rfl, hs⟩ := ak_stoa_ok h
    obtain ⟨g1, g2, g3⟩ := ak_st1_ok hz hs
    exact lv_astore_n hx hb hdg rfl hl.1 (by rw [← hl.2]; exact g1) rfl (fun ls' h' => k ls' (ak_ls_of h' (g2.trans hl.2) g3))
  case astore i =>
    obtain rfl : w = 2 := by simpa [ak_wd] using hwd
    simp only [ak_store] at h
    obtain ⟨v, rfl, hs⟩ := ak_stoa_ok h
    obtain ⟨g1, g2, g3⟩ := ak_st1_ok hz hs
    exact lv_astore hx hb hdg hl.1 (by rw [← hl.2]; exact g1) rfl (fun ls' h' => k ls' (ak_ls_of h' (g2.trans hl.2) g3))
  case iinc i n =>
    obtain rfl : w = 3 := by simpa [ak_wd] using hwd
    simp only [ak_store] at h
    split at h
    · rename_i v e
      cases hs : ak_st1 L i (.int (v + Int32.ofInt n)) with
      | none => rw [hs] at h; cases h
      | some l' =>
        rw [hs] at h
        cases h
        obtain ⟨g1, g2, g3⟩ := ak_st1_ok hz hs
        have hin := ak_fl_in (E := E) (i := 0) e
        rw [Nat.zero_add] at hin
        obtain ⟨kk, hkk⟩ := List.getElem?_of_mem hin
        exact lv_iinc hx hb hdg hl.1 hkk rfl (by rw [← hl.2]; exact g1) rfl (fun ls' h' => k ls' (ak_ls_of h' (g2.trans hl.2) g3))
    · cases h
  all_goals (exact absurd h (by simp [ak_store]))
set_option maxHeartbeats 4000000 in
theorem ak_jump_ok (C : ak_C E Z p s m args meth c q) (hdg : decode q.2.1 pc = .ok (ins, w)) (hwd : ak_wd ins w = true) {S : List Value} {t : Nat} {S' : List Value} (h : ak_jump ins w pc S = some (.ofNat t, S'))
    (k : W p l e R s m args below meth c H locs cells slots Q (F0 m t ls (S'.map (ak_cv E)))) : W p l e R s m args below meth c H locs cells slots Q (F0 m pc ls (S.map (ak_cv E))) := by
  obtain ⟨hx, hb, hml, hown, hts, hK, hG, hbs, hini⟩ := C
  cases ins
  case goto off =>
    obtain rfl : w = 3 := by simpa [ak_wd] using hwd
    simp only [ak_jump, Option.some.injEq, Prod.mk.injEq] at h
    obtain ⟨h1, rfl⟩ := h
    exact lv_goto hx hb hdg h1 k
  case ifCond cnd off =>
    obtain rfl : w = 3 := by simpa [ak_wd] using hwd
    simp only [ak_jump] at h
    split at h
    · rename_i a r
      simp only [Option.some.injEq, Prod.mk.injEq] at h
      obtain ⟨h1, rfl⟩ := h
      cases cnd
      case eq =>
        by_cases hc : a = 0
        · have h2 : (pc : Int) + off = Int.ofNat t := by simpa [ak_cnd, hc] using h1
          exact ak_t_if_eq hx hb hdg hc h2 k
        · have h2 : ((pc + 3 : Nat) : Int) = Int.ofNat t := by simpa [ak_cnd, hc] using h1
          exact ak_n_if_eq hx hb hdg hc h2 k
      case ne =>
        by_cases hc : a = 0
        · have h2 : ((pc + 3 : Nat) : Int) = Int.ofNat t := by simpa [ak_cnd, hc] using h1
          exact ak_n_if_ne hx hb hdg hc h2 k
        · have h2 : (pc : Int) + off = Int.ofNat t := by simpa [ak_cnd, hc] using h1
          exact ak_t_if_ne hx hb hdg hc h2 k
      case lt =>
        by_cases hc : a < 0
        · have h2 : (pc : Int) + off = Int.ofNat t := by simpa [ak_cnd, hc] using h1
          exact ak_t_if_lt hx hb hdg hc h2 k
        · have h2 : ((pc + 3 : Nat) : Int) = Int.ofNat t := by simpa [ak_cnd, hc] using h1
          exact ak_n_if_lt hx hb hdg hc h2 k
      case ge =>
        by_cases hc : 0 ≤ a
        · have h2 : (pc : Int) + off = Int.ofNat t := by simpa [ak_cnd, hc] using h1
          exact ak_t_if_ge hx hb hdg hc h2 k
        · have h2 : ((pc + 3 : Nat) : Int) = Int.ofNat t := by simpa [ak_cnd, hc] using h1
          exact ak_n_if_ge hx hb hdg hc h2 k
      case gt =>
        by_cases hc : 0 < a
        · have h2 : (pc : Int) + off = Int.ofNat t := by simpa [ak_cnd, hc] using h1
          exact ak_t_if_gt hx hb hdg hc h2 k
        · have h2 : ((pc + 3 : Nat) : Int) = Int.ofNat t := by simpa [ak_cnd, hc] using h1
          exact ak_n_if_gt hx hb hdg hc h2 k
      case le =>
        by_cases hc : a ≤ 0
        · have h2 : (pc : Int) + off = Int.ofNat t := by simpa [ak_cnd, hc] using h1
          exact ak_t_if_le hx hb hdg hc h2 k
        · have h2 : ((pc + 3 : Nat) : Int) = Int.ofNat t := by simpa [ak_cnd, hc] using h1
          exact ak_n_if_le hx hb hdg hc h2 k
    · cases h
  case if_icmp cnd off =>
    obtain rfl : w = 3 := by simpa [ak_wd] using hwd
    simp only [ak_jump] at h
    split at h
    · rename_i b a r
      simp only [Option.some.injEq, Prod.mk.injEq] at h
      obtain ⟨h1, rfl⟩ := h
      cases cnd
      case eq =>
        by_cases hc : a = b
        · have h2 : (pc : Int) + off = Int.ofNat t := by simpa [ak_cnd, hc] using h1
          exact ak_t_icmp_eq hx hb hdg hc h2 k
        · have h2 : ((pc + 3 : Nat) : Int) = Int.ofNat t := by simpa [ak_cnd, hc] using h1
          exact ak_n_icmp_eq hx hb hdg hc h2 k
      case ne =>
        by_cases hc : a = b
        · have h2 : ((pc + 3 : Nat) : Int) = Int.ofNat t := by simpa [ak_cnd, hc] using h1
          exact ak_n_icmp_ne hx hb hdg hc h2 k
        · have h2 : (pc : Int) + off = Int.ofNat t := by simpa [ak_cnd, hc] using h1
          exact ak_t_icmp_ne hx hb hdg hc h2 k
      case lt =>
        by_cases hc : a < b
        · have h2 : (pc : Int) + off = Int.ofNat t := by simpa [ak_cnd, hc] using h1
          exact ak_t_icmp_lt hx hb hdg hc h2 k
        · have h2 : ((pc + 3 : Nat) : Int) = Int.ofNat t := by simpa [ak_cnd, hc] using h1
          exact ak_n_icmp_lt hx hb hdg hc h2 k
      case ge =>
        by_cases hc : b ≤ a
        · have h2 : (pc : Int) + off = Int.ofNat t := by simpa [ak_cnd, hc] using h1
          exact ak_t_icmp_ge hx hb hdg hc h2 k
        · have h2 : ((pc + 3 : Nat) : Int) = Int.ofNat t := by simpa [ak_cnd, hc] using h1
          exact ak_n_icmp_ge hx hb hdg hc h2 k
      case gt =>
        by_cases hc : b < a
        · have h2 : (pc : Int) + off = Int.ofNat t := by simpa [ak_cnd, hc] using h1
          exact ak_t_icmp_gt hx hb hdg hc h2 k
        · have h2 : ((pc + 3 : Nat) : Int) = Int.ofNat t := by simpa [ak_cnd, hc] using h1
          exact ak_n_icmp_gt hx hb hdg hc h2 k
      case le =>
        by_cases hc : a ≤ b
        · have h2 : (pc : Int) + off = Int.ofNat t := by simpa [ak_cnd, hc] using h1
          exact ak_t_icmp_le hx hb hdg hc h2 k
        · have h2 : ((pc + 3 : Nat) : Int) = Int.ofNat t := by simpa [ak_cnd, hc] using h1
          exact ak_n_icmp_le hx hb hdg hc h2 k
    · cases h
  case tableswitch dflt lo hi offs =>
    simp only [ak_jump] at h
    split at h
    · rename_i a r
      split at h
      · rename_i hc
        simp only [Option.some.injEq, Prod.mk.injEq] at h
        obtain ⟨h1, rfl⟩ := h
        exact lv_tableOut hx hb hdg hc h1 k
      · rename_i hc
        cases ho : offs[(a.toInt - lo).toNat]? with
        | none => rw [ho] at h; cases h
        | some o =>
          rw [ho] at h
          simp only [Option.map_some, Option.some.injEq, Prod.mk.injEq] at h
          obtain ⟨h1, rfl⟩ := h
          exact lv_tableIn hx hb hdg (fun z => hc (Or.inl z)) (fun z => hc (Or.inr z)) ho h1 k
    · cases h
  all_goals (exact absurd h (by simp [ak_jump]))
end AKS
end
section
/-! the small machine's steps are the bytecode's: the heap -/
def ak_tyb : Nat → FieldType → Bool
  | 0, .int => true
  | 1, .boolean => true
  | 2, .long => true
  | 3, .object _ => true
  | 3, .array _ => true
  | _, _ => false
/-- what is known of a class of ours -/
def ak_clk (ci : Nat) (r : vw_C) : Prop := (∀ w ∈ u_ws r.1 r.2.1 r.2.2, w ∈ ak_Ts) ∧ (∃ ty : Nat → FieldType, (∀ k, k < r.2.2 → parseFieldDescriptor (r.2.1 k).2.2.1 = some (ty k)) ∧ ∀ k, k < r.2.2 → ak_tyb ((ak_F.getD ci []).getD k 9) (ty k) = true) ∧ (∀ a, a < r.2.2 → ∀ b, b < r.2.2 → a ≠ b → (r.2.1 a).2.1 ≠ (r.2.1 b).2.1) ∧ (ak_F.getD ci []).length = r.2.2 ∧ (∀ k, k < r.2.2 → (r.2.1 k).1 = r.1) ∧ Cond.instantiable r.1 r.2.2 ∈ ak_Ts ∧ Cond.initialized r.1 ∈ ak_Ts
theorem ak_uws {C : String} {T : u_T} {N : Nat} (h : ∀ w ∈ u_ws C T N, w ∈ lw_tbl) (g : (u_ws C T N).all goodWord = true) : ∀ w ∈ u_ws C T N, w ∈ ak_Ts := fun w hw => List.mem_filter.mpr ⟨h w hw, List.all_eq_true.mp g w hw⟩
set_option maxRecDepth 100000 in
theorem ak_clk_0 : ak_clk 0 (RX0, TX0, 0) := ⟨ak_uws (by decide +kernel) (by decide +kernel), ⟨tyX0, tyX0_ok, by decide +kernel⟩, nmX0, rfl, by decide +kernel, ak_w 227 (by decide +kernel) (by decide +kernel), ak_w 100 (by decide +kernel) (by decide +kernel)⟩
set_option maxRecDepth 100000 in
theorem ak_clk_1 : ak_clk 1 (RX1, TX1, 0) := ⟨ak_uws (by decide +kernel) (by decide +kernel), ⟨tyX1, tyX1_ok, by decide +kernel⟩, nmX1, rfl, by decide +kernel, ak_w 220 (by decide +kernel) (by decide +kernel), ak_w 99 (by decide +kernel) (by decide +kernel)⟩
set_option maxRecDepth 100000 in
theorem ak_clk_2 : ak_clk 2 (RX2, TX2, 0) := ⟨ak_uws (by decide +kernel) (by decide +kernel), ⟨tyX2, tyX2_ok, by decide +kernel⟩, nmX2, rfl, by decide +kernel, ak_w 213 (by decide +kernel) (by decide +kernel), ak_w 98 (by decide +kernel) (by decide +kernel)⟩
set_option maxRecDepth 100000 in
theorem ak_clk_3 : ak_clk 3 (RX3, TX3, 0) := ⟨ak_uws (by decide +kernel) (by decide +kernel), ⟨tyX3, tyX3_ok, by decide +kernel⟩, nmX3, rfl, by decide +kernel, ak_w 192 (by decide +kernel) (by decide +kernel), ak_w 95 (by decide +kernel) (by decide +kernel)⟩
set_option maxRecDepth 100000 in
theorem ak_clk_4 : ak_clk 4 (RX4, TX4, 0) := ⟨ak_uws (by decide +kernel) (by decide +kernel), ⟨tyX4, tyX4_ok, by decide +kernel⟩, nmX4, rfl, by decide +kernel, ak_w 199 (by decide +kernel) (by decide +kernel), ak_w 96 (by decide +kernel) (by decide +kernel)⟩
set_option maxRecDepth 100000 in
theorem ak_clk_5 : ak_clk 5 (RX5, TX5, 12) := ⟨ak_uws (by decide +kernel) (by decide +kernel), ⟨tyX5, tyX5_ok, by decide +kernel⟩, nmX5, rfl, by decide +kernel, ak_w 301 (by decide +kernel) (by decide +kernel), ak_w 102 (by decide +kernel) (by decide +kernel)⟩
set_option maxRecDepth 100000 in
theorem ak_clk_6 : ak_clk 6 (RX6, TX6, 5) := ⟨ak_uws (by decide +kernel) (by decide +kernel), ⟨tyX6, tyX6_ok, by decide +kernel⟩, nmX6, rfl, by decide +kernel, ak_w 183 (by decide +kernel) (by decide +kernel), ak_w 94 (by decide +kernel) (by decide +kernel)⟩
set_option maxRecDepth 100000 in
theorem ak_clk_7 : ak_clk 7 (RX7, TX7, 3) := ⟨ak_uws (by decide +kernel) (by decide +kernel), ⟨tyX7, tyX7_ok, by decide +kernel⟩, nmX7, rfl, by decide +kernel, ak_w 346 (by decide +kernel) (by decide +kernel), ak_w 103 (by decide +kernel) (by decide +kernel)⟩
set_option maxRecDepth 100000 in
theorem ak_clk_8 : ak_clk 8 (RX8, TX8, 12) := ⟨ak_uws (by decide +kernel) (by decide +kernel), ⟨tyX8, tyX8_ok, by decide +kernel⟩, nmX8, rfl, by decide +kernel, ak_w 121 (by decide +kernel) (by decide +kernel), ak_w 93 (by decide +kernel) (by decide +kernel)⟩
set_option maxRecDepth 100000 in
theorem ak_clk_9 : ak_clk 9 (RX9, TX9, 0) := ⟨ak_uws (by decide +kernel) (by decide +kernel), ⟨tyX9, tyX9_ok, by decide +kernel⟩, nmX9, rfl, by decide +kernel, ak_w 206 (by decide +kernel) (by decide +kernel), ak_w 97 (by decide +kernel) (by decide +kernel)⟩
set_option maxRecDepth 100000 in
theorem ak_clk_10 : ak_clk 10 (RX10, TX10, 12) := ⟨ak_uws (by decide +kernel) (by decide +kernel), ⟨tyX10, tyX10_ok, by decide +kernel⟩, nmX10, rfl, by decide +kernel, ak_w 233 (by decide +kernel) (by decide +kernel), ak_w 101 (by decide +kernel) (by decide +kernel)⟩
set_option maxRecDepth 100000 in
theorem ak_clk_11 : ak_clk 11 (RX11, TX11, 9) := ⟨ak_uws (by decide +kernel) (by decide +kernel), ⟨tyX11, tyX11_ok, by decide +kernel⟩, nmX11, rfl, by decide +kernel, ak_w 113 (by decide +kernel) (by decide +kernel), ak_w 92 (by decide +kernel) (by decide +kernel)⟩
set_option maxRecDepth 100000 in
theorem ak_clk_12 : ak_clk 12 (RX12, TX12, 44) := ⟨ak_uws (by decide +kernel) (by decide +kernel), ⟨tyX12, tyX12_ok, by decide +kernel⟩, nmX12, rfl, by decide +kernel, ak_w 1060 (by decide +kernel) (by decide +kernel), ak_w 104 (by decide +kernel) (by decide +kernel)⟩
theorem ak_cls : ∀ {ci : Nat} {r : vw_C}, vwCl[ci]? = some r → ak_clk ci r := by
  intro ci r h
  match ci, h with
  | 0, h => cases h; exact ak_clk_0
  | 1, h => cases h; exact ak_clk_1
  | 2, h => cases h; exact ak_clk_2
  | 3, h => cases h; exact ak_clk_3
  | 4, h => cases h; exact ak_clk_4
  | 5, h => cases h; exact ak_clk_5
  | 6, h => cases h; exact ak_clk_6
  | 7, h => cases h; exact ak_clk_7
  | 8, h => cases h; exact ak_clk_8
  | 9, h => cases h; exact ak_clk_9
  | 10, h => cases h; exact ak_clk_10
  | 11, h => cases h; exact ak_clk_11
  | 12, h => cases h; exact ak_clk_12
  | n + 13, h => simp [vwCl] at h
theorem ak_fp_ty {E : ak_E} {h h' : ak_H} {ci r k : Nat} {v : Value} {ty : FieldType} (hp : ak_fp h ci r k v = some h') (ht : ak_tyb ((ak_F.getD ci []).getD k 9) ty = true) : narrow ty (ak_cv E v) = ak_cv E v ∧ fits ty (ak_cv E v) = true := by
  unfold ak_fp at hp
  split at hp
  · rename_i e
    rw [e] at ht
    cases ty <;> first | exact ⟨rfl, rfl⟩ | (simp [ak_tyb] at ht; done)
  · rename_i e
    rw [e] at ht
    split at hp
    · rename_i a ha
      cases ty <;> first | (simp [ak_tyb] at ht; done) | (rcases a with rfl | rfl <;> exact ⟨rfl, rfl⟩) | (rcases ha with rfl | rfl <;> exact ⟨rfl, rfl⟩)
    · cases hp
  · rename_i e
    rw [e] at ht
    cases ty <;> first | exact ⟨rfl, rfl⟩ | (simp [ak_tyb] at ht; done)
  · rename_i e
    rw [e] at ht
    cases ty <;> first | exact ⟨rfl, rfl⟩ | (simp [ak_tyb] at ht; done)
  · cases hp
theorem ak_N0_lt {n : Nat} (h : n ≤ ak_N0) : n ≤ 1000000 := Nat.le_trans h (by decide)
/-- one cell of ours is written -/
theorem ak_J.set {E : ak_E} {s : State} {h h' : ak_H} {H H1 : Heap} {locs : List Loc} (J : ak_J E s h H locs) {r : Nat} {e e0 : va_E} (h1 : h'.1 = h.1) (he : (ak_ws E h)[r]? = some (ak_ad E r, e0)) (hset : (ak_ws E h).set r (ak_ad E r, e) = ak_ws E h') (hat : va_at E.1 vwCl (ak_ad E r, e) H1) (z : H1.size = H.size) (oq : ∀ q : Nat, q ≠ ak_ad E r → H1[q]? = H[q]?) (n : Nat) : ak_J E s h' H1 (locs ++ [⟨ak_ad E r, n⟩]) := by
  obtain ⟨j1, j2, j3, j4⟩ := J
  have hD := ak_D E h (ak_N0_lt j2)
  exact ⟨fun hl => by rw [z, h1]; exact j1 (by rw [← h1]; exact hl), by rw [h1]; exact j2, by rw [← hset]; exact j3.set hD he hat oq, j4.put z oq (hD.2 r _ he)⟩
/-- a new cell of ours -/
theorem ak_J.push {E : ak_E} {s : State} {h h' : ak_H} {H H1 : Heap} {locs : List Loc} (J : ak_J E s h H locs) (hb : E.2.2.1 ≤ s.heap.size) {k : ak_K} (hn : h.1.length < ak_N0) (h1 : h'.1 = h.1 ++ [k]) (ho : ∀ i kk, i < h.1.length → ak_cell E h' i kk = ak_cell E h i kk) (hat : va_at E.1 vwCl (H.size, ak_cell E h' h.1.length k) H1) (z : H1.size = H.size + 1) (oq : ∀ q : Nat, q < H.size → H1[q]? = H[q]?) : ak_J E s h' H1 locs ∧ ak_ad E h.1.length = H.size := by
  obtain ⟨j1, j2, j3, j4⟩ := J
  have hz := j1 hn
  have hN : ak_N0 ≤ 1000000 := by decide
  have had : ak_ad E h.1.length = H.size := by
    unfold ak_ad
    rw [if_pos (by omega)]
    exact hz.symm
  refine ⟨⟨fun _ => by rw [z, h1, hz]; simp; omega, by rw [h1]; simp; omega, ?_, ⟨Nat.le_trans j4.1 (by omega), fun q g1 g2 => (oq q (Nat.lt_of_lt_of_le g1 j4.1)).trans (j4.2.1 q g1 g2), j4.2.2⟩⟩, had⟩
  intro i q hq
  rw [ak_ws_at, h1] at hq
  by_cases hi : i < h.1.length
  · rw [List.getElem?_append_left hi] at hq
    cases hk : h.1[i]? with
    | none => rw [hk] at hq; cases hq
    | some kk =>
      rw [hk] at hq
      cases hq
      have hw : (ak_ws E h)[i]? = some (ak_ad E i, ak_cell E h i kk) := by rw [ak_ws_at, hk]; rfl
      have := j3 i _ hw
      show va_at E.1 vwCl (ak_ad E i, ak_cell E h' i kk) H1
      rw [ho i kk hi]
      exact this.kept (oq _ this.lt)
  · have hi2 : i = h.1.length := by
      have := (List.getElem?_eq_some_iff.mp (show (h.1 ++ [k])[i]? = some ((h.1 ++ [k])[i]'(by
        cases hk : (h.1 ++ [k])[i]? with
        | none => rw [hk] at hq; cases hq
        | some _ => exact (List.getElem?_eq_some_iff.mp hk).1)) from by simp)).1
      simp at this
      omega
    subst hi2
    rw [List.getElem?_append_right (Nat.le_refl _)] at hq
    simp at hq
    rw [← hq, had]
    exact hat
section AKM
variable {p : Program} {l : Launch} {e : Env} {R : Room} {s : State} {m : MethodId} {args : Array Value} {below : List Frame} {meth : Method} {c : Code} {H : Heap} {locs : List Loc} {cells slots : Nat} {Q : State → Prop}
variable {pc w : Nat} {ls : Array Slot} {E : ak_E} {Z : ak_Z} {q : ak_Q} {ins : Instr} {x : ak_X} {h : ak_H} {st : List Value}
set_option maxHeartbeats 1000000 in
/-- putfield -/
theorem ak_put_ok (C : ak_C E Z p s m args meth c q) (J : ak_J E s h H locs) {idx ci r k : Nat} {fin : Int} {v : Value} {h' : ak_H} (hr : h.1[r]? = some (.inl ci)) (hp : ak_fp h ci r k v = some h') (ho : ak_okr q.1.cls idx (1, ci, k, fin)) (hf : fin = 0 ∨ ((q.1.name == "<init>") = true ∧ vwCl[ci]?.map (fun r => r.1) = some q.1.cls))
    (hdg : decode q.2.1 pc = .ok (.putfield idx, 3)) (kk : ∀ (H1 : Heap) (locs1 : List Loc), ak_J E s h' H1 locs1 → W p l e R s m args below meth c H1 locs1 cells slots Q (F0 m (pc + 3) ls st)) : W p l e R s m args below meth c H locs cells slots Q (F0 m pc ls (ak_cv E v :: .ref (ak_ad E r) :: st)) := by
  obtain ⟨hx, hb, hml, hown, hts, hK, hG, hbs, hini⟩ := C
  obtain ⟨⟨Cn, T, N⟩, hc, hkN, hlink, hfin⟩ := ho
  obtain ⟨hin, ⟨ty, hty, htk⟩, hnm, hlen, hdecl, -, -⟩ := ak_cls hc
  dsimp only at hkN hlink hfin hin hty htk hnm hlen hdecl
  obtain ⟨hn, hfit⟩ := ak_fp_ty (E := E) hp (htk k hkN)
  have he := ak_ws_obj (E := E) hr
  have hap := va_apart (own := Cn) hts hin ty hty hnm hK hc
  obtain ⟨r', h1, cell, q1, q2, q3, q4⟩ := J.2.2.1 r _ he
  obtain rfl : r' = (Cn, T, N) := Option.some.inj (h1.symm.trans hc)
  obtain ⟨hS, hfc, kC, hkC, hkind⟩ := hK.1 ci _ hc
  obtain ⟨cf, kf, fi, f, hi, hsl⟩ := hS k hkN
  have hlay := hts _ (hin _ (u_in_lay hkN))
  have hst := (u_facts hfc hkC (u_lays hts hin hkN) hi).1
  have hd := hty k hkN
  have fin' : ∀ (H' : Heap) (n : Nat), H'[ak_ad E r]? = some (cell.setSlot (E.1.2 ci k) (ak_cv E v)) → H'.size = H.size → (∀ q : Nat, q ≠ ak_ad E r → H'[q]? = H[q]?) → ak_J E s h' H' (locs ++ [⟨ak_ad E r, n⟩]) := by
    intro H' n e1 e2 e3
    refine J.set (ak_fp_1 hp) he (ak_ws_fp hp hr (by rw [hlen]; exact hkN)) ?_ e2 e3 n
    exact ⟨_, hc, t_OB.to (V := updV (vp_V (ak_fs E h ci r)) k (ak_cv E v)) ⟨_, e1, q2, q3, t_set q4 hap hkN (ak_cv E v)⟩ (fun j _ => vp_updV_set (by rw [ak_fs_len, hlen]; exact hkN) (ak_cv E v) j)⟩
  by_cases hfin0 : fin = 0
  · have hfin1 : (T k).2.2.2 = false := by rw [hfin, hfin0]; rfl
    unfold u_lay at hlay
    rw [if_neg (by rw [hfin1]; decide)] at hlay
    have h6 := u_store hfc hkC hkind hlay hi hd hn hfit
    refine W.putK hx hb (f := f) ⟨hown, hts _ hlink, ⟨_, _, _, hi⟩, hst⟩ (by rw [q2]; exact h6) q1 q3 (by rw [hsl]; exact k2_hasslot (q4 k hkN)) rfl rfl hdg fun H' e1 e2 e3 => ?_
    rw [hsl] at e1 ⊢
    exact kk H' _ (fin' H' _ e1 e2 e3)
  · obtain ⟨hi2, hown2⟩ := hf.resolve_left hfin0
    have hfin1 : (T k).2.2.2 = true := by rw [hfin]; simp [hfin0]
    unfold u_lay at hlay
    rw [if_pos hfin1] at hlay
    have hcf : m.cls = cf := by
      obtain ⟨_, _, c', _, _, _, -, -, hf', -, -, -, hw2, -⟩ := Cond.laysFinal_spec hlay
      have e1 : c' = cf := by have := hi.symm.trans hf'; simp at this; exact this.1.symm
      have e2 : (T k).1 = q.1.cls := by
        rw [hdecl k hkN]
        have hc' : vwCl[ci]? = some (Cn, T, N) := hc
        rw [hc'] at hown2
        exact Option.some.inj hown2
      rw [e2] at hw2
      rw [← e1]
      exact Option.some.inj (hown.symm.trans hw2)
    have h6 := u_fits hfc hkC hkind (Or.inr hlay) hi hd hn hfit
    refine W.putFinK hx hb hown (hts _ hlink) hi hst hcf (hini hi2) (by rw [q2]; exact h6) q1 q3 (by rw [hsl]; exact k2_hasslot (q4 k hkN)) rfl rfl hdg fun H' e1 e2 e3 => ?_
    rw [hsl] at e1 ⊢
    exact kk H' _ (fin' H' _ e1 e2 e3)
theorem ak_inb_in {i : Int32} {n : Nat} (h : ak_inb i n = true) : vp_in i n := by
  unfold ak_inb at h
  simp only [Bool.and_eq_true, Bool.not_eq_true', decide_eq_false_iff_not, decide_eq_true_eq] at h
  exact fun z => z.elim h.1 (fun g => absurd h.2 (Nat.not_lt.mpr g))
theorem ak_ad_st {E : ak_E} {r : Nat} (h : 1000000 ≤ r) : ak_ad E r = E.2.2.2.1 r := by
  unfold ak_ad
  rw [if_neg (by omega)]
theorem ak_sa_ge {Z : ak_Z} {r : Nat} {y : Bool × Nat × (Nat → Int32)} (h : ak_sa Z r = some y) : 1000000 ≤ r := by
  unfold ak_sa at h
  split at h
  · omega
  · split at h
    · omega
    · split at h
      · omega
      · split at h
        · omega
        · cases h
set_option maxHeartbeats 1000000 in
/-- iastore, bastore -/
theorem ak_iast_ok (C : ak_C E Z p s m args meth c q) (J : ak_J E s h H locs) {r n : Nat} {i v : Int32} (hr : h.1[r]? = some (.inr (0, n))) (hin : ak_inb i n = true) (hdg : decode q.2.1 pc = .ok (.iastore, 1))
    (kk : ∀ (H1 : Heap) (locs1 : List Loc), ak_J E s (h.1, ak_up h.2.1 r i.toNatClampNeg v, h.2.2.1, h.2.2.2) H1 locs1 → W p l e R s m args below meth c H1 locs1 cells slots Q (F0 m (pc + 1) ls st)) : W p l e R s m args below meth c H locs cells slots Q (F0 m pc ls (.int v :: .int i :: .ref (ak_ad E r) :: st)) := by
  obtain ⟨hx, hb, hml, hown, hts, hK, hG, hbs, hini⟩ := C
  have he := ak_ws_arr (E := E) hr
  have ht : (ak_tys E)[0]? = some (E.2.1 0, .int) := rfl
  refine W.iast hx hb (J.2.2.1 r _ he) ((hK.2 0 _ ht).1 n (fun j => .int (h.2.1 r j))) (fun q => by cases q) (by show ¬ (i < 0 ∨ (arrV _ _ _).slots.size ≤ _); rw [arrV_size]; exact ak_inb_in hin) rfl rfl hdg fun H1 e1 z oq => ?_
  refine kk H1 _ (J.set (h' := (h.1, ak_up h.2.1 r i.toNatClampNeg v, h.2.2.1, h.2.2.2)) rfl he (e := .inl (E.2.1 0, (n, .inl (upd (h.2.1 r) i.toNatClampNeg v)))) (ak_ws_set (h' := (h.1, ak_up h.2.1 r i.toNatClampNeg v, h.2.2.1, h.2.2.2)) rfl (fun k hk => ?_) (fun j k hj => ak_cell_eq (ak_up_ne hj) rfl rfl)) ?_ z oq _)
  · cases hr.symm.trans hk
    show Sum.inl (E.2.1 0, ak_as E _ r 0 n) = _
    unfold ak_as
    show Sum.inl (E.2.1 0, (n, Sum.inl (ak_up h.2.1 r i.toNatClampNeg v r))) = _
    rw [ak_up_row]
  · show H1[ak_ad E r]? = some (vp_cell _ _)
    rw [e1]
    show some ((vp_cell (E.2.1 0) (n, .inl (h.2.1 r))).setSlot _ _) = _
    rw [vp_cell_i, vp_cell_i, arrV_store]
    congr 2
    funext b
    by_cases hb : b = i.toNatClampNeg
    · subst hb
      simp [updV, upd]
    · simp [updV, upd, hb]
set_option maxHeartbeats 1000000 in
theorem ak_bast_ok (C : ak_C E Z p s m args meth c q) (J : ak_J E s h H locs) {r n : Nat} {i v : Int32} (hr : h.1[r]? = some (.inr (1, n))) (hin : ak_inb i n = true) (hv : v = 0 ∨ v = 1) (hdg : decode q.2.1 pc = .ok (.bastore, 1))
    (kk : ∀ (H1 : Heap) (locs1 : List Loc), ak_J E s (h.1, ak_up h.2.1 r i.toNatClampNeg v, h.2.2.1, h.2.2.2) H1 locs1 → W p l e R s m args below meth c H1 locs1 cells slots Q (F0 m (pc + 1) ls st)) : W p l e R s m args below meth c H locs cells slots Q (F0 m pc ls (.int v :: .int i :: .ref (ak_ad E r) :: st)) := by
  obtain ⟨hx, hb, hml, hown, hts, hK, hG, hbs, hini⟩ := C
  have he := ak_ws_arr (E := E) hr
  have ht : (ak_tys E)[1]? = some (E.2.1 1, .boolean) := rfl
  have hnv : narrow .boolean (.int v) = .int v := by rcases hv with rfl | rfl <;> rfl
  refine W.zast hx hb (J.2.2.1 r _ he) ((hK.2 1 _ ht).1 n (fun j => .int (h.2.1 r j))) (fun q => by cases q) (by show ¬ (i < 0 ∨ (arrV _ _ _).slots.size ≤ _); rw [arrV_size]; exact ak_inb_in hin) rfl rfl hdg fun H1 e1 z oq => ?_
  refine kk H1 _ (J.set (h' := (h.1, ak_up h.2.1 r i.toNatClampNeg v, h.2.2.1, h.2.2.2)) rfl he (e := .inl (E.2.1 1, (n, .inl (upd (h.2.1 r) i.toNatClampNeg v)))) (ak_ws_set (h' := (h.1, ak_up h.2.1 r i.toNatClampNeg v, h.2.2.1, h.2.2.2)) rfl (fun k hk => ?_) (fun j k hj => ak_cell_eq (ak_up_ne hj) rfl rfl)) ?_ z oq _)
  · cases hr.symm.trans hk
    show Sum.inl (E.2.1 1, ak_as E _ r 1 n) = _
    unfold ak_as
    show Sum.inl (E.2.1 1, (n, Sum.inl (ak_up h.2.1 r i.toNatClampNeg v r))) = _
    rw [ak_up_row]
  · show H1[ak_ad E r]? = some (vp_cell _ _)
    rw [e1, hnv]
    show some ((vp_cell (E.2.1 1) (n, .inl (h.2.1 r))).setSlot _ _) = _
    rw [vp_cell_i, vp_cell_i, arrV_store]
    congr 2
    funext b
    by_cases hb : b = i.toNatClampNeg
    · subst hb
      simp [updV, upd]
    · simp [updV, upd, hb]
/-- the class that an array of references is of -/
def ak_rn (t : Nat) : String := if t = 2 then RX10 else if t = 3 then RX3 else RX7
theorem ak_rn_tys {t : Nat} (h : ak_arr t = true) : (ak_tys E)[t]? = some (E.2.1 t, .object (ak_rn t)) ∧ (vwCl[ak_el t]?).map (fun r => r.1) = some (ak_rn t) ∧ ak_rn t ∈ [RX10, RX3, RX7] := by
  unfold ak_arr at h
  simp only [Bool.or_eq_true, beq_iff_eq] at h
  rcases h with (rfl | rfl) | rfl
  · exact ⟨rfl, rfl, List.mem_cons_self⟩
  · exact ⟨rfl, rfl, List.mem_cons_of_mem _ List.mem_cons_self⟩
  · exact ⟨rfl, rfl, List.mem_cons_of_mem _ (List.mem_cons_of_mem _ List.mem_cons_self)⟩
/-- an object of a class under another may be taken for it -/
theorem ak_asg (C : ak_C E Z p s m args meth c q) {cc : Nat} {r : vw_C} (hc : vwCl[cc]? = some r) {t : Nat} (ht : ak_arr t = true) (hs : ak_sub cc (ak_el t) = true) {comp : ClassId} (hcomp : s.vm.findClass (ak_rn t) = some comp) : s.vm.assignable (E.1.1 cc) comp = true ∧ ∃ kE, s.vm.classes[comp]? = some kE := by
  obtain ⟨hx, hb, hml, hown, hts, hK, hG, hbs, hini⟩ := C
  obtain ⟨kE, hkE, -⟩ := Vm.findClass_spec hcomp
  refine ⟨?_, kE, hkE⟩
  have hcls := (hK.1 cc r hc).2
  have cast : ∀ {a b : String}, Cond.castable a b ∈ ak_nw → r.1 = a → ak_rn t = b → s.vm.assignable (E.1.1 cc) comp = true := by
    intro a b hm ha hb
    obtain ⟨c0, t1, f1, f2, f3⟩ := Cond.castable_spec (va_Nw.use (A := args) rfl (hG.2.2.2.2.1 _ hm))
    rw [← ha] at f1
    rw [← hb] at f2
    cases hcls.1.symm.trans f1
    cases hcomp.symm.trans f2
    exact f3
  have self : r.1 = ak_rn t → s.vm.assignable (E.1.1 cc) comp = true := by
    intro hh
    have h1 := hcls.1
    rw [hh] at h1
    cases h1.symm.trans hcomp
    exact va_assign hcls
  unfold ak_arr at ht
  simp only [Bool.or_eq_true, beq_iff_eq] at ht
  rcases ht with (rfl | rfl) | rfl
  · have : cc = 10 := by simpa [ak_sub, ak_el] using hs
    subst this
    cases hc
    exact self rfl
  · have : cc = 3 ∨ cc = 0 ∨ cc = 1 ∨ cc = 2 ∨ cc = 4 ∨ cc = 9 := by
      simp [ak_sub, ak_el] at hs
      omega
    rcases this with rfl | rfl | rfl | rfl | rfl | rfl
    · cases hc; exact self rfl
    · cases hc; exact cast (a := RX0) (b := RX3) (by decide +kernel) rfl rfl
    · cases hc; exact cast (a := RX1) (b := RX3) (by decide +kernel) rfl rfl
    · cases hc; exact cast (a := RX2) (b := RX3) (by decide +kernel) rfl rfl
    · cases hc; exact cast (a := RX4) (b := RX3) (by decide +kernel) rfl rfl
    · cases hc; exact cast (a := RX9) (b := RX3) (by decide +kernel) rfl rfl
  · have : cc = 7 := by simpa [ak_sub, ak_el] using hs
    subst this
    cases hc
    exact self rfl
set_option maxHeartbeats 1000000 in
theorem ak_aast_ok (C : ak_C E Z p s m args meth c q) (J : ak_J E s h H locs) {r n t v cc : Nat} {i : Int32} (hr : h.1[r]? = some (.inr (t, n))) (hv : h.1[v]? = some (.inl cc)) (ha : ak_arr t = true) (hs : ak_sub cc (ak_el t) = true) (hin : ak_inb i n = true) (hdg : decode q.2.1 pc = .ok (.aastore, 1))
    (kk : ∀ (H1 : Heap) (locs1 : List Loc), ak_J E s (h.1, h.2.1, h.2.2.1, ak_up h.2.2.2 r i.toNatClampNeg (some v)) H1 locs1 → W p l e R s m args below meth c H1 locs1 cells slots Q (F0 m (pc + 1) ls st)) : W p l e R s m args below meth c H locs cells slots Q (F0 m pc ls (.ref (ak_ad E v) :: .int i :: .ref (ak_ad E r) :: st)) := by
  have C' := C
  obtain ⟨hx, hb, hml, hown, hts, hK, hG, hbs, hini⟩ := C
  have he := ak_ws_arr (E := E) hr
  have hev := ak_ws_obj (E := E) hv
  obtain ⟨ht, -, -⟩ := ak_rn_tys (E := E) ha
  have has : ak_as E h r t n = (n, .inr (.inr (.inr (.inr (fun j => (h.2.2.2 r j).map (ak_ad E)))))) := by unfold ak_as; rw [if_pos ha]
  obtain ⟨kA, comp, k1, k2, k3, -⟩ := (hK.2 t _ ht).2
  obtain ⟨rv, hc, cellV, g1, g2, g3, -⟩ := J.2.2.1 v _ hev
  obtain ⟨hasg, kE, hkE⟩ := ak_asg C' hc ha hs k3
  obtain ⟨kC, hkC, -⟩ := (hK.1 cc rv hc).2.2
  have hcell := J.2.2.1 r _ he
  rw [has] at hcell
  have hb1 := ak_inb_in hin
  refine W.aast hx hb (show H[ak_ad E r]? = some _ from hcell) (fun q hh => by cases hh) (fun hh => by cases hh) k1 k2 rfl hkE ⟨fun z => hb1 (Or.inl z), by show _ < (arrV _ _ _).slots.size; rw [arrV_size]; exact Nat.not_le.mp fun z => hb1 (Or.inr z)⟩ g1 (fun q hh => by rw [g3] at hh; cases hh) (by rw [g2]; exact hkC) (by rw [g2]; exact hasg) rfl rfl hdg fun H1 e1 z oq => ?_
  refine kk H1 _ (J.set (h' := (h.1, h.2.1, h.2.2.1, ak_up h.2.2.2 r i.toNatClampNeg (some v))) rfl he (e := .inl (E.2.1 t, (n, .inr (.inr (.inr (.inr (va_up (fun j => (h.2.2.2 r j).map (ak_ad E)) i.toNatClampNeg (some (ak_ad E v))))))))) (ak_ws_set (h' := (h.1, h.2.1, h.2.2.1, ak_up h.2.2.2 r i.toNatClampNeg (some v))) rfl (fun k hk => ?_) (fun j k hj => ak_cell_eq rfl rfl (ak_up_ne hj))) ?_ z oq _)
  · cases hr.symm.trans hk
    show Sum.inl (E.2.1 t, ak_as E _ r t n) = _
    unfold ak_as
    rw [if_pos ha]
    congr 6
    refine congrArg Sum.inr (funext fun j => ?_)
    by_cases hj : j = i.toNatClampNeg
    · subst hj
      show Option.map _ (ak_up _ r _ _ r _) = _
      rw [ak_up_same]
      simp [va_up]
    · show Option.map _ (ak_up _ r _ _ r _) = _
      rw [ak_up_oth hj]
      simp [va_up, hj]
  · show H1[ak_ad E r]? = some (vp_cell _ _)
    rw [e1]
    show some ((vp_cell (E.2.1 t) (n, .inr (.inr (.inr (.inr (fun j => (h.2.2.2 r j).map (ak_ad E))))))).setSlot _ _) = _
    rw [vp_cell_q, vp_cell_q, arrV_store]
    congr 2
    funext b
    by_cases hb : b = i.toNatClampNeg
    · subst hb
      simp [updV, va_up, va_rf]
    · simp [updV, va_up, hb]
end AKM
end
section
/-! the heap's steps, put together -/
theorem ak_cv_rf (E : ak_E) (o : Option Nat) : ak_cv E (va_rf o) = va_rf (o.map (ak_ad E)) := by cases o <;> rfl
def ak_new (ins : Instr) : Bool := match ins with
  | .new _ => true
  | .newarray _ => true
  | .anewarray _ => true
  | _ => false
section AKH
variable {p : Program} {l : Launch} {e : Env} {R : Room} {s : State} {m : MethodId} {args : Array Value} {below : List Frame} {meth : Method} {c : Code} {H : Heap} {locs : List Loc} {cells slots : Nat} {Q : State → Prop}
variable {pc w d : Nat} {ls : Array Slot} {E : ak_E} {Z : ak_Z} {q : ak_Q} {ins : Instr} {x : ak_X} {h h' : ak_H}
theorem ak_recv (C : ak_C E Z p s m args meth c q) (J : ak_J E s h H locs) {r ci : Nat} {k : vw_C} (hr : h.1[r]? = some (.inl ci)) (hc : vwCl[ci]? = some k) : ∃ cell : Cell, H[ak_ad E r]? = some cell ∧ cell.vm.isStatics = false ∧ s.vm.findClass k.1 = some cell.cls := va_recv C.2.2.2.2.2.1 J.2.2.1 hc (ak_ws_obj hr)
set_option maxHeartbeats 4000000 in
theorem ak_inst_ok (C : ak_C E Z p s m args meth c q) (J : ak_J E s h H locs) {idx r cc j : Nat} {st : List Value} {k1 : vw_C} (hr : h.1[r]? = some (.inl cc)) (hj0 : vwCl[j]? = some k1) (hlink : Cond.classLink q.1.cls idx k1.1 ∈ ak_Ts) (hc6 : cc = 0 ∨ cc = 1 ∨ cc = 2 ∨ cc = 3 ∨ cc = 4 ∨ cc = 9) (hj5 : j = 0 ∨ j = 1 ∨ j = 2 ∨ j = 4 ∨ j = 9)
    (hdg : decode q.2.1 pc = .ok (.instanceof idx, 3)) (k : W p l e R s m args below meth c H locs cells slots Q (F0 m (pc + 3) ls (.int (if ak_sub cc j = true then 1 else 0) :: st))) : W p l e R s m args below meth c H locs cells slots Q (F0 m pc ls (.ref (ak_ad E r) :: st)) := by
  have C' := C
  obtain ⟨hx, hb, hml, hown, hts, hK, hG, hbs, hini⟩ := C
  have self : ∀ {kc : vw_C}, vwCl[cc]? = some kc → cc = j → W p l e R s m args below meth c H locs cells slots Q (F0 m pc ls (.ref (ak_ad E r) :: st)) := by
    intro kc hkc hcj
    subst hcj
    obtain rfl : kc = k1 := Option.some.inj (hkc.symm.trans hj0)
    refine va_instS hx hb hown (hts _ hlink) (hK.1 cc kc hkc).2 (ak_recv C' J hr hkc) hdg ?_
    have e1 : ak_sub cc cc = true := by simp [ak_sub]
    rw [if_pos e1] at k
    exact k
  have cast : ∀ {kc : vw_C}, vwCl[cc]? = some kc → Cond.castable kc.1 k1.1 ∈ ak_nw → ak_sub cc j = true → W p l e R s m args below meth c H locs cells slots Q (F0 m pc ls (.ref (ak_ad E r) :: st)) := by
    intro kc hkc hm hs
    refine va_instY hx hb hown (hts _ hlink) (hG.2.2.2.2.1 _ hm) (ak_recv C' J hr hkc) hdg ?_
    rw [if_pos hs] at k
    exact k
  have no : ∀ {kc : vw_C}, vwCl[cc]? = some kc → va_Nc kc.1 k1.1 s → ak_sub cc j = false → W p l e R s m args below meth c H locs cells slots Q (F0 m pc ls (.ref (ak_ad E r) :: st)) := by
    intro kc hkc hn hs
    refine va_instNo hx hb hown (hts _ hlink) hn (ak_recv C' J hr hkc) hdg ?_
    rw [if_neg (by rw [hs]; decide)] at k
    exact k
  have hN := hG.2.2.2.2.2.1
  rcases hc6 with rfl | rfl | rfl | rfl | rfl | rfl <;> rcases hj5 with rfl | rfl | rfl | rfl | rfl <;> cases hj0 <;>
    first
    | exact self rfl rfl
    | exact cast (kc := (RX2, TX2, 0)) rfl (by decide +kernel) rfl
    | exact cast (kc := (RX1, TX1, 0)) rfl (by decide +kernel) rfl
    | exact no rfl (((hN _ (by decide) _ (by decide) (by decide)).resolve_left (by decide)).resolve_left (by decide)) rfl
set_option maxHeartbeats 8000000 in
theorem ak_mem_ok (C : ak_C E Z p s m args meth c q) (hall : ak_mall q) (J : ak_J E s h H locs) (hnew : ak_new ins = false) (hdg : decode q.2.1 pc = .ok (ins, w)) (hwd : ak_wd ins w = true) (hok : ∀ i, ak_idx ins = some i → ak_okr q.1.cls i x)
    (hdf : d ≤ R.frames) (hdl : 40 * d ≤ R.locals) (hcc : cells ≤ R.cells) (hss : slots ≤ R.slots) (hlz : ls.size = q.2.2.1) {S S' : List Value} (hm : ak_mem Z d q.2.2.2.2.2 (q.1.name == "<init>") ins x S h = some (S', h'))
    (k : ∀ (H1 : Heap) (locs1 : List Loc), h'.1 = h.1 → ak_J E s h' H1 locs1 → W p l e R s m args below meth c H1 locs1 cells slots Q (F0 m (pc + w) ls (S'.map (ak_cv E)))) : W p l e R s m args below meth c H locs cells slots Q (F0 m pc ls (S.map (ak_cv E))) := by
  have C' := C
  obtain ⟨hx, hb, hml, hown, hts, hK, hG, hbs, hini⟩ := C
  cases ins
  case getfield idx =>
    obtain rfl : w = 3 := by simpa [ak_wd] using hwd
    have ho := hok idx rfl
    simp only [ak_mem] at hm
    split at hm
    · rename_i ci kf _ r st
      split at hm
      · rename_i hr
        cases hfv : ak_fv h ci r kf with
        | none => rw [hfv] at hm; cases hm
        | some v =>
          rw [hfv] at hm
          cases hm
          obtain ⟨⟨Cn, T, N⟩, hc, hkN, hlink, -⟩ := ho
          obtain ⟨hin, -, -, hlen, -⟩ := ak_cls hc
          exact va_get (D := E.1) (ci := ci) (v := ak_cv E v) (C := Cn) (T := T) (N := N) hx hb hts hin hown hK J.2.2.1 r (ak_ws_obj hr) hc kf hkN (hts _ hlink) (fun _ h9 => h9) (ak_fs_at hfv (by rw [hlen]; exact hkN)) hdg (k _ _ rfl J)
      · cases hm
    · rename_i f _ _ r st
      by_cases hr : 1000000 ≤ r ∧ r < 1000012
      · rw [if_pos hr] at hm
        have hr1 : (1000000 : Nat) ≤ (r : Nat) := hr.1
        have hr2 : (r : Nat) < (1000012 : Nat) := hr.2
        obtain ⟨rn, hrn⟩ : ∃ rn : Nat, rn = r := ⟨r, rfl⟩
        have hr3 : (1000000 : Nat) ≤ rn := by rw [hrn]; exact hr.1
        have hr4 : rn < (1000012 : Nat) := by rw [hrn]; exact hr.2
        subst hrn
        obtain ⟨g1, g2, g3⟩ := hG.2.1 (rn - 1000000) (by omega)
        have er : 1000000 + (rn - 1000000) = rn := by omega
        have er2 : 1000100 + (rn - 1000000) = rn + 100 := by omega
        rw [er] at g2 g3
        rw [er2] at g3
        have ea : ak_cv E (.ref rn) = .ref (E.2.2.2.1 rn) := by
          show Value.ref (ak_ad E rn) = _
          rw [ak_ad_st hr.1]
        show W p l e R s m args below meth c H locs cells slots Q (F0 m pc ls (ak_cv E (.ref rn) :: st.map (ak_cv E)))
        rw [ea]
        by_cases hf : f = 0
        · rw [if_pos hf] at hm
          cases hm
          subst hf
          refine vk_getf hx hb g3 J.2.2.2 hown (hts _ ho) (fun _ h9 => h9) hdg ?_
          have := k _ _ rfl J
          have e2 : ak_cv E (.ref (rn + 100)) = .ref (E.2.2.2.1 (rn + 100)) := by
            show Value.ref (ak_ad E (rn + 100)) = _
            rw [ak_ad_st (by omega)]
          rw [← e2]
          exact this
        · rw [if_neg hf] at hm
          cases hm
          have ho' : Cond.fieldLink q.1.cls idx "java/lang/String" (if f = 0 then "value" else "coder") (if f = 0 then "[B" else "B") ∈ ak_Ts := ho
          rw [if_neg hf, if_neg hf] at ho'
          exact vk_getf hx hb g2 J.2.2.2 hown (hts _ ho') (fun _ h9 => h9) hdg (k _ _ rfl J)
      · rw [if_neg hr] at hm
        cases hm
    · cases hm
  case putfield idx =>
    obtain rfl : w = 3 := by simpa [ak_wd] using hwd
    have ho := hok idx rfl
    simp only [ak_mem] at hm
    split at hm
    · rename_i ci kf fin v r st
      split at hm
      · rename_i hr
        cases hfv : ak_fp h ci r kf v with
        | none => rw [hfv] at hm; cases hm
        | some h2 =>
          rw [hfv] at hm
          cases hm
          refine ak_put_ok C' J hr.1 hfv ho ?_ hdg (fun H1 locs1 J1 => k H1 locs1 (ak_fp_1 hfv) J1)
          rcases hr.2 with g | ⟨g1, g2⟩
          · exact Or.inl g
          · refine Or.inr ⟨g1, ?_⟩
            obtain ⟨rr, hc, -⟩ := ho
            rw [hc]
            exact congrArg some (hall.2.2 rr (by rw [g2]; exact hc))
      · cases hm
    · cases hm
  case getstatic idx =>
    obtain rfl : w = 3 := by simpa [ak_wd] using hwd
    have ho := hok idx rfl
    simp only [ak_mem] at hm
    obtain ⟨z1, z2, z3, z4⟩ := hG.2.2.1
    have e0 : ak_cv E (.ref 2000000) = .ref (E.2.2.2.1 2000000) := by
      show Value.ref (ak_ad E 2000000) = _
      rw [ak_ad_st (by decide)]
    have e1 : ak_cv E (.ref 2000001) = .ref (E.2.2.2.1 2000001) := by
      show Value.ref (ak_ad E 2000001) = _
      rw [ak_ad_st (by decide)]
    split at hm
    · cases hm
      obtain ⟨y, hy, hl⟩ := ho
      cases hy
      refine va_gets hx hb z1 J.2.2.2 hown (hts _ hl) (fun _ h9 => h9) hdg ?_
      rw [← e0]
      exact k _ _ rfl J
    · cases hm
      obtain ⟨y, hy, hl⟩ := ho
      cases hy
      refine va_gets hx hb z2 J.2.2.2 hown (hts _ hl) (fun _ h9 => h9) hdg ?_
      rw [← e1]
      exact k _ _ rfl J
    · cases hm
      obtain ⟨y, hy, hl⟩ := ho
      cases hy
      exact va_gets hx hb z3 J.2.2.2 hown (hts _ hl) (fun _ h9 => h9) hdg (k _ _ rfl J)
    · cases hm
      obtain ⟨y, hy, hl⟩ := ho
      cases hy
      exact va_gets hx hb z4 J.2.2.2 hown (hts _ hl) (fun _ h9 => h9) hdg (k _ _ rfl J)
    · cases hm
  case iaload =>
    obtain rfl : w = 1 := by simpa [ak_wd] using hwd
    simp only [ak_mem] at hm
    split at hm
    · rename_i i r st
      split at hm
      · rename_i n hr
        split at hm
        · rename_i hin
          cases hm
          exact va_iald hx hb hK J.2.2.1 r 0 (show (ak_ws E h)[r]? = some (ak_ad E r, .inl (E.2.1 0, n, .inl (h.2.1 r))) from ak_ws_arr hr) rfl (ak_inb_in hin) hdg (k _ _ rfl J)
        · cases hm
      · cases hm
      · split at hm
        · rename_i n f hsa
          split at hm
          · rename_i hin
            cases hm
            have ea : ak_cv E (.ref r) = .ref (E.2.2.2.1 r) := by
              show Value.ref (ak_ad E r) = _
              rw [ak_ad_st (ak_sa_ge hsa)]
            show W p l e R s m args below meth c H locs cells slots Q (F0 m pc ls (.int i :: ak_cv E (.ref r) :: st.map (ak_cv E)))
            rw [ea]
            exact va_ti hx hb (hG.1 _ _ _ _ hsa) J.2.2.2 (ak_inb_in hin) rfl hdg (k _ _ rfl J)
          · cases hm
        · cases hm
    · cases hm
  case baload =>
    obtain rfl : w = 1 := by simpa [ak_wd] using hwd
    simp only [ak_mem] at hm
    split at hm
    · rename_i i r st
      split at hm
      · rename_i n hr
        split at hm
        · rename_i hin
          cases hm
          exact va_zald hx hb hK J.2.2.1 r 1 (show (ak_ws E h)[r]? = some (ak_ad E r, .inl (E.2.1 1, n, .inl (h.2.1 r))) from ak_ws_arr hr) rfl (ak_inb_in hin) hdg (k _ _ rfl J)
        · cases hm
      · cases hm
      · split at hm
        · rename_i n f hsa
          split at hm
          · rename_i hin
            cases hm
            have ea : ak_cv E (.ref r) = .ref (E.2.2.2.1 r) := by
              show Value.ref (ak_ad E r) = _
              rw [ak_ad_st (ak_sa_ge hsa)]
            show W p l e R s m args below meth c H locs cells slots Q (F0 m pc ls (.int i :: ak_cv E (.ref r) :: st.map (ak_cv E)))
            rw [ea]
            exact va_tb hx hb (hG.1 _ _ _ _ hsa) J.2.2.2 (ak_inb_in hin) rfl hdg (k _ _ rfl J)
          · cases hm
        · cases hm
    · cases hm
  case aaload =>
    obtain rfl : w = 1 := by simpa [ak_wd] using hwd
    simp only [ak_mem] at hm
    split at hm
    · rename_i i r st
      split at hm
      · rename_i t n hr
        split at hm
        · rename_i hin
          cases hm
          have has : ak_as E h r t n = (n, .inr (.inr (.inr (.inr (fun j => (h.2.2.2 r j).map (ak_ad E)))))) := by unfold ak_as; rw [if_pos hin.1]
          have he := ak_ws_arr (E := E) hr
          rw [has] at he
          obtain ⟨ht, -, -⟩ := ak_rn_tys (E := E) hin.1
          refine va_aldq hx hb hK J.2.2.1 r t he ht (ak_inb_in hin.2) hdg ?_
          rw [← ak_cv_rf E (h.2.2.2 r i.toNatClampNeg)]
          exact k _ _ rfl J
        · cases hm
      · cases hm
    · cases hm
  case arraylength =>
    obtain rfl : w = 1 := by simpa [ak_wd] using hwd
    simp only [ak_mem] at hm
    split at hm
    · rename_i r st
      split at hm
      · rename_i t n hr
        split at hm
        · rename_i ht5
          cases hm
          have he := ak_ws_arr (E := E) hr
          have hn : (ak_as E h r t n).1 = n := by unfold ak_as; split <;> rfl
          have htt : ∃ ty, (ak_tys E)[t]? = some (E.2.1 t, ty) := by
            have : t = 0 ∨ t = 1 ∨ t = 2 ∨ t = 3 ∨ t = 4 := by omega
            rcases this with rfl | rfl | rfl | rfl | rfl <;> exact ⟨_, rfl⟩
          obtain ⟨ty, hty⟩ := htt
          exact va_alen hx hb hK J.2.2.1 r t he hty (by rw [hn]) hdg (k _ _ rfl J)
        · cases hm
      · cases hm
      · split at hm
        · rename_i b n f hsa
          cases hm
          have ea : ak_cv E (.ref r) = .ref (E.2.2.2.1 r) := by
            show Value.ref (ak_ad E r) = _
            rw [ak_ad_st (ak_sa_ge hsa)]
          show W p l e R s m args below meth c H locs cells slots Q (F0 m pc ls (ak_cv E (.ref r) :: st.map (ak_cv E)))
          rw [ea]
          exact va_tlen hx hb (hG.1 _ _ _ _ hsa) J.2.2.2 rfl hdg (k _ _ rfl J)
        · cases hm
    · cases hm
  case iastore =>
    obtain rfl : w = 1 := by simpa [ak_wd] using hwd
    simp only [ak_mem] at hm
    split at hm
    · rename_i v i r st
      split at hm
      · rename_i n hr
        split at hm
        · rename_i hin
          cases hm
          exact ak_iast_ok C' J hr hin hdg (fun H1 locs1 J1 => k H1 locs1 rfl J1)
        · cases hm
      · cases hm
    · cases hm
  case bastore =>
    obtain rfl : w = 1 := by simpa [ak_wd] using hwd
    simp only [ak_mem] at hm
    split at hm
    · rename_i v i r st
      split at hm
      · rename_i n hr
        split at hm
        · rename_i hin
          cases hm
          exact ak_bast_ok C' J hr hin.1 hin.2 hdg (fun H1 locs1 J1 => k H1 locs1 rfl J1)
        · cases hm
      · cases hm
    · cases hm
  case aastore =>
    obtain rfl : w = 1 := by simpa [ak_wd] using hwd
    simp only [ak_mem] at hm
    split at hm
    · rename_i v i r st
      split at hm
      · rename_i t n cc hr hv
        split at hm
        · rename_i hin
          cases hm
          exact ak_aast_ok C' J hr hv hin.1 hin.2.1 hin.2.2 hdg (fun H1 locs1 J1 => k H1 locs1 rfl J1)
        · cases hm
      · cases hm
    · cases hm
  case instanceof idx =>
    obtain rfl : w = 3 := by simpa [ak_wd] using hwd
    have ho := hok idx rfl
    simp only [ak_mem] at hm
    split at hm
    · rename_i j _ _ r st
      split at hm
      · rename_i cc hr
        split at hm
        · rename_i hcj
          cases hm
          obtain ⟨k1, hk1, hlink⟩ := ho
          exact ak_inst_ok C' J hr hk1 hlink hcj.1 hcj.2 hdg (k _ _ rfl J)
        · cases hm
      · cases hm
    · cases hm
  case invokespecial idx =>
    obtain rfl : w = 3 := by simpa [ak_wd] using hwd
    have ho := hok idx rfl
    simp only [ak_mem] at hm
    split at hm
    · rename_i _ _ _ r st
      split at hm
      · rename_i hd
        cases hm
        have hsum : ((S'.map (ak_cv E)).map fun v => v.category).sum = (S'.map fun v => v.category).sum := by
          rw [List.map_map]
          exact congrArg List.sum (List.map_congr_left fun v _ => ak_cat hG.2.2.2.2.2.2.2 v)
        exact W.objInit hx hb hown (hts _ ho) (hts _ ak_objw.1) (hts _ ak_objw.2) rfl (hlz.trans hml.symm) rfl hdg (by omega) (by
          have h8 : 2 * (F0 m pc ls []).monitorRoom + ((S'.map (ak_cv E)).map fun v => v.category).sum ≤ 8 := lv_room (by rw [hsum]; exact hd.2)
          have h9 : (F0 m pc ls ((.ref (ak_ad E r)) :: S'.map (ak_cv E))).monitorRoom = (F0 m pc ls []).monitorRoom := rfl
          show 2 * (F0 m pc ls ((.ref (ak_ad E r)) :: S'.map (ak_cv E))).monitorRoom + _ + 12 ≤ _
          rw [h9]
          omega) (k _ _ rfl J)
      · cases hm
    · cases hm
  case invokestatic idx =>
    obtain rfl : w = 3 := by simpa [ak_wd] using hwd
    have ho := hok idx rfl
    simp only [ak_mem] at hm
    have hsum : ∀ st : List Value, ((st.map (ak_cv E)).map fun v => v.category).sum = (st.map fun v => v.category).sum := by
      intro st
      rw [List.map_map]
      exact congrArg List.sum (List.map_congr_left fun v _ => ak_cat hG.2.2.2.2.2.2.2 v)
    split at hm
    · rename_i _ _ _ b a st
      split at hm
      · rename_i hd
        cases hm
        exact va_mmin hx hb (hml.trans hlz.symm) hown (hts _ ho) (hts _ ak_minw.1) (hts _ ak_minw.2.1) (hts _ ak_minw.2.2) (by omega) (by rw [hsum]; omega) hcc hss hdg (k _ _ rfl J)
      · cases hm
    · rename_i _ _ _ b a st
      split at hm
      · rename_i hd
        cases hm
        exact va_mmax hx hb (hml.trans hlz.symm) hown (hts _ ho) (hts _ ak_maxw.1) (hts _ ak_maxw.2.1) (hts _ ak_maxw.2.2) (by omega) (by rw [hsum]; omega) hcc hss hdg (k _ _ rfl J)
      · cases hm
    · rename_i _ _ _ n dp b sp a st
      split at hm
      · rename_i n0 n1 ha hb1
        split at hm
        · rename_i hd
          cases hm
          obtain ⟨hd1, hd2, hd3, hd4, hd5, hd6, hd7, hd8⟩ := hd
          have hD := ak_D E h (ak_N0_lt J.2.1)
          refine va_copyi hx hb (hml.trans hlz.symm) hown (hts _ ho) (hts _ ak_cpyw.1) (hts _ ak_cpyw.2.1) (hts _ ak_cpyw.2.2) hK J.2.2.1 hD J.2.2.2 a b 0 0 (show (ak_ws E h)[a]? = some (ak_ad E a, .inl (E.2.1 0, n0, .inl (h.2.1 a))) from ak_ws_arr ha) (show (ak_ws E h)[b]? = some (ak_ad E b, .inl (E.2.1 0, n1, .inl (h.2.1 b))) from ak_ws_arr hb1) rfl rfl rfl hd4 hd5 hd6 hd7 hd8 (fun _ _ => rfl) (by omega) (by
            rw [hsum]
            have : nativeFrameWords "java/lang/System" "arraycopy" 5 = 7 := by decide
            omega) hdg (fun H1 locs1 hP1 _ hS1 => k H1 locs1 rfl ⟨fun z => absurd z (by show ¬ h.1.length < ak_N0; omega), J.2.1, ?_, hS1⟩)
          have hset := ak_ws_set (E := E) (h := h) (h' := (h.1, ak_cpy h.2.1 a sp.toNatClampNeg b dp.toNatClampNeg n.toNatClampNeg, h.2.2.1, h.2.2.2)) (r := b) (e := .inl (E.2.1 0, n1, .inl (va_cpy (h.2.1 a) (h.2.1 b) sp.toNatClampNeg dp.toNatClampNeg n.toNatClampNeg))) rfl (fun kk hk => by
            cases hb1.symm.trans hk
            show Sum.inl (E.2.1 0, (n1, Sum.inl (ak_cpy h.2.1 a sp.toNatClampNeg b dp.toNatClampNeg n.toNatClampNeg b))) = _
            congr 4
            funext j
            unfold ak_cpy va_cpy
            by_cases hj : dp.toNatClampNeg ≤ j ∧ j < dp.toNatClampNeg + n.toNatClampNeg
            · rw [if_pos ⟨rfl, hj⟩, if_pos hj]
            · rw [if_neg (fun z => hj z.2), if_neg hj]) (fun j kk hj => ak_cell_eq (by
            funext b2
            show ak_cpy _ _ _ _ _ _ j b2 = _
            unfold ak_cpy
            rw [if_neg (fun z => hj z.1)]) rfl rfl)
          rw [← hset]
          exact hP1
        · cases hm
      · cases hm
    · cases hm
  all_goals first | (simp [ak_new] at hnew; done) | (simp [ak_mem] at hm; done)
end AKH
end
section
/-! calls of a method that is named by a class under the one that declares it -/
theorem ak_issub {vm : Vm} {a b : ClassId} {k : Class} (h1 : vm.classes[a]? = some k) (h2 : k.super = some b) : vm.isSubclass a b = true := by
  unfold Vm.isSubclass
  have hs : 0 < vm.classes.size := Nat.lt_of_le_of_lt (Nat.zero_le _) (Array.getElem?_eq_some_iff.mp h1).1
  obtain ⟨n, hn⟩ : ∃ n, vm.classes.size = n + 1 := ⟨vm.classes.size - 1, by omega⟩
  rw [hn]
  simp [Vm.isSubclassAux, h1, h2]
section AKX
variable {p : Program} {l : Launch} {e : Env} {R : Room} {s : State} {m : MethodId} {args : Array Value} {below : List Frame} {meth : Method} {c : Code} {H : Heap} {locs : List Loc} {cells slots : Nat} {Q : State → Prop}
variable {y : MethodName} {bytes cc : ByteArray} {maxL nL mc ms n index : Nat} {ret : Option FieldType} {ws : List Cond} {rm : Room} {Pc : Array Value → State → Prop} {Qc : Array Value → State → Outcome → State → Prop} {free : Addr → Prop} {Ts : List Cond} {own C : String} {b : Addr} {As rest : List Value} {g : JFrame}
/-- what such a call asks of the callee -/
abbrev ak_CW (R : Room) (s : State) (args : Array Value) (y : MethodName) (bytes : ByteArray) (maxL : Nat) (ret : Option FieldType) (ws : List Cond) (rm : Room) (mc ms n : Nat) : Prop :=
  rm.cells = mc ∧ rm.slots = ms ∧ rm.frames + 1 ≤ R.frames ∧ 8 + (maxL + 11) + rm.locals ≤ R.locals ∧ (∀ w ∈ ws, ∀ (a' : Array Value) (U : State), s.WarmedH U.vm → w.before a' U = true) ∧ Cond.code y bytes maxL ret ∈ ws ∧ (Cond.code y bytes maxL ret).before args s = true ∧ (Cond.initialized y.cls).before args s = true ∧ ak_nmh y.cls ∧ ak_par y = some n
theorem ak_CW.len (cw : ak_CW R s args y bytes maxL ret ws rm mc ms n) : ∀ sig, parseMethodDescriptor y.desc = some sig → n = sig.parameters.length := by
  intro sig h
  have h2 := cw.2.2.2.2.2.2.2.2.2
  unfold ak_par at h2
  rw [h] at h2
  exact (Option.some.inj h2).symm
theorem ak_CW.back (cw : ak_CW R s args y bytes maxL ret ws rm mc ms n) (hM : Met l y ws rm Pc Qc mc ms free) (hbl : FrameBlind Pc) : Back l R p e below s args y 3 8 (PreOf R mc ms Pc) (PostOf Qc mc ms free) := by
  obtain ⟨hrc, hrs, hfr, hlo, hws, hcw, hcode, hini, hy, hlen⟩ := cw
  exact back_of (bytes := bytes) (maxL := maxL) (ret := ret) hM hbl hrc hrs hfr hlo hws hcw (fun a' U hW => word_at hW (Or.inl (by first | rfl | simp [Cond.onTables, Cond.keeps, Cond.steady])) hini)
/-- super.f(), the method being declared further up -/
theorem ak_runSP {P : String} {cC : ClassId} (hat : ClassAt s C cC) (S : CallFix p m c cc nL s args Ts own) (hM : Met l y ws rm Pc Qc mc ms free) (cw : ak_CW R s args y bytes maxL ret ws rm mc ms n) (hp : PreV s H C b Pc As)
    (hlink : (Cond.methodLink own index ⟨P, y.name, y.desc⟩).before args s = true) (hsame : (Cond.sameMethod P y.cls y.name y.desc).before args s = true) (hsup : (Cond.superclass own P).before args s = true) (hsup2 : (Cond.superclass P y.cls).before args s = true) (hinst : (Cond.instanceMethod y).before args s = true) (hno : y.name ≠ "<init>")
    (hg : g.method = m) (hn : As.length = n) (hsize : g.locals.size = nL) (hstack : g.stack = As.reverse ++ .ref b :: rest) (hW : 2 * g.monitorRoom + (rest.map fun v => v.category).sum ≤ 8) (hdg : decode cc g.pc = .ok (.invokespecial index, 3)) (hf : cells + mc ≤ R.cells ∧ slots + ms ≤ R.slots) :
    va_Run p l e R s m args below meth c H locs cells slots mc ms g rest (Qc (Value.ref b :: As).toArray) (free) := by
  have hlen := cw.len
  have hK := cw.back (p := p) (e := e) (below := below) hM hp.1
  have hcode := cw.2.2.2.2.2.2.1
  obtain ⟨hx, hb, hml, ho, -⟩ := S
  obtain ⟨-, ⟨cellB, hcB, hoB, hclB⟩, hPc⟩ := hp
  intro T hT X
  obtain ⟨mk, methM, hnamed, hmethM, hstM, habM⟩ := Cond.instanceMethod_spec hinst
  obtain ⟨methM', cM, hmethM', -, -, -, -, -, -, hsigM⟩ := Cond.code_spec hnamed hcode
  cases hmethM.symm.trans hmethM'
  obtain ⟨ps, dk, kp, hps, hdk, hkp, hsuper, -, -, hnid⟩ := Cond.superclass_spec ho hsup
  have hn2 : s.methodNamed? ⟨y.cls, y.name, y.desc⟩ = some mk := hnamed
  obtain ⟨ps2, dk2, kp2, hps2, hdk2, hkp2, hsuper2, -⟩ := Cond.superclass_spec hps hsup2
  have hpm : ps2 = mk.cls := Option.some.inj (hps2.symm.trans (findClass_of_methodNamed hnamed))
  have hsub : s.vm.isSubclass ps mk.cls = true := by
    rw [← hpm]
    exact ak_issub hdk2 hsuper2
  obtain ⟨kB, hkB⟩ : ∃ kB, s.vm.classes[cellB.cls]? = some kB := by
    obtain ⟨h1, kC, h2, -⟩ := hat
    cases h1.symm.trans hclB
    exact ⟨kC, h2⟩
  obtain ⟨vm₁, X₁, hstep₁⟩ := X.invokespecialUp (x := ⟨P, y.name, y.desc⟩) (owner := y.cls) hx ho hlink hsame hn2 hmethM hstM habM hno hdk hnid hps hsuper hsub (a := b) (cell := cellB) (by rw [hT]; exact hcB)
    (fun z h => by rw [h] at hoB; cases hoB) hkB (g := g) hg (argsL := As) (rest := rest) (hn.trans (hlen _ hsigM)) hstack (by rw [hb]; exact hdg)
  obtain ⟨v, ⟨U', l2, c2, s2⟩, X', ⟨g', mk', t, L, e1, e2, hq, h1, hL, h2, h3⟩, st⟩ := hK m meth c ⟨T.setVm vm₁, locs, cells, slots⟩ { g with stack := rest } (.invokespecial index) mk (Value.ref b :: As).toArray X₁ hg (hsize.trans hml.symm) (by rw [hb]; exact hdg) hW (X₁.named hnamed) ⟨hf.1, hf.2, hPc (T.setVm vm₁) hT X₁.warmed⟩
  dsimp only [Pt.U, Pt.locs, Pt.cells, Pt.slots] at X' e1 e2 h1 h2 h3 st
  subst h1; subst h2; subst h3
  exact ⟨v, (T.setVm vm₁).calling g' mk' (Value.ref b :: As).toArray, t, U', L, hT, X', hL, e1, e2, hq, fun target h => hstep₁ _ (by rw [doInvoke_state]; exact st.trans h)⟩
/-- C.f() for a static f that a class further up declares -/
theorem ak_runSX {P : String} (S : CallFix p m c cc nL s args Ts own) (hM : Met l y ws rm Pc Qc mc ms free) (cw : ak_CW R s args y bytes maxL ret ws rm mc ms n) (hp : PreS s H Pc As)
    (hlink : (Cond.methodLink own index ⟨P, y.name, y.desc⟩).before args s = true) (hsame : (Cond.sameMethod P y.cls y.name y.desc).before args s = true) (hstat : (Cond.static y).before args s = true)
    (hg : g.method = m) (hn : As.length = n) (hsize : g.locals.size = nL) (hstack : g.stack = As.reverse ++ rest) (hW : 2 * g.monitorRoom + (rest.map fun v => v.category).sum ≤ 8) (hdg : decode cc g.pc = .ok (.invokestatic index, 3)) (hf : cells + mc ≤ R.cells ∧ slots + ms ≤ R.slots) :
    va_Run p l e R s m args below meth c H locs cells slots mc ms g rest (Qc As.toArray) (free) := by
  have hlen := cw.len
  have hK := cw.back (p := p) (e := e) (below := below) hM hp.1
  obtain ⟨-, -, -, -, -, -, hcode, hini, hy, -⟩ := cw
  obtain ⟨hx, hb, hml, ho, -⟩ := S
  intro T hT X
  obtain ⟨mk, hnamed⟩ := Cond.code_named hcode
  obtain ⟨methM, cM, hmethM, -, -, -, -, -, -, hsigM⟩ := Cond.code_spec hnamed hcode
  have hstatic : methM.isStatic = true := Cond.static_spec hnamed hmethM hstat
  obtain ⟨kP, hkP, -⟩ := className_of_methodNamed hnamed
  have hinitP : kP.init = .initialized := Cond.initialized_spec (findClass_of_methodNamed hnamed) hkP hini
  obtain ⟨vm₁, X₁, hstep₁⟩ := X.invokestaticUp (x := ⟨P, y.name, y.desc⟩) (owner := y.cls) hx ho hlink hsame hy hnamed hmethM hstatic hkP hinitP (g := g) hg (argsL := As) (rest := rest) (hn.trans (hlen _ hsigM)) hstack (by rw [hb]; exact hdg)
  obtain ⟨v, ⟨U', l2, c2, s2⟩, X', ⟨g', mk', t, L, e1, e2, hq, h1, hL, h2, h3⟩, st⟩ := hK m meth c ⟨T.setVm vm₁, locs, cells, slots⟩ { g with stack := rest } (.invokestatic index) mk As.toArray X₁ hg (hsize.trans hml.symm) (by rw [hb]; exact hdg) hW (X₁.named hnamed) ⟨hf.1, hf.2, hp.2 (T.setVm vm₁) hT X₁.warmed⟩
  dsimp only [Pt.U, Pt.locs, Pt.cells, Pt.slots] at X' e1 e2 h1 h2 h3 st
  subst h1; subst h2; subst h3
  exact ⟨v, (T.setVm vm₁).calling g' mk' As.toArray, t, U', L, hT, X', hL, e1, e2, hq, fun target h => hstep₁ _ fun acts => by rw [doInvoke_state]; exact st.trans h⟩
end AKX
end
section
/-! the small machine is the bytecode -/
theorem ak_nS_app {h h' : ak_H} {l : List ak_K} (e : h'.1 = h.1 ++ l) : ak_nS h' = ak_nS h + (l.map ak_sz).sum := by
  unfold ak_nS
  rw [e, List.map_append, List.sum_append]
/-- cells only come -/
theorem ak_mem_grow {Z : ak_Z} {d own : Nat} {b : Bool} {ins : Instr} {x : ak_X} {S S' : List Value} {h h' : ak_H} (hm : ak_mem Z d own b ins x S h = some (S', h')) : ∃ l, h'.1 = h.1 ++ l := by
  cases ins
  case getfield idx =>
    simp only [ak_mem] at hm
    split at hm
    · split at hm
      · rename_i ci kf _ r st _
        cases hfv : ak_fv h ci r kf with
        | none => rw [hfv] at hm; cases hm
        | some v => rw [hfv] at hm; cases hm; exact ⟨[], by simp⟩
      · cases hm
    · split at hm
      · split at hm
        · cases hm; exact ⟨[], by simp⟩
        · cases hm; exact ⟨[], by simp⟩
      · cases hm
    · cases hm
  case putfield idx =>
    simp only [ak_mem] at hm
    split at hm
    · split at hm
      · rename_i ci kf fin v r st _
        cases hfv : ak_fp h ci r kf v with
        | none => rw [hfv] at hm; cases hm
        | some h2 => rw [hfv] at hm; cases hm; exact ⟨[], by rw [ak_fp_1 hfv]; simp⟩
      · cases hm
    · cases hm
  all_goals first
    | (simp [ak_mem] at hm; done)
    | (simp only [ak_mem] at hm
       repeat' (split at hm)
       all_goals first
         | (cases hm; done)
         | (cases hm; exact ⟨_, rfl⟩)
         | (cases hm; exact ⟨[], (List.append_nil _).symm⟩))
section AKR
variable {p : Program} {l : Launch} {e : Env} {R : Room} {s : State} {m : MethodId} {args : Array Value} {below : List Frame} {meth : Method} {c : Code} {H : Heap} {locs : List Loc} {cells slots : Nat} {Q : State → Prop}
variable {pc w d : Nat} {ls : Array Slot} {E : ak_E} {Z : ak_Z} {q : ak_Q} {ins : Instr} {x : ak_X} {h h' : ak_H}
theorem ak_fvc_new {E : ak_E} {h : ak_H} {ci j n : Nat} {r : vw_C} (hc : vwCl[ci]? = some r) (ty : Nat → FieldType) (ht : ak_tyb ((ak_F.getD ci []).getD j 9) (ty j) = true) (e1 : h.2.1 n j = 0) (e2 : h.2.2.1 n j = 0) (e3 : h.2.2.2 n j = none) : defaultValue (ty j) = ak_fvc E h ci n j := by
  unfold ak_fvc ak_fv
  generalize (ak_F.getD ci []).getD j 9 = t at ht ⊢
  match t, ty j, ht with
  | 0, .int, _ => simp [e1, ak_cv, defaultValue]
  | 1, .boolean, _ => simp [e1, ak_cv, defaultValue]
  | 2, .long, _ => simp [e2, ak_cv, defaultValue]
  | 3, .object _, _ => simp [e3, ak_cv, va_rf, defaultValue]
  | 3, .array _, _ => simp [e3, ak_cv, va_rf, defaultValue]
set_option maxHeartbeats 4000000 in
theorem ak_new_ok (C : ak_C E Z p s m args meth c q) (J : ak_J E s h H locs) (hnew : ak_new ins = true) (hdg : decode q.2.1 pc = .ok (ins, w)) (hwd : ak_wd ins w = true) (hok : ∀ i, ak_idx ins = some i → ak_okr q.1.cls i x)
    {S S' : List Value} (hm : ak_mem Z d q.2.2.2.2.2 (q.1.name == "<init>") ins x S h = some (S', h')) (hcc : cells + (h'.1.length - h.1.length) ≤ R.cells) (hss : slots + (ak_nS h' - ak_nS h) ≤ R.slots)
    (k : ∀ (H1 : Heap), ak_J E s h' H1 locs → W p l e R s m args below meth c H1 locs (cells + (h'.1.length - h.1.length)) (slots + (ak_nS h' - ak_nS h)) Q (F0 m (pc + w) ls (S'.map (ak_cv E)))) : W p l e R s m args below meth c H locs cells slots Q (F0 m pc ls (S.map (ak_cv E))) := by
  obtain ⟨hx, hb, hml, hown, hts, hK, hG, hbs, hini⟩ := C
  have num : ∀ {kk : ak_K}, h'.1 = h.1 ++ [kk] → h'.1.length - h.1.length = 1 ∧ ak_nS h' - ak_nS h = ak_sz kk := by
    intro kk e
    have := ak_nS_app e
    rw [e]
    simp at this ⊢
    omega
  cases ins
  case new idx =>
    obtain rfl : w = 3 := by simpa [ak_wd] using hwd
    have ho := hok idx rfl
    simp only [ak_mem] at hm
    split at hm
    · rename_i ci _ _
      split at hm
      · rename_i hcn
        cases hm
        obtain ⟨n1, n2⟩ := num rfl
        rw [n1] at hcc
        rw [n2] at hss
        rw [n1, n2] at k
        obtain ⟨⟨Cn, T, N⟩, hc, hlink⟩ := ho
        obtain ⟨hin, ⟨ty, hty, htk⟩, hnm, hlen, hdecl, hins, hinit⟩ := ak_cls hc
        dsimp only at hlink hin hty htk hnm hlen hdecl hins hinit
        have hsz : ak_sz (.inl ci) = N := hlen
        rw [hsz] at hss k
        have hKn := hK.1 ci _ hc
        refine W.newcK hx hb hown (hts _ hlink) (hts _ hins) (hts _ hinit) rfl hdg hcc hss hKn.2.1 rfl fun H1 kC hkC e1 z1 o1 => ?_
        have hJ := J.push hbs (h' := (h.1 ++ [.inl ci], fun a k => if a = h.1.length then 0 else h.2.1 a k, fun a k => if a = h.1.length then 0 else h.2.2.1 a k, fun a k => if a = h.1.length then none else h.2.2.2 a k)) (k := .inl ci) (H1 := H1) hcn.2 rfl (fun i kk hi => by
          have hi' : i ≠ h.1.length := by omega
          exact ak_cell_eq (by funext b; simp [hi']) (by funext b; simp [hi']) (by funext b; simp [hi'])) ?_ z1 o1
        · obtain ⟨hJ1, had⟩ := hJ
          have := k H1 hJ1
          rw [← had]
          exact this
        · refine ⟨_, hc, (u_born ty hts hin hKn hkC e1 hty).to fun j hj => ?_⟩
          have hj' : j < (ak_F.getD ci []).length := by rw [hlen]; exact hj
          show _ = vp_V (ak_fs E _ ci h.1.length) j
          unfold vp_V ak_fs
          rw [List.getD_eq_getElem?_getD, List.getElem?_map, List.getElem?_range hj']
          exact ak_fvc_new (n := h.1.length) hc ty (htk j hj) (by simp) (by simp) (by simp)
      · cases hm
    · cases hm
  case newarray at_ =>
    obtain rfl : w = 2 := by simpa [ak_wd] using hwd
    simp only [ak_mem] at hm
    split at hm
    · rename_i n st
      split at hm
      · rename_i hcn
        cases hm
        obtain ⟨n1, n2⟩ := num rfl
        rw [n1] at hcc
        rw [n2] at hss
        rw [n1, n2] at k
        obtain ⟨hat, hn0, hn1, hl⟩ := hcn
        have key : ∀ (t : Nat) (ty : FieldType), newarray.typeOf at_ = ty → (if at_ = .int then 0 else 1) = t → (ak_tys E)[t]? = some (E.2.1 t, ty) → ak_arr t = false → Cond.arrayClass ty ∈ ak_Ts → componentBytes ty ≤ 8 → (defaultValue ty = .int 0) → va_RA s (E.2.1 t) ty → (va_RA s (E.2.1 t) ty → s.vm.findClass ("[" ++ ty.toString) = some (E.2.1 t)) → W p l e R s m args below meth c H locs cells slots Q (F0 m pc ls ((Value.int n :: st).map (ak_cv E))) := by
          intro t ty hty ht htt harr hw hcb hdv hra hra2
          subst hty
          refine va_newaK hx hb (hts _ hw) rfl hdg rfl hn0 rfl (by
            have : n.toNatClampNeg * componentBytes (newarray.typeOf at_) ≤ 10000 * 8 := Nat.mul_le_mul hn1 hcb
            omega) hcc hss rfl fun H1 cA e1 z1 o1 hAr hNm => ?_
          have hcA : cA = E.2.1 t := Option.some.inj (hNm.symm.trans (hra2 hra))
          subst hcA
          rw [ht] at k
          have hJ := J.push hbs (h' := (h.1 ++ [.inr (t, n.toNatClampNeg)], fun a k => if a = h.1.length then 0 else h.2.1 a k, h.2.2.1, h.2.2.2)) (k := .inr (t, n.toNatClampNeg)) (H1 := H1) hl rfl (fun i kk hi => by
            have hi' : i ≠ h.1.length := by omega
            exact ak_cell_eq (by funext b; simp [hi']) rfl rfl) ?_ z1 o1
          · obtain ⟨hJ1, had⟩ := hJ
            have := k H1 hJ1
            rw [← had]
            exact this
          · show H1[H.size]? = some (vp_cell (E.2.1 t) (ak_as E _ h.1.length t n.toNatClampNeg))
            rw [e1]
            unfold ak_as
            rw [if_neg (by rw [harr]; decide), vp_cell_i]
            congr 2
            funext j
            rw [hdv]
            simp
        rcases hat with rfl | rfl
        · exact key 0 .int rfl rfl rfl rfl ak_arrw.1 (by decide) rfl ((hK.2 0 _ rfl).2) (fun z => z)
        · exact key 1 .boolean rfl rfl rfl rfl ak_arrw.2 (by decide) rfl ((hK.2 1 _ rfl).2) (fun z => z)
      · cases hm
    · cases hm
  case anewarray idx =>
    obtain rfl : w = 3 := by simpa [ak_wd] using hwd
    have ho := hok idx rfl
    simp only [ak_mem] at hm
    split at hm
    · rename_i ci t _ n st
      split at hm
      · rename_i hcn
        cases hm
        obtain ⟨n1, n2⟩ := num rfl
        rw [n1] at hcc
        rw [n2] at hss
        rw [n1, n2] at k
        obtain ⟨hat, hci, hn0, hn1, hl⟩ := hcn
        obtain ⟨⟨Cn, T, N⟩, hc, hlink⟩ := ho
        obtain ⟨htt, hrn, hrm⟩ := ak_rn_tys (E := E) hat
        have hCn : Cn = ak_rn t := by
          rw [← hci] at hrn
          have hc' : vwCl[ci]? = some (Cn, T, N) := hc
          rw [hc'] at hrn
          exact Option.some.inj hrn
        dsimp only at hlink
        rw [hCn] at hlink
        refine W.anew hx hb hown (hts _ hlink) (va_AO.use (hG.2.2.2.2.2.2.1 _ hrm)) rfl hdg rfl hn0 (by omega) hcc hss fun cA kA comp f1 f2 f3 f4 => ?_
        generalize hH1 : H.push ({ cls := cA, slots := Array.replicate n.toNatClampNeg .null, vm := .none } : Cell) = H1
        have z1 : H1.size = H.size + 1 := by rw [← hH1, Array.size_push]
        have e1 : H1[H.size]? = some (arrV cA n.toNatClampNeg (fun _ => .null)) := by rw [← hH1, Array.getElem?_push_size, ← arrV_new]
        have o1 : ∀ q : Nat, q < H.size → H1[q]? = H[q]? := fun q hq => by rw [← hH1, Array.getElem?_push, if_neg (Nat.ne_of_lt hq)]
        obtain ⟨kA2, comp2, g1, g2, g3, g4⟩ := (hK.2 t _ htt).2
        have hcA : cA = E.2.1 t := Option.some.inj (f1.symm.trans g4)
        subst hcA
        have hJ := J.push hbs (h' := (h.1 ++ [.inr (t, n.toNatClampNeg)], h.2.1, h.2.2.1, fun a k => if a = h.1.length then none else h.2.2.2 a k)) (k := .inr (t, n.toNatClampNeg)) (H1 := H1) hl rfl (fun i kk hi => by
          have hi' : i ≠ h.1.length := by omega
          exact ak_cell_eq rfl rfl (by funext b; simp [hi'])) ?_ z1 o1
        · obtain ⟨hJ1, had⟩ := hJ
          have := k H1 hJ1
          rw [← had]
          exact this
        · show H1[H.size]? = some (vp_cell (E.2.1 t) (ak_as E _ h.1.length t n.toNatClampNeg))
          rw [e1]
          unfold ak_as
          rw [if_pos hat, vp_cell_q]
          congr 2
          funext j
          simp [va_rf]
      · cases hm
    · cases hm
  all_goals (simp [ak_new] at hnew)
/-- a method's start and end -/
def ak_Pc (E : ak_E) (Z : ak_Z) (as : List Value) (h : ak_H) : Array Value → State → Prop := fun v U => v = (as.map (ak_cv E)).toArray ∧ va_K E.1 vwCl (ak_tys E) U ∧ ak_G E Z U U.heap ∧ E.2.2.1 ≤ U.heap.size ∧ (h.1.length < ak_N0 → U.heap.size = E.2.2.1 + h.1.length) ∧ h.1.length ≤ ak_N0 ∧ va_P E.1 vwCl (ak_ws E h) U.heap
def ak_Qc (E : ak_E) (r : Option Value) (h : ak_H) : Array Value → State → Outcome → State → Prop := fun _ st o t => o = .returned (r.map (ak_cv E)) ∧ ((h.1.length < ak_N0 → t.heap.size = E.2.2.1 + h.1.length) ∧ h.1.length ≤ ak_N0 ∧ va_P E.1 vwCl (ak_ws E h) t.heap) ∧ va_F (fun a => E.2.2.1 ≤ a) st t
def ak_rm (d mc ms : Nat) : Room := { frames := d, cells := mc, slots := ms, locals := 40 * d }
def ak_Met (l : Launch) (E : ak_E) (Z : ak_Z) (d : Nat) (q : ak_Q) (as : List Value) (h : ak_H) (r : Option Value) (h' : ak_H) : Prop :=
  Met l q.1 (Cond.code q.1 q.2.1 q.2.2.1 q.2.2.2.1 :: ak_Ts) (ak_rm d (h'.1.length - h.1.length) (ak_nS h' - ak_nS h)) (ak_Pc E Z as h) (ak_Qc E r h') (h'.1.length - h.1.length) (ak_nS h' - ak_nS h) (fun a => E.2.2.1 ≤ a)
theorem ak_blind (E : ak_E) (Z : ak_Z) (as : List Value) (h : ak_H) : FrameBlind (ak_Pc E Z as h) := fun a U g mk z => by
  obtain ⟨z1, z2, z3, z4⟩ := z
  exact ⟨z1, va_K.moved (u := U) (U := U.calling g mk a) (Vm.Alike.refl U.vm) z2, ak_G.same (s := U) z3 rfl, z4⟩
/-- the caller's state is a start -/
theorem ak_Pc_of (C : ak_C E Z p s m args meth c q) (J : ak_J E s h H locs) (as : List Value) : ∀ U : State, U.heap = H → s.WarmedH U.vm → ak_Pc E Z as h (as.map (ak_cv E)).toArray U := by
  intro U hU hW
  obtain ⟨hx, hb, hml, hown, hts, hK, hG, hbs, hini⟩ := C
  exact ⟨rfl, va_K.moved hW.alike hK, by rw [hU]; exact hG.warm hW J.2.2.2.2.1, by rw [hU]; exact Nat.le_trans hbs J.2.2.2.1, by rw [hU]; exact J.1, J.2.1, by rw [hU]; exact J.2.2.1⟩
/-- behind a call -/
theorem ak_back (J : ak_J E s h H locs) {mc ms : Nat} {r : Option Value} {a : Array Value} {st0 rest : List Value} (hr : va_Run p l e R s m args below meth c H locs cells slots mc ms (F0 m pc ls st0) (rest.map (ak_cv E)) (ak_Qc E r h' a) (fun a => E.2.2.1 ≤ a))
    (kk : ∀ (H1 : Heap) (locs1 : List Loc), ak_J E s h' H1 locs1 → W p l e R s m args below meth c H1 locs1 (cells + mc) (slots + ms) Q (F0 m (pc + 3) ls ((r.toList ++ rest).map (ak_cv E)))) : W p l e R s m args below meth c H locs cells slots Q (F0 m pc ls st0) := by
  intro T hT X
  obtain ⟨v, st₀, t, T', L, h0, X', hL, e1, e2, ⟨hv, ⟨g1, g2, g3⟩, hz, hk⟩, st⟩ := hr T hT X
  have hv : v = r.map (ak_cv E) := by
    have := hv
    injection this
  subst hv
  rw [h0] at hz hk
  obtain ⟨t2, a1, b1⟩ := kk T'.heap (locs ++ L) ⟨by rw [e1]; exact g1, g2, by rw [e1]; exact g3, ⟨Nat.le_trans J.2.2.2.1 (by rw [e1]; exact hz), fun q h1 h2 => by rw [e1, hk q (Nat.lt_of_lt_of_le h1 J.2.2.2.1) h2]; exact J.2.2.2.2.1 q h1 h2, fun q hq => by
      rcases List.mem_append.mp hq with g | g
      · exact J.2.2.2.2.2 q g
      · exact hL q g⟩⟩ T' rfl X'
  refine ⟨t2, st t2 ?_, b1⟩
  have e3 : (r.map (ak_cv E)).toList ++ rest.map (ak_cv E) = (r.toList ++ rest).map (ak_cv E) := by cases r <;> simp
  show Steps p.tables e below (T'.setTop (F0 m (pc + 3) ls ((r.map (ak_cv E)).toList ++ rest.map (ak_cv E)))) t2
  rw [e3]
  exact a1
theorem ak_take {S as rest : List Value} {n : Nat} (h1 : (S.take n).length = n) (h2 : S.drop n = rest) (h3 : as = (S.take n).reverse) : S.map (ak_cv E) = (as.map (ak_cv E)).reverse ++ rest.map (ak_cv E) := by
  subst h2 h3
  rw [← List.map_reverse, List.reverse_reverse, ← List.map_append, List.take_append_drop]
set_option maxHeartbeats 8000000 in
theorem ak_call_ok (C : ak_C E Z p s m args meth c q) (J : ak_J E s h H locs) (hdg : decode q.2.1 pc = .ok (ins, w)) (hwd : ak_wd ins w = true) (hok : ∀ i, ak_idx ins = some i → ak_okr q.1.cls i x)
    (hdf : d + 1 ≤ R.frames) (hdl : 40 * (d + 1) ≤ R.locals) (hlz : ls.size = q.2.2.1) {S as rest : List Value} {mj : Nat} (hm : ak_call ins x S h = some (mj, as, rest)) {qj : ak_Q} (hM : ak_M[mj]? = some qj) {r : Option Value} (hMet : ak_Met l E Z d qj as h r h')
    (hcc : cells + (h'.1.length - h.1.length) ≤ R.cells) (hss : slots + (ak_nS h' - ak_nS h) ≤ R.slots)
    (kk : ∀ (H1 : Heap) (locs1 : List Loc), ak_J E s h' H1 locs1 → W p l e R s m args below meth c H1 locs1 (cells + (h'.1.length - h.1.length)) (slots + (ak_nS h' - ak_nS h)) Q (F0 m (pc + 3) ls ((r.toList ++ rest).map (ak_cv E)))) : W p l e R s m args below meth c H locs cells slots Q (F0 m pc ls (S.map (ak_cv E))) := by
  have C' := C
  obtain ⟨hx, hb, hml, hown, hts, hK, hG, hbs, hini⟩ := C
  have hsum : ∀ st : List Value, ((st.map (ak_cv E)).map fun v => v.category).sum = (st.map fun v => v.category).sum := by
    intro st
    rw [List.map_map]
    exact congrArg List.sum (List.map_congr_left fun v _ => ak_cat hG.2.2.2.2.2.2.2 v)
  have Sx : CallFix p m c q.2.1 q.2.2.1 s args ak_Ts q.1.cls := ⟨hx, hb, hml, hown, hts⟩
  have six : ∀ {m0 : ak_Q}, ak_mok m0 → (ak_rm d (h'.1.length - h.1.length) (ak_nS h' - ak_nS h)).cells = (h'.1.length - h.1.length) ∧ (ak_rm d (h'.1.length - h.1.length) (ak_nS h' - ak_nS h)).slots = (ak_nS h' - ak_nS h) ∧ (ak_rm d (h'.1.length - h.1.length) (ak_nS h' - ak_nS h)).frames + 1 ≤ R.frames ∧ 8 + (m0.2.2.1 + 11) + (ak_rm d (h'.1.length - h.1.length) (ak_nS h' - ak_nS h)).locals ≤ R.locals ∧ (∀ w ∈ Cond.code m0.1 m0.2.1 m0.2.2.1 m0.2.2.2.1 :: ak_Ts, ∀ (a' : Array Value) (U : State), s.WarmedH U.vm → w.before a' U = true) ∧ Cond.code m0.1 m0.2.1 m0.2.2.1 m0.2.2.2.1 ∈ Cond.code m0.1 m0.2.1 m0.2.2.1 m0.2.2.2.1 :: ak_Ts := by
    intro m0 hk
    refine ⟨rfl, rfl, hdf, ?_, pay_in hts (ak_Ts_good fun w hw => ?_), List.mem_cons_self⟩
    · have := hk.2.2.2.2
      show 8 + (m0.2.2.1 + 11) + 40 * d ≤ R.locals
      omega
    · rcases List.mem_cons.mp hw with g | g
      · rw [g]; exact hk.1
      · exact g
  have len : ∀ {y : MethodName} {n : Nat}, ak_par y = some n → ∀ sig, parseMethodDescriptor y.desc = some sig → n = sig.parameters.length := by
    intro y n hy sig hs
    unfold ak_par at hy
    rw [hs] at hy
    exact (Option.some.inj hy).symm
  have f2 := And.intro hcc hss
  have bl := ak_blind E Z as h
  have pre := ak_Pc_of C' J as
  cases ins
  case invokevirtual idx =>
    obtain rfl : w = 3 := by simpa [ak_wd] using hwd
    have ho := hok idx rfl
    simp only [ak_call] at hm
    split at hm
    · rename_i mi n ci r0 st hdr
      split at hm
      · rename_i hc
        cases hm
        obtain ⟨m0, k0, o1, o2, o3, o4, o5, o6, o7, o8⟩ := ho
        obtain rfl : m0 = qj := Option.some.inj (o1.symm.trans hM)
        obtain ⟨g1, g2, g3, g4, g5, g6⟩ := six o2
        have hst := ak_take (E := E) hc.2.1 hdr rfl
        rw [hst]
        refine ak_back J (va_runV (C := k0.1) (As := (S.take n).reverse.map (ak_cv E)) Sx hMet ⟨⟨g1, g2, g3, g4, g5, g6, hts _ o2.1, hts _ o2.2.1, o2.2.2.1, len o5, hts _ o6⟩, hts _ o7, hts _ o8⟩ ⟨bl, ak_recv C' J hc.1 o3, pre⟩ rfl (by simpa using hc.2.1) hlz rfl (lv_room (by rw [hsum]; exact hc.2.2)) hdg f2) kk
      · cases hm
    · rename_i mi n _ r0 st hdr
      split at hm
      · rename_i hc
        cases hm
        obtain ⟨m0, o1, o2, o4, o5, o6, o7, o8⟩ := ho
        obtain rfl : m0 = qj := Option.some.inj (o1.symm.trans hM)
        obtain ⟨g1, g2, g3, g4, g5, g6⟩ := six o2
        have hst := ak_take (E := E) hc.2.1 hdr rfl
        rw [hst]
        have hrec : ∃ cell : Cell, H[ak_ad E r0]? = some cell ∧ cell.vm.isStatics = false ∧ s.vm.findClass "java/lang/String" = some cell.cls := by
          obtain ⟨rn, hrn⟩ : ∃ rn : Nat, rn = r0 := ⟨r0, rfl⟩
          have hr3 : (1000000 : Nat) ≤ rn := by rw [hrn]; exact hc.1.1
          have hr4 : rn < (1000012 : Nat) := by rw [hrn]; exact hc.1.2
          rw [← hrn]
          obtain ⟨z1, -, -⟩ := hG.2.1 (rn - 1000000) (by omega)
          rw [show 1000000 + (rn - 1000000) = rn by omega] at z1
          obtain ⟨cell, a1, a2, a3, -⟩ := z1.kept J.2.2.2.2.1
          exact ⟨cell, by rw [ak_ad_st hr3]; exact a1, a2, a3⟩
        refine ak_back J (va_runV (C := "java/lang/String") (As := (S.take n).reverse.map (ak_cv E)) Sx hMet ⟨⟨g1, g2, g3, g4, g5, g6, hts _ o2.1, hts _ o2.2.1, o2.2.2.1, len o5, hts _ o6⟩, hts _ o7, hts _ o8⟩ ⟨bl, hrec, pre⟩ rfl (by simpa using hc.2.1) hlz rfl (lv_room (by rw [hsum]; exact hc.2.2)) hdg f2) kk
      · cases hm
    · rename_i fm n _ r0 st hdr
      split at hm
      · rename_i cc hr0
        split at hm
        · rename_i mi hfam
          split at hm
          · rename_i hc
            cases hm
            obtain ⟨z, z2, z3, z4, z5, z6, z7, zall⟩ := ho
            obtain ⟨m0, k0, o1, o2, o3, o4, o5⟩ := zall cc _ hfam
            obtain rfl : m0 = qj := Option.some.inj (o1.symm.trans hM)
            have hst := ak_take (E := E) hc.1 hdr rfl
            rw [hst]
            refine ak_back J (va_runU (C := k0.1) (owner := RX3) (x := z.1) (As := (S.take n).reverse.map (ak_cv E)) Sx hMet ⟨six o2, hts _ o2.1, hts _ o2.2.1, by rw [← z3]; exact z2.2.2.1, len z7, hts _ z4, by rw [z3]; exact hts _ z5, by
              have hd := va_Decl.of (hts _ z6) (hts _ z2.1)
              rw [← z3]
              exact hd, hts _ o4, hts _ o5⟩ ⟨bl, ak_recv C' J hr0 o3, pre⟩ rfl (by simpa using hc.1) hlz rfl (lv_room (by rw [hsum]; exact hc.2)) hdg f2) kk
          · cases hm
        · cases hm
      · cases hm
    · cases hm
  case invokespecial idx =>
    obtain rfl : w = 3 := by simpa [ak_wd] using hwd
    have ho := hok idx rfl
    simp only [ak_call] at hm
    split at hm
    · rename_i mi n ci r0 st hdr
      split at hm
      · rename_i hc
        cases hm
        obtain ⟨m0, k0, o1, o2, o3, o4, o5, o6, o7, o8, o9⟩ := ho
        obtain rfl : m0 = qj := Option.some.inj (o1.symm.trans hM)
        obtain ⟨g1, g2, g3, g4, g5, g6⟩ := six o2
        have hst := ak_take (E := E) hc.2.1 hdr rfl
        rw [hst]
        have hcode := hts _ o2.1
        rw [o6] at hcode
        refine ak_back J (va_runI (b := ak_ad E r0) (As := (S.take n).reverse.map (ak_cv E)) Sx hMet ⟨⟨g1, g2, g3, g4, g5, by rw [← o6]; exact g6, hcode, hts _ o2.2.1, o2.2.2.1, len o7, hts _ o8⟩, o5, hts _ o9⟩ ⟨bl, pre⟩ rfl (by simpa using hc.2.1) hlz rfl (lv_room (by rw [hsum]; exact hc.2.2)) hdg f2) kk
      · cases hm
    · rename_i mi n _ r0 st hdr
      split at hm
      · rename_i cc hr0
        split at hm
        · rename_i hc
          cases hm
          obtain ⟨m0, o1, o2, o5, o6, o7, o8, o9, o10⟩ := ho
          obtain rfl : m0 = qj := Option.some.inj (o1.symm.trans hM)
          have hst := ak_take (E := E) hc.1 hdr rfl
          rw [hst]
          obtain ⟨k0, hk0, -⟩ := J.2.2.1 _ _ (ak_ws_obj hr0)
          refine ak_back J (va_runSU (C := k0.1) (As := (S.take n).reverse.map (ak_cv E)) (hK.1 cc k0 hk0).2 Sx hMet ⟨six o2, hts _ o7, hts _ o8, hts _ o9, hts _ o10, hts _ o2.2.1, hts _ o2.1, o6, len o5⟩ ⟨bl, ak_recv C' J hr0 hk0, pre⟩ rfl (by simpa using hc.1) hlz rfl (lv_room (by rw [hsum]; exact hc.2)) hdg f2) kk
        · cases hm
      · cases hm
    · rename_i mi n _ r0 st hdr
      split at hm
      · rename_i cc hr0
        split at hm
        · rename_i hc
          cases hm
          obtain ⟨m0, o1, o2, o5, o6, ow, oc, o7, o8, o9, o10, o11⟩ := ho
          obtain rfl : m0 = qj := Option.some.inj (o1.symm.trans hM)
          obtain ⟨g1, g2, g3, g4, g5, g6⟩ := six o2
          have hst := ak_take (E := E) hc.1 hdr rfl
          rw [hst]
          obtain ⟨k0, hk0, -⟩ := J.2.2.1 _ _ (ak_ws_obj hr0)
          refine ak_back J (ak_runSP (P := RX4) (C := k0.1) (As := (S.take n).reverse.map (ak_cv E)) (hK.1 cc k0 hk0).2 Sx hMet ⟨g1, g2, g3, g4, g5, g6, hts _ o2.1, hts _ o2.2.1, o2.2.2.1, o5⟩ ⟨bl, ak_recv C' J hr0 hk0, pre⟩ (hts _ o7) (hts _ o8) (hts _ o9) (hts _ o10) (hts _ o11) o6 rfl (by simpa using hc.1) hlz rfl (lv_room (by rw [hsum]; exact hc.2)) hdg f2) kk
        · cases hm
      · cases hm
    · cases hm
  case invokestatic idx =>
    obtain rfl : w = 3 := by simpa [ak_wd] using hwd
    have ho := hok idx rfl
    simp only [ak_call] at hm
    split at hm
    · rename_i mi n _
      split at hm
      · rename_i hc
        cases hm
        obtain ⟨m0, o1, o2, o5, o6, o7⟩ := ho
        obtain rfl : m0 = qj := Option.some.inj (o1.symm.trans hM)
        obtain ⟨g1, g2, g3, g4, g5, g6⟩ := six o2
        have hst := ak_take (E := E) hc.1 rfl rfl
        rw [hst]
        refine ak_back J (va_runS (As := (S.take n).reverse.map (ak_cv E)) Sx hMet ⟨⟨g1, g2, g3, g4, g5, g6, hts _ o2.1, hts _ o2.2.1, o2.2.2.1, len o5, hts _ o6⟩, hts _ o7⟩ ⟨bl, pre⟩ rfl (by simpa using hc.1) hlz rfl (lv_room (by rw [hsum]; exact hc.2)) hdg f2) kk
      · cases hm
    · rename_i mi n _
      split at hm
      · rename_i hc
        cases hm
        obtain ⟨m0, o1, o2, o5, o6, o7⟩ := ho
        obtain rfl : m0 = qj := Option.some.inj (o1.symm.trans hM)
        have hst := ak_take (E := E) hc.1 rfl rfl
        rw [hst]
        refine ak_back J (va_runSN (host := RX11) (As := (S.take n).reverse.map (ak_cv E)) Sx hMet ⟨⟨six o2, hts _ o2.1, hts _ o2.2.1, o2.2.2.1, len o5, va_Nw.use rfl (hG.2.2.2.2.1 _ o6)⟩, hts _ o7, trivial⟩ ⟨bl, pre⟩ rfl (by simpa using hc.1) hlz rfl (lv_room (by rw [hsum]; exact hc.2)) hdg f2) kk
      · cases hm
    · rename_i mi n _
      split at hm
      · rename_i hc
        cases hm
        obtain ⟨m0, o1, o2, o5, o6, o7, o8⟩ := ho
        obtain rfl : m0 = qj := Option.some.inj (o1.symm.trans hM)
        obtain ⟨g1, g2, g3, g4, g5, g6⟩ := six o2
        have hst := ak_take (E := E) hc.1 rfl rfl
        rw [hst]
        refine ak_back J (ak_runSX (As := (S.take n).reverse.map (ak_cv E)) Sx hMet ⟨g1, g2, g3, g4, g5, g6, hts _ o2.1, hts _ o2.2.1, o2.2.2.1, o5⟩ ⟨bl, pre⟩ (hts _ o6) (hts _ o7) (hts _ o8) rfl (by simpa using hc.1) hlz rfl (lv_room (by rw [hsum]; exact hc.2)) hdg f2) kk
      · cases hm
    · cases hm
  all_goals (simp [ak_call] at hm)
end AKR
end
section
/-! runs -/
theorem ak_ent_in {E : ak_E} (hz : E.2.2.2.2.category = 1) : ∀ (as : List Value) (n i j : Nat) (u : Value), (ak_ent n as)[j]? = some (some u) → (i + j, ak_cv E u) ∈ lv_args i (as.map (ak_cv E))
  | [], n, i, j, u, h => by
    unfold ak_ent at h
    rw [List.getElem?_replicate] at h
    split at h <;> cases h
  | v :: r, n, i, j, u, h => by
    unfold ak_ent at h
    show _ ∈ (i, ak_cv E v) :: lv_args (if (ak_cv E v).category = 2 then i + 2 else i + 1) (r.map (ak_cv E))
    rw [ak_cat hz]
    split at h
    · rename_i hc
      rw [if_pos hc]
      match j, h with
      | 0, h =>
        rw [List.getElem?_cons_zero] at h
        cases h
        exact List.mem_cons_self
      | 1, h => rw [List.getElem?_cons_succ, List.getElem?_cons_zero] at h; cases h
      | j + 2, h =>
        rw [List.getElem?_cons_succ, List.getElem?_cons_succ] at h
        have := ak_ent_in hz r (n - 2) (i + 2) j u h
        rw [show i + 2 + j = i + (j + 2) by omega] at this
        exact List.mem_cons_of_mem _ this
    · rename_i hc
      rw [if_neg hc]
      match j, h with
      | 0, h =>
        rw [List.getElem?_cons_zero] at h
        cases h
        exact List.mem_cons_self
      | j + 1, h =>
        rw [List.getElem?_cons_succ] at h
        have := ak_ent_in hz r (n - 1) (i + 1) j u h
        rw [show i + 1 + j = i + (j + 1) by omega] at this
        exact List.mem_cons_of_mem _ this
theorem ak_ent_len {E : ak_E} (hz : E.2.2.2.2.category = 1) : ∀ (as : List Value) (n : Nat), (lg_sl (as.map (ak_cv E))).length ≤ (ak_ent n as).length
  | [], n => by simp [lg_sl]
  | v :: r, n => by
    have h1 := ak_ent_len hz r (n - 1)
    have h2 := ak_ent_len hz r (n - 2)
    have hv := ak_cat hz v
    have e : lg_sl ((v :: r).map (ak_cv E)) = (if (ak_cv E v).category = 2 then [Slot.val (ak_cv E v), Slot.second] else [Slot.val (ak_cv E v)]) ++ lg_sl (r.map (ak_cv E)) := by
      unfold lg_sl
      rw [List.map_cons, List.flatMap_cons]
    rw [e, List.length_append, hv]
    unfold ak_ent
    by_cases hc : v.category = 2
    · rw [if_pos hc, if_pos hc]
      simp only [List.length_cons, List.length_nil]
      omega
    · rw [if_neg hc, if_neg hc]
      simp only [List.length_cons, List.length_nil]
      omega
/-- a run's step -/
theorem ak_run_inv {Z : ak_Z} {n d mi pc : Nat} {L : ak_L} {S : List Value} {h hf : ak_H} {r : Option Value} (hr : ak_run Z (n + 1) d mi pc L S h = some (r, hf)) : ∃ (q : ak_Q) (ins : Instr) (w : Nat) (x : ak_X) (o : ak_O), ak_M[mi]? = some q ∧ q.2.2.2.2.1[pc]? = some (some (ins, w, x)) ∧ ak_step Z d q.2.2.2.2.2 (q.1.name == "<init>") q.2.2.2.1 ins w x pc L S h = some o ∧
    ((∃ pc' L' S' h', o = .inl (pc', L', S', h') ∧ ak_run Z n d mi pc' L' S' h' = some (r, hf)) ∨ (o = .inr (.inl r) ∧ hf = h) ∨
      ∃ mj as rest d' qj r1 h1, o = .inr (.inr (mj, as, rest)) ∧ d = d' + 1 ∧ ak_M[mj]? = some qj ∧ (ak_ent qj.2.2.1 as).length = qj.2.2.1 ∧ ak_run Z n d' mj 0 (ak_ent qj.2.2.1 as) [] h = some (r1, h1) ∧ ak_run Z n d mi (pc + 3) L (r1.toList ++ rest) h1 = some (r, hf)) := by
  rw [ak_run] at hr
  split at hr
  · cases hr
  · rename_i q hq
    split at hr
    · rename_i ins w x hi
      refine ⟨q, ins, w, x, ?_⟩
      split at hr
      · rename_i pc' L' S' h' hs
        exact ⟨_, hq, hi, hs, Or.inl ⟨_, _, _, _, rfl, hr⟩⟩
      · rename_i r' hs
        cases hr
        exact ⟨_, hq, hi, hs, Or.inr (Or.inl ⟨rfl, rfl⟩)⟩
      · rename_i mj as rest hs
        split at hr
        · cases hr
        · rename_i d'
          split at hr
          · cases hr
          · rename_i qj hqj
            split at hr
            · rename_i hlen
              split at hr
              · rename_i r1 h1 hrun
                exact ⟨_, hq, hi, hs, Or.inr (Or.inr ⟨_, _, _, _, _, _, _, rfl, rfl, hqj, hlen, hrun, hr⟩)⟩
              · cases hr
            · cases hr
      · cases hr
    · cases hr
theorem ak_step_grow {Z : ak_Z} {d own : Nat} {b : Bool} {rt : Option FieldType} {ins : Instr} {w pc : Nat} {x : ak_X} {L L' : ak_L} {S S' : List Value} {h h' : ak_H} {pc' : Nat} (hs : ak_step Z d own b rt ins w x pc L S h = some (.inl (pc', L', S', h'))) : ∃ l, h'.1 = h.1 ++ l := by
  unfold ak_step at hs
  split at hs
  · cases h1 : ak_stk ins x S with
    | none => rw [h1] at hs; cases hs
    | some a => rw [h1] at hs; cases hs; exact ⟨[], by simp⟩
  · cases h1 : ak_load ins L S with
    | none => rw [h1] at hs; cases hs
    | some a => rw [h1] at hs; cases hs; exact ⟨[], by simp⟩
  · cases h1 : ak_store ins L S with
    | none => rw [h1] at hs; cases hs
    | some a => rw [h1] at hs; cases hs; exact ⟨[], by simp⟩
  · split at hs
    · cases hs; exact ⟨[], by simp⟩
    · cases hs
  · cases h1 : ak_mem Z d own b ins x S h with
    | none => rw [h1] at hs; cases hs
    | some a => rw [h1] at hs; cases hs; exact ak_mem_grow h1
  · split at hs
    · rename_i a h1
      cases hs
      exact ak_mem_grow h1
    · cases h1 : ak_call ins x S h with
      | none => rw [h1] at hs; cases hs
      | some a => rw [h1] at hs; cases hs
  · cases h1 : ak_ret rt ins S with
    | none => rw [h1] at hs; cases hs
    | some a => rw [h1] at hs; cases hs
  · cases hs
theorem ak_run_grow {Z : ak_Z} : ∀ (n d mi pc : Nat) (L : ak_L) (S : List Value) (h : ak_H) (r : Option Value) (hf : ak_H), ak_run Z n d mi pc L S h = some (r, hf) → ∃ l, hf.1 = h.1 ++ l := by
  intro n
  induction n with
  | zero => intro d mi pc L S h r hf hr; rw [ak_run] at hr; cases hr
  | succ n ih =>
    intro d mi pc L S h r hf hr
    obtain ⟨q, ins, w, x, o, -, -, hs, ⟨pc', L', S', h', rfl, h2⟩ | ⟨rfl, rfl⟩ | ⟨mj, as, rest, d', qj, r1, h1, rfl, rfl, h3, -, h4, h5⟩⟩ := ak_run_inv hr
    · obtain ⟨l1, e1⟩ := ak_step_grow hs
      obtain ⟨l2, e2⟩ := ih _ _ _ _ _ _ _ _ h2
      exact ⟨l1 ++ l2, by rw [e2, e1, List.append_assoc]⟩
    · exact ⟨[], by simp⟩
    · obtain ⟨l1, e1⟩ := ih _ _ _ _ _ _ _ _ h4
      obtain ⟨l2, e2⟩ := ih _ _ _ _ _ _ _ _ h5
      exact ⟨l1 ++ l2, by rw [e2, e1, List.append_assoc]⟩
/-- whom a call calls -/
theorem ak_call_mok {own : String} {idx : Nat} {ins : Instr} {x : ak_X} {S as rest : List Value} {h : ak_H} {mj : Nat} (hx : ak_idx ins = some idx) (ho : ak_okr own idx x) (hm : ak_call ins x S h = some (mj, as, rest)) : ∃ m, ak_M[mj]? = some m ∧ ak_mok m := by
  cases ins
  case invokevirtual i =>
    simp only [ak_call] at hm
    split at hm
    · split at hm
      · cases hm
        obtain ⟨m0, k0, o1, o2, -⟩ := ho
        exact ⟨m0, o1, o2⟩
      · cases hm
    · split at hm
      · cases hm
        obtain ⟨m0, o1, o2, -⟩ := ho
        exact ⟨m0, o1, o2⟩
      · cases hm
    · split at hm
      · rename_i cc _
        split at hm
        · rename_i mi hfam
          split at hm
          · cases hm
            obtain ⟨z, z2, z3, z4, z5, z6, z7, zall⟩ := ho
            obtain ⟨m0, k0, o1, o2, -⟩ := zall cc _ hfam
            exact ⟨m0, o1, o2⟩
          · cases hm
        · cases hm
      · cases hm
    · cases hm
  case invokespecial i =>
    simp only [ak_call] at hm
    split at hm
    · split at hm
      · cases hm
        obtain ⟨m0, k0, o1, o2, -⟩ := ho
        exact ⟨m0, o1, o2⟩
      · cases hm
    · split at hm
      · split at hm
        · cases hm
          obtain ⟨m0, o1, o2, -⟩ := ho
          exact ⟨m0, o1, o2⟩
        · cases hm
      · cases hm
    · split at hm
      · split at hm
        · cases hm
          obtain ⟨m0, o1, o2, -⟩ := ho
          exact ⟨m0, o1, o2⟩
        · cases hm
      · cases hm
    · cases hm
  case invokestatic i =>
    simp only [ak_call] at hm
    split at hm
    · split at hm
      · cases hm
        obtain ⟨m0, o1, o2, -⟩ := ho
        exact ⟨m0, o1, o2⟩
      · cases hm
    · split at hm
      · cases hm
        obtain ⟨m0, o1, o2, -⟩ := ho
        exact ⟨m0, o1, o2⟩
      · cases hm
    · split at hm
      · cases hm
        obtain ⟨m0, o1, o2, -⟩ := ho
        exact ⟨m0, o1, o2⟩
      · cases hm
    · cases hm
  all_goals (simp [ak_call] at hm)
theorem ak_call_plain {q qj : ak_Q} {pc w : Nat} {ins : Instr} {x : ak_X} {S as rest : List Value} {h : ak_H} {mj : Nat} (hall : ak_mall q) (hi : q.2.2.2.2.1[pc]? = some (some (ins, w, x))) (hm : ak_call ins x S h = some (mj, as, rest)) (hM : ak_M[mj]? = some qj) : plainName qj.1.cls = true := by
  have hx : ∃ idx, ak_idx ins = some idx := by
    cases ins
    case invokevirtual i => exact ⟨i, rfl⟩
    case invokespecial i => exact ⟨i, rfl⟩
    case invokestatic i => exact ⟨i, rfl⟩
    all_goals (simp [ak_call] at hm)
  obtain ⟨idx, hx⟩ := hx
  obtain ⟨m0, o1, o2⟩ := ak_call_mok hx (hall.2.1 pc (ins, w, x) idx hi hx) hm
  obtain rfl : m0 = qj := Option.some.inj (o1.symm.trans hM)
  exact o2.2.2.2.1
section AKT
variable {l : Launch} {E : ak_E} {Z : ak_Z}
/-- what a run says of the machine, at any frame that stands so -/
def ak_Says (l : Launch) (E : ak_E) (Z : ak_Z) (d mi pc : Nat) (L : ak_L) (S : List Value) (h : ak_H) (r : Option Value) (hf : ak_H) : Prop :=
  ∀ (q : ak_Q), ak_M[mi]? = some q → ∀ (p : Program) (e : Env) (R : Room) (s : State) (m : MethodId) (args : Array Value) (below : List Frame) (meth : Method) (c : Code) (H : Heap) (locs : List Loc) (cells slots CM SM : Nat) (Q : State → Prop) (ls : Array Slot),
    ak_C E Z p s m args meth c q → ak_J E s h H locs → ak_ls E ls q.2.2.1 L → d ≤ R.frames → 40 * d ≤ R.locals → CM ≤ R.cells → SM ≤ R.slots → cells + hf.1.length = CM + h.1.length → slots + ak_nS hf = SM + ak_nS h →
    (∀ (pcR w : Nat) (ins : Instr) (x : ak_X) (lsR : Array Slot) (SR : List Value) (H1 : Heap) (locs1 : List Loc), decode q.2.1 pcR = .ok (ins, w) → ak_wd ins w = true → ak_ret q.2.2.2.1 ins SR = some r → ak_J E s hf H1 locs1 → W p l e R s m args below meth c H1 locs1 CM SM Q (F0 m pcR lsR (SR.map (ak_cv E)))) →
    W p l e R s m args below meth c H locs cells slots Q (F0 m pc ls (S.map (ak_cv E)))
set_option maxHeartbeats 4000000 in
/-- a callee's contract out of what its run says -/
theorem ak_Met_of {d mj : Nat} {qj : ak_Q} {as : List Value} {h h1 : ak_H} {r1 : Option Value} (hz : E.2.2.2.2.category = 1) (hM : ak_M[mj]? = some qj) (hpl : plainName qj.1.cls = true) (hlen : (ak_ent qj.2.2.1 as).length = qj.2.2.1) (hg : ∃ l, h1.1 = h.1 ++ l) (hs : ak_Says l E Z d mj 0 (ak_ent qj.2.2.1 as) [] h r1 h1) : ak_Met l E Z d qj as h r1 h1 := by
  refine Met.ofW (cc := qj.2.1) (maxL := qj.2.2.1) (ret := qj.2.2.2.1) hpl rfl ?_
  intro p e s m args below meth c s₁ B hml hv
  obtain ⟨rfl, hK, hG, hbs, hsz, hN, hP⟩ := hv
  have hx := B.exec
  have hb := B.bytes
  have hr := B.returns
  have hts0 := atoms_spec (ws := Cond.code qj.1 qj.2.1 qj.2.2.1 qj.2.2.2.1 :: ak_Ts) B.pre
  have hown : s.vm.findClass qj.1.cls = some m.cls := findClass_of_methodNamed B.named
  have hlocks := B.notSynchronized
  have hname : meth.name = qj.1.name := (name_of_methodNamed B.named B.method).1
  have hent := lv_entry (as.map (ak_cv E)) (n := qj.2.2.1) (by have := ak_ent_len (E := E) hz as qj.2.2.1; omega)
  rw [lg_entry_eq]
  have hls := ak_ls_of (E := E) (L := ak_ent qj.2.2.1 as) hent hlen (fun j u hj => by have := ak_ent_in (E := E) hz as qj.2.2.1 0 j u hj; rwa [Nat.zero_add] at this)
  obtain ⟨lx, e1⟩ := hg
  have e2 := ak_nS_app e1
  have e3 : h1.1.length = h.1.length + lx.length := by rw [e1]; simp
  refine hs qj hM p e _ s m _ below meth c s.heap [] 0 0 (h1.1.length - h.1.length) (ak_nS h1 - ak_nS h) _ _ ⟨hx, hb, hml, hown, fun w hw => hts0 w (List.mem_cons_of_mem _ hw), hK, hG, hbs, fun z => by rw [hname]; exact eq_of_beq z⟩ ⟨hsz, hN, hP, va_S.rf⟩ hls (Nat.le_refl _) (Nat.le_refl _) (Nat.le_refl _) (Nat.le_refl _) (by omega) (by omega) ?_
  intro pcR w ins x lsR SR H1 locs1 hdg hwd hret J1
  have hQ : ∀ t : State, t.heap = H1 → s.WarmedH t.vm → ak_Qc E r1 h1 (as.map (ak_cv E)).toArray s (.returned (r1.map (ak_cv E))) t := fun t ht hW => ⟨rfl, ⟨by rw [ht]; exact J1.1, J1.2.1, by rw [ht]; exact J1.2.2.1⟩, J1.2.2.2.F ht⟩
  unfold ak_ret at hret
  split at hret
  · rename_i v
    obtain rfl : w = 1 := by simpa [ak_wd] using hwd
    split at hret
    · rename_i hrt
      cases hret
      exact W.iret hx hb (hr.trans hrt) hQ J1.2.2.2.2.2 hdg
    · rename_i hrt
      split at hret
      · rename_i hv
        cases hret
        exact W.zret hx hb (hr.trans hrt) (by rcases hv with rfl | rfl <;> rfl) hQ J1.2.2.2.2.2 hdg
      · cases hret
    · rename_i hrt
      split at hret
      · rename_i hv
        cases hret
        exact W.zret hx hb (hr.trans hrt) hv hQ J1.2.2.2.2.2 hdg
      · cases hret
    · rename_i hrt
      split at hret
      · rename_i hv
        cases hret
        exact W.zret hx hb (hr.trans hrt) hv hQ J1.2.2.2.2.2 hdg
      · cases hret
    · cases hret
  · rename_i v
    obtain rfl : w = 1 := by simpa [ak_wd] using hwd
    split at hret
    · rename_i hrt
      cases hret
      exact W.lret hx hb (hr.trans hrt) hQ J1.2.2.2.2.2 hdg
    · cases hret
  · rename_i v
    obtain rfl : w = 1 := by simpa [ak_wd] using hwd
    split at hret
    · rename_i hrt
      cases hret
      exact W.aret hx hb (hr.trans hrt) (Or.inl ⟨_, rfl⟩) (Or.inr ⟨_, rfl⟩) hQ J1.2.2.2.2.2 hdg
    · rename_i hrt
      cases hret
      exact W.aret hx hb (hr.trans hrt) (Or.inr ⟨_, rfl⟩) (Or.inr ⟨_, rfl⟩) hQ J1.2.2.2.2.2 hdg
    · cases hret
  · obtain rfl : w = 1 := by simpa [ak_wd] using hwd
    split at hret
    · rename_i hrt
      cases hret
      exact W.vret hx hb (hr.trans hrt) hQ J1.2.2.2.2.2 hdg
    · cases hret
  · cases hret
set_option maxHeartbeats 8000000 in
/-- THE SMALL MACHINE SAYS WHAT THE BYTECODE DOES -/
theorem ak_sound : ∀ (n d mi pc : Nat) (L : ak_L) (S : List Value) (h : ak_H) (r : Option Value) (hf : ak_H), ak_run Z n d mi pc L S h = some (r, hf) → ak_Says l E Z d mi pc L S h r hf := by
  intro n
  induction n with
  | zero => intro d mi pc L S h r hf hr; rw [ak_run] at hr; cases hr
  | succ n ih =>
    intro d mi pc L S h r hf hr q0 hq0 p e R s m args below meth c H locs cells slots CM SM Q ls C J hls hdf hdl hCM hSM hcs hss hend
    obtain ⟨q, ins, w, x, o, hq, hi, hs, hor⟩ := ak_run_inv hr
    obtain rfl : q = q0 := Option.some.inj (hq.symm.trans hq0)
    have hall := ak_all q (List.mem_of_getElem? hq)
    have hz : E.2.2.2.2.category = 1 := C.2.2.2.2.2.2.1.2.2.2.2.2.2.2
    obtain ⟨hdg, hwd⟩ := ak_chk_at _ _ hall.1 pc _ hi
    rw [Nat.zero_add] at hdg
    dsimp only at hdg hwd
    have hok : ∀ i, ak_idx ins = some i → ak_okr q.1.cls i x := fun i hx => hall.2.1 pc (ins, w, x) i hi hx
    have hlz : ls.size = q.2.2.1 := hls.1.1
    have mem : ∀ {S' : List Value} {h' : ak_H}, ak_mem Z d q.2.2.2.2.2 (q.1.name == "<init>") ins x S h = some (S', h') → ak_run Z n d mi (pc + w) L S' h' = some (r, hf) → W p l e R s m args below meth c H locs cells slots Q (F0 m pc ls (S.map (ak_cv E))) := by
      intro S' h' hm h2
      obtain ⟨l1, e1⟩ := ak_mem_grow hm
      obtain ⟨l2, e2⟩ := ak_run_grow _ _ _ _ _ _ _ _ _ h2
      have e3 := ak_nS_app e1
      have e4 := ak_nS_app e2
      have e5 : h'.1.length = h.1.length + l1.length := by rw [e1]; simp
      have e6 : hf.1.length = h'.1.length + l2.length := by rw [e2]; simp
      cases hnew : ak_new ins with
      | false =>
        refine ak_mem_ok C hall J hnew hdg hwd hok hdf hdl (by omega) (by omega) hlz hm (fun H1 locs1 h1 J1 => ?_)
        have e7 : ak_nS h' = ak_nS h := by unfold ak_nS; rw [h1]
        exact ih _ _ _ _ _ _ _ _ h2 q hq0 p e R s m args below meth c H1 locs1 cells slots CM SM Q ls C J1 hls hdf hdl hCM hSM (by rw [h1]; exact hcs) (by rw [e7]; exact hss) hend
      | true =>
        refine ak_new_ok C J hnew hdg hwd hok hm (by omega) (by omega) (fun H1 J1 => ?_)
        exact ih _ _ _ _ _ _ _ _ h2 q hq0 p e R s m args below meth c H1 locs _ _ CM SM Q ls C J1 hls hdf hdl hCM hSM (by omega) (by omega) hend
    have next : ∀ {H1 : Heap} {locs1 : List Loc} {ls1 : Array Slot} {pc' : Nat} {L' : ak_L} {S' : List Value}, ak_J E s h H1 locs1 → ak_ls E ls1 q.2.2.1 L' → ak_run Z n d mi pc' L' S' h = some (r, hf) → W p l e R s m args below meth c H1 locs1 cells slots Q (F0 m pc' ls1 (S'.map (ak_cv E))) := fun J1 hl1 h2 => ih _ _ _ _ _ _ _ _ h2 q hq0 p e R s m args below meth c _ _ cells slots CM SM Q _ C J1 hl1 hdf hdl hCM hSM hcs hss hend
    unfold ak_step at hs
    split at hs
    · cases h1 : ak_stk ins x S with
      | none => rw [h1] at hs; cases hs
      | some a =>
        rw [h1] at hs
        cases hs
        rcases hor with ⟨pc', L', S', h', e1, h2⟩ | ⟨e1, -⟩ | ⟨mj, as, rest, d', qj, r1, h1', e1, -⟩
        · cases e1
          exact ak_stk_ok C hdg hwd hok h1 (next J hls h2)
        · cases e1
        · cases e1
    · cases h1 : ak_load ins L S with
      | none => rw [h1] at hs; cases hs
      | some a =>
        rw [h1] at hs
        cases hs
        rcases hor with ⟨pc', L', S', h', e1, h2⟩ | ⟨e1, -⟩ | ⟨mj, as, rest, d', qj, r1, h1', e1, -⟩
        · cases e1
          exact ak_load_ok C hdg hwd hls h1 (next J hls h2)
        · cases e1
        · cases e1
    · cases h1 : ak_store ins L S with
      | none => rw [h1] at hs; cases hs
      | some a =>
        rw [h1] at hs
        cases hs
        rcases hor with ⟨pc', L', S', h', e1, h2⟩ | ⟨e1, -⟩ | ⟨mj, as, rest, d', qj, r1, h1', e1, -⟩
        · cases e1
          exact ak_store_ok C hdg hwd hls h1 (fun ls' hl' => next J hl' h2)
        · cases e1
        · cases e1
    · split at hs
      · rename_i t S' h1
        cases hs
        rcases hor with ⟨pc', L', S', h', e1, h2⟩ | ⟨e1, -⟩ | ⟨mj, as, rest, d', qj, r1, h1', e1, -⟩
        · cases e1
          exact ak_jump_ok C hdg hwd h1 (next J hls h2)
        · cases e1
        · cases e1
      · cases hs
    · cases h1 : ak_mem Z d q.2.2.2.2.2 (q.1.name == "<init>") ins x S h with
      | none => rw [h1] at hs; cases hs
      | some a =>
        rw [h1] at hs
        cases hs
        rcases hor with ⟨pc', L', S', h', e1, h2⟩ | ⟨e1, -⟩ | ⟨mj, as, rest, d', qj, r1, h1', e1, -⟩
        · cases e1
          exact mem h1 h2
        · cases e1
        · cases e1
    · split at hs
      · rename_i a h1
        cases hs
        rcases hor with ⟨pc', L', S', h', e1, h2⟩ | ⟨e1, -⟩ | ⟨mj, as, rest, d', qj, r1, h1', e1, -⟩
        · cases e1
          exact mem h1 h2
        · cases e1
        · cases e1
      · cases h1 : ak_call ins x S h with
        | none => rw [h1] at hs; cases hs
        | some a =>
          rw [h1] at hs
          cases hs
          rcases hor with ⟨pc', L', S', h', e1, h2⟩ | ⟨e1, -⟩ | ⟨mj, as, rest, d', qj, r1, hc1, e1, e2, h3, hlen, h4, h5⟩
          · cases e1
          · cases e1
          · cases e1
            subst e2
            obtain ⟨l1, g1⟩ := ak_run_grow _ _ _ _ _ _ _ _ _ h4
            obtain ⟨l2, g2⟩ := ak_run_grow _ _ _ _ _ _ _ _ _ h5
            have g3 := ak_nS_app g1
            have g4 := ak_nS_app g2
            have g5 : hc1.1.length = h.1.length + l1.length := by rw [g1]; simp
            have g6 : hf.1.length = hc1.1.length + l2.length := by rw [g2]; simp
            have hpl : plainName qj.1.cls = true := ak_call_plain hall hi h1 h3
            have hMet := ak_Met_of (l := l) hz h3 hpl hlen ⟨l1, g1⟩ (ih _ _ _ _ _ _ _ _ h4)
            refine ak_call_ok C J hdg hwd hok hdf hdl hlz h1 h3 hMet (by omega) (by omega) (fun H1 locs1 J1 => ?_)
            exact ih _ _ _ _ _ _ _ _ h5 q hq0 p e R s m args below meth c H1 locs1 _ _ CM SM Q ls C J1 hls hdf hdl hCM hSM (by omega) (by omega) hend
    · cases h1 : ak_ret q.2.2.2.1 ins S with
      | none => rw [h1] at hs; cases hs
      | some a =>
        rw [h1] at hs
        cases hs
        rcases hor with ⟨pc', L', S', h', e1, h2⟩ | ⟨e1, rfl⟩ | ⟨mj, as, rest, d', qj, r1, h1', e1, -⟩
        · cases e1
        · cases e1
          obtain rfl : cells = CM := by omega
          obtain rfl : slots = SM := by omega
          exact hend pc w ins x ls S H locs hdg hwd h1 J
        · cases e1
    · cases hs
end AKT
end
section
/-! rules: what is enough that a run ends well; the heap once both objects are made -/
def mm_SH : List ak_K := [.inl 11, .inl 8, .inr (0, 4), .inr (0, 4), .inr (0, 4), .inr (0, 4), .inr (0, 4), .inr (0, 4), .inr (0, 4), .inl 8, .inr (0, 4), .inr (0, 4), .inr (0, 4), .inr (0, 4), .inr (0, 4), .inr (0, 4), .inr (0, 4), .inl 8, .inr (0, 4), .inr (0, 4), .inr (0, 4), .inr (0, 4), .inr (0, 4), .inr (0, 4), .inr (0, 4), .inr (0, 160), .inl 6, .inr (2, 6), .inr (3, 6), .inl 3, .inl 4, .inl 9, .inl 2, .inl 1, .inl 0, .inr (0, 6), .inr (0, 160), .inl 10, .inr (0, 160), .inr (0, 3), .inl 10, .inr (0, 160), .inr (0, 3), .inl 10, .inr (0, 160), .inr (0, 3), .inl 10, .inr (0, 160), .inr (0, 3), .inl 10, .inr (0, 160), .inr (0, 3), .inl 10, .inr (0, 160), .inr (0, 3), .inl 5, .inr (0, 36), .inr (0, 36), .inr (1, 36), .inr (1, 16), .inr (0, 8), .inr (0, 4), .inr (0, 4), .inr (0, 5), .inr (4, 4), .inl 7, .inr (0, 40), .inl 7, .inr (0, 40), .inl 7, .inr (0, 40), .inl 7, .inr (0, 40), .inl 12, .inr (0, 960), .inr (0, 6), .inr (0, 160), .inr (0, 3), .inr (0, 4), .inr (0, 20), .inr (0, 4), .inr (1, 36), .inr (0, 36), .inr (0, 36), .inr (0, 4), .inr (0, 4), .inr (0, 3), .inr (0, 20), .inr (0, 4), .inr (1, 4), .inr (0, 4), .inr (0, 4), .inr (0, 160)]
def mm_RT : List (List (Option Nat)) := [[some 1, some 9, some 17, none, some 25, none, some 26, some 55, some 64], [none, none, none, none, none, some 2, some 3, some 4, some 5, some 6, some 7, some 8], [], [], [], [], [], [], [], [none, none, none, none, none, some 10, some 11, some 12, some 13, some 14, some 15, some 16], [], [], [], [], [], [], [], [none, none, none, none, none, some 18, some 19, some 20, some 21, some 22, some 23, some 24], [], [], [], [], [], [], [], [], [none, some 27, some 28, some 35, some 36], [some 37, some 40, some 43, some 46, some 49, some 52], [some 29, some 30, some 31, some 32, some 33, some 34], [], [], [], [], [], [], [], [], [some 38, some 39, none, none, some 25], [], [], [some 41, some 42, none, none, some 25], [], [], [some 44, some 45, none, none, some 25], [], [], [some 47, some 48, none, none, some 25], [], [], [some 50, some 51, none, none, some 25], [], [], [some 53, some 54, none, none, some 25], [], [], [some 26, some 1, some 56, some 57, some 58, some 59, some 60, some 61, some 62, some 63], [], [], [], [], [], [], [], [], [some 65, some 67, some 69, some 71], [none, none, some 66], [], [none, none, some 68], [], [none, none, some 70], [], [none, none, some 72], [], [none, some 74, some 75, none, none, some 76, none, some 77, some 78, some 79, some 80, none, none, none, none, none, none, none, none, none, none, none, none, none, none, none, none, some 81, some 82, some 83, some 84, none, none, none, some 85, some 86, some 87, some 88, none, none, some 89, some 90, some 91, some 92], [], [], [], [], [], [], [], [], [], [], [], [], [], [], [], [], [], [], []]
/-- the heap's numbers, the planner's shop, the one long -/
abbrev mm_M : Type := (Nat → Nat → Int32) × Nat × Int64
def mm_R (p : Nat) : Nat → Nat → Option Nat := ak_up (fun i j => (mm_RT.getD i []).getD j none) 55 1 (some p)
def mm_J (t : Int64) : Nat → Nat → Int64 := fun a b => if a = 73 ∧ b = 23 then t else 0
def mm_H (M : mm_M) : ak_H := (mm_SH, M.1, mm_J M.2.2, mm_R M.2.1)
theorem mm_R_up (p v : Nat) : ak_up (mm_R p) 55 1 (some v) = mm_R v := by
  funext a b
  unfold mm_R ak_up
  by_cases h : a = 55 ∧ b = 1
  · simp [h]
  · simp [h]
theorem mm_J_up (t v : Int64) : ak_up (mm_J t) 73 23 v = mm_J v := by
  funext a b
  unfold mm_J ak_up
  by_cases h : a = 73 ∧ b = 23
  · simp [h]
  · simp [h]
theorem ak_inb_lt {i : Int32} {n : Nat} (h : ak_inb i n = true) : i.toNatClampNeg < n := by
  unfold ak_inb at h
  simp only [Bool.and_eq_true, decide_eq_true_eq] at h
  exact h.2
/-- from here a run ends with Q -/
def Ev (Z : ak_Z) (d mi pc : Nat) (L : ak_L) (S : List Value) (h : ak_H) (Q : Option Value → ak_H → Prop) : Prop := ∃ (n : Nat) (r : Option Value) (h' : ak_H), ak_run Z n d mi pc L S h = some (r, h') ∧ Q r h'
section FW
variable {Z : ak_Z} {n d mi pc w : Nat} {L : ak_L} {S : List Value} {h : ak_H} {q : ak_Q} {ins : Instr} {x : ak_X}
theorem ak_run_next (hM : ak_M[mi]? = some q) (hI : q.2.2.2.2.1[pc]? = some (some (ins, w, x))) {pc' : Nat} {L' : ak_L} {S' : List Value} {h' : ak_H} (hs : ak_step Z d q.2.2.2.2.2 (q.1.name == "<init>") q.2.2.2.1 ins w x pc L S h = some (.inl (pc', L', S', h'))) : ak_run Z (n + 1) d mi pc L S h = ak_run Z n d mi pc' L' S' h' := by
  rw [ak_run]
  simp only [hM, hI, hs]
theorem ak_run_ret (hM : ak_M[mi]? = some q) (hI : q.2.2.2.2.1[pc]? = some (some (ins, w, x))) {r : Option Value} (hs : ak_step Z d q.2.2.2.2.2 (q.1.name == "<init>") q.2.2.2.1 ins w x pc L S h = some (.inr (.inl r))) : ak_run Z (n + 1) d mi pc L S h = some (r, h) := by
  rw [ak_run]
  simp only [hM, hI, hs]
theorem ak_run_call (hM : ak_M[mi]? = some q) (hI : q.2.2.2.2.1[pc]? = some (some (ins, w, x))) {mj : Nat} {as rest : List Value} (hs : ak_step Z (d + 1) q.2.2.2.2.2 (q.1.name == "<init>") q.2.2.2.1 ins w x pc L S h = some (.inr (.inr (mj, as, rest)))) {qj : ak_Q} (hMj : ak_M[mj]? = some qj) (hl : (ak_ent qj.2.2.1 as).length = qj.2.2.1) {r : Option Value} {h1 : ak_H} (hr : ak_run Z n d mj 0 (ak_ent qj.2.2.1 as) [] h = some (r, h1)) : ak_run Z (n + 1) (d + 1) mi pc L S h = ak_run Z n (d + 1) mi (pc + 3) L (r.toList ++ rest) h1 := by
  rw [ak_run]
  simp only [hM, hI, hs, hMj]
  rw [if_pos hl, hr]
end FW
theorem ak_run_more {Z : ak_Z} : ∀ (n d mi pc : Nat) (L : ak_L) (S : List Value) (h : ak_H) (r : Option Value) (hf : ak_H), ak_run Z n d mi pc L S h = some (r, hf) → ∀ k, ak_run Z (n + k) d mi pc L S h = some (r, hf) := by
  intro n
  induction n with
  | zero => intro d mi pc L S h r hf hr; rw [ak_run] at hr; cases hr
  | succ n ih =>
    intro d mi pc L S h r hf hr k
    rw [show n + 1 + k = (n + k) + 1 by omega]
    obtain ⟨q, ins, w, x, o, hq, hi, hs, ⟨pc', L', S', h', rfl, h2⟩ | ⟨rfl, rfl⟩ | ⟨mj, as, rest, d', qj, r1, h1, rfl, rfl, h3, hlen, h4, h5⟩⟩ := ak_run_inv hr
    · rw [ak_run_next hq hi hs]
      exact ih _ _ _ _ _ _ _ _ h2 k
    · exact ak_run_ret hq hi hs
    · rw [ak_run_call hq hi hs h3 hlen (ih _ _ _ _ _ _ _ _ h4 k)]
      exact ih _ _ _ _ _ _ _ _ h5 k
section EV
variable {Z : ak_Z} {d mi pc w : Nat} {L : ak_L} {S : List Value} {h : ak_H} {Q : Option Value → ak_H → Prop} {q : ak_Q} {ins : Instr} {x : ak_X}
theorem e_step (hM : ak_M[mi]? = some q) (hI : q.2.2.2.2.1[pc]? = some (some (ins, w, x))) {pc' : Nat} {L' : ak_L} {S' : List Value} {h' : ak_H} (hs : ak_step Z d q.2.2.2.2.2 (q.1.name == "<init>") q.2.2.2.1 ins w x pc L S h = some (.inl (pc', L', S', h'))) (kk : Ev Z d mi pc' L' S' h' Q) : Ev Z d mi pc L S h Q := by
  obtain ⟨n, r, h1, h2, h3⟩ := kk
  exact ⟨n + 1, r, h1, by rw [ak_run_next hM hI hs]; exact h2, h3⟩
theorem e_ret (hM : ak_M[mi]? = some q) (hI : q.2.2.2.2.1[pc]? = some (some (ins, w, x))) {r : Option Value} (hs : ak_step Z d q.2.2.2.2.2 (q.1.name == "<init>") q.2.2.2.1 ins w x pc L S h = some (.inr (.inl r))) (kk : Q r h) : Ev Z d mi pc L S h Q :=
  ⟨1, r, h, ak_run_ret hM hI hs, kk⟩
theorem e_call (hM : ak_M[mi]? = some q) (hI : q.2.2.2.2.1[pc]? = some (some (ins, w, x))) {mj : Nat} {as rest : List Value} (hs : ak_step Z (d + 1) q.2.2.2.2.2 (q.1.name == "<init>") q.2.2.2.1 ins w x pc L S h = some (.inr (.inr (mj, as, rest)))) {qj : ak_Q} (hMj : ak_M[mj]? = some qj) {Lj : ak_L} (hL : ak_ent qj.2.2.1 as = Lj) (hl : Lj.length = qj.2.2.1)
    (kk : Ev Z d mj 0 Lj [] h (fun r h1 => Ev Z (d + 1) mi (pc + 3) L (r.toList ++ rest) h1 Q)) : Ev Z (d + 1) mi pc L S h Q := by
  subst hL
  obtain ⟨n, r, h1, h2, n2, r2, h3, h4, h5⟩ := kk
  refine ⟨n + n2 + 1, r2, h3, ?_, h5⟩
  have := ak_run_more _ _ _ _ _ _ _ _ _ h4 n
  rw [Nat.add_comm n2 n] at this
  rw [ak_run_call hM hI hs hMj hl (ak_run_more _ _ _ _ _ _ _ _ _ h2 n2)]
  exact this
/-- known locals may be forgotten -/
def ak_lf : ak_L → ak_L → Prop
  | [], [] => True
  | a' :: t', a :: t => (a' = a ∨ a' = none) ∧ ak_lf t' t
  | _, _ => False
def ak_le (L' L : ak_L) : Prop := L'.length = L.length ∧ ∀ (i : Nat) (v : Value), L'[i]? = some (some v) → L[i]? = some (some v)
theorem ak_lf_le : ∀ {L' L : ak_L}, ak_lf L' L → ak_le L' L
  | [], [], _ => ⟨rfl, fun i v h => h⟩
  | a' :: t', a :: t, h => by
    obtain ⟨h1, h2⟩ := ak_lf_le h.2
    refine ⟨by simp [h1], fun i v hi => ?_⟩
    cases i with
    | zero =>
      rw [List.getElem?_cons_zero] at hi ⊢
      cases hi
      rcases h.1 with e | e
      · rw [← e]
      · cases e
    | succ i =>
      rw [List.getElem?_cons_succ] at hi ⊢
      exact h2 i v hi
theorem ak_le_at {L' L : ak_L} {k : Nat} {v : Value} (h : ak_le L' L) (hk : L'[k]? = some (some v)) : L[k]? = some (some v) := h.2 k v hk
theorem ak_le_set {L' L : ak_L} (k : Nat) (o : Option Value) (h : ak_le L' L) : ak_le (L'.set k o) (L.set k o) := by
  refine ⟨by simp [h.1], fun i v hi => ?_⟩
  by_cases hik : i = k
  · subst hik
    have hl : i < L'.length := by simpa using (List.getElem?_eq_some_iff.mp hi).1
    rw [List.getElem?_set_self hl] at hi
    rw [List.getElem?_set_self (by rw [← h.1]; exact hl)]
    exact hi
  · rw [List.getElem?_set_ne (Ne.symm hik)] at hi ⊢
    exact h.2 i v hi
theorem ak_le_kill {L' L : ak_L} (k : Nat) (h : ak_le L' L) : ak_le (ak_kill L' k) (ak_kill L k) :=
  ⟨by rw [ak_kill_len, ak_kill_len]; exact h.1, fun i v hi => ak_kill_at.mpr ⟨h.2 i v (ak_kill_at.mp hi).1, (ak_kill_at.mp hi).2⟩⟩
theorem ak_le_load {L' L : ak_L} (hl : ak_le L' L) {S S' : List Value} (h : ak_load ins L' S = some S') : ak_load ins L S = some S' := by
  have hi : ∀ {k : Nat}, ak_ldi L' k S = some S' → ak_ldi L k S = some S' := by
    intro k hk
    obtain ⟨v, e, rfl⟩ := ak_ldi_ok hk
    unfold ak_ldi
    rw [ak_le_at hl e]
  have hj : ∀ {k : Nat}, ak_ldl L' k S = some S' → ak_ldl L k S = some S' := by
    intro k hk
    obtain ⟨v, e, rfl⟩ := ak_ldl_ok hk
    unfold ak_ldl
    rw [ak_le_at hl e]
  have ha : ∀ {k : Nat}, ak_lda L' k S = some S' → ak_lda L k S = some S' := by
    intro k hk
    obtain ⟨v, e, rfl⟩ := ak_lda_ok hk
    unfold ak_lda
    rw [ak_le_at hl e]
  unfold ak_load at h ⊢
  split at h <;> first | exact hi h | exact hj h | exact ha h | cases h
theorem ak_le_store {L' L : ak_L} (hl : ak_le L' L) {S : List Value} {t' : ak_L × List Value} (h : ak_store ins L' S = some t') : ∃ t, ak_store ins L S = some t ∧ ak_le t'.1 t.1 ∧ t.2 = t'.2 := by
  have s1 : ∀ {k : Nat} {v : Value} {l' : ak_L}, ak_st1 L' k v = some l' → ∃ l, ak_st1 L k v = some l ∧ ak_le l' l := by
    intro k v l' e
    unfold ak_st1 at e ⊢
    split at e
    · rename_i hc
      cases e
      exact ⟨_, if_pos (by rw [← hl.1]; exact hc), ak_le_set k _ (ak_le_kill k hl)⟩
    · cases e
  have s2 : ∀ {k : Nat} {v : Value} {l' : ak_L}, ak_st2 L' k v = some l' → ∃ l, ak_st2 L k v = some l ∧ ak_le l' l := by
    intro k v l' e
    unfold ak_st2 at e ⊢
    split at e
    · rename_i hc
      cases e
      exact ⟨_, if_pos (by rw [← hl.1]; exact hc), ak_le_set _ _ (ak_le_set k _ (ak_le_kill k hl))⟩
    · cases e
  have hi : ∀ {k : Nat}, ak_stoi L' k S = some t' → ∃ t, ak_stoi L k S = some t ∧ ak_le t'.1 t.1 ∧ t.2 = t'.2 := by
    intro k hk
    obtain ⟨v, rfl, e⟩ := ak_stoi_ok hk
    obtain ⟨l, e1, e2⟩ := s1 e
    exact ⟨(l, t'.2), by unfold ak_stoi; simp [e1], e2, rfl⟩
  have hj : ∀ {k : Nat}, ak_stol L' k S = some t' → ∃ t, ak_stol L k S = some t ∧ ak_le t'.1 t.1 ∧ t.2 = t'.2 := by
    intro k hk
    obtain ⟨v, rfl, e⟩ := ak_stol_ok hk
    obtain ⟨l, e1, e2⟩ := s2 e
    exact ⟨(l, t'.2), by unfold ak_stol; simp [e1], e2, rfl⟩
  have ha : ∀ {k : Nat}, ak_stoa L' k S = some t' → ∃ t, ak_stoa L k S = some t ∧ ak_le t'.1 t.1 ∧ t.2 = t'.2 := by
    intro k hk
    obtain ⟨v, rfl, e⟩ := ak_stoa_ok hk
    obtain ⟨l, e1, e2⟩ := s1 e
    exact ⟨(l, t'.2), by unfold ak_stoa; simp [e1], e2, rfl⟩
  unfold ak_store at h ⊢
  split at h
  · exact hi h
  · exact hi h
  · exact hj h
  · exact hj h
  · exact ha h
  · exact ha h
  · split at h
    · rename_i v e
      cases e1 : ak_st1 L' _ (.int (v + Int32.ofInt _)) with
      | none => rw [e1] at h; cases h
      | some l' =>
        rw [e1] at h
        cases h
        obtain ⟨l, g1, g2⟩ := s1 e1
        exact ⟨(l, S), by rw [ak_le_at hl e]; simp [g1], g2, rfl⟩
    · cases h
  · cases h
theorem ak_step_le {d own : Nat} {b : Bool} {rt : Option FieldType} {L' : ak_L} (hl : ak_le L' L) {pc' : Nat} {L1' : ak_L} {S' : List Value} {h' : ak_H} (hs : ak_step Z d own b rt ins w x pc L' S h = some (.inl (pc', L1', S', h'))) : ∃ L1, ak_step Z d own b rt ins w x pc L S h = some (.inl (pc', L1, S', h')) ∧ ak_le L1' L1 := by
  unfold ak_step at hs ⊢
  split at hs
  · cases e : ak_stk ins x S with
    | none => rw [e] at hs; cases hs
    | some a => rw [e] at hs; cases hs; exact ⟨L, rfl, hl⟩
  · cases e : ak_load ins L' S with
    | none => rw [e] at hs; cases hs
    | some a => rw [e] at hs; cases hs; exact ⟨L, by rw [ak_le_load hl e]; rfl, hl⟩
  · cases e : ak_store ins L' S with
    | none => rw [e] at hs; cases hs
    | some a =>
      rw [e] at hs
      cases hs
      obtain ⟨t, e1, e2, e3⟩ := ak_le_store hl e
      exact ⟨t.1, by rw [e1, ← e3]; rfl, e2⟩
  · split at hs
    · cases hs
      exact ⟨L, rfl, hl⟩
    · cases hs
  · cases e : ak_mem Z d own b ins x S h with
    | none => rw [e] at hs; cases hs
    | some a => rw [e] at hs; cases hs; exact ⟨L, rfl, hl⟩
  · split at hs
    · cases hs
      exact ⟨L, rfl, hl⟩
    · cases e : ak_call ins x S h with
      | none => rw [e] at hs; cases hs
      | some a => rw [e] at hs; cases hs
  · cases e : ak_ret rt ins S with
    | none => rw [e] at hs; cases hs
    | some a => rw [e] at hs; cases hs
  · cases hs
theorem ak_step_le2 {d own : Nat} {b : Bool} {rt : Option FieldType} {L' : ak_L} {o : Option Value ⊕ (Nat × List Value × List Value)} (hs : ak_step Z d own b rt ins w x pc L' S h = some (.inr o)) : ak_step Z d own b rt ins w x pc L S h = some (.inr o) := by
  unfold ak_step at hs ⊢
  split at hs
  · cases e : ak_stk ins x S with
    | none => rw [e] at hs; cases hs
    | some a => rw [e] at hs; cases hs
  · cases e : ak_load ins L' S with
    | none => rw [e] at hs; cases hs
    | some a => rw [e] at hs; cases hs
  · cases e : ak_store ins L' S with
    | none => rw [e] at hs; cases hs
    | some a => rw [e] at hs; cases hs
  · split at hs <;> cases hs
  · cases e : ak_mem Z d own b ins x S h with
    | none => rw [e] at hs; cases hs
    | some a => rw [e] at hs; cases hs
  · split at hs
    · cases hs
    · exact hs
  · exact hs
  · cases hs
theorem ak_run_le : ∀ (n d mi pc : Nat) (L' L : ak_L) (S : List Value) (h : ak_H) (r : Option Value) (hf : ak_H), ak_le L' L → ak_run Z n d mi pc L' S h = some (r, hf) → ak_run Z n d mi pc L S h = some (r, hf) := by
  intro n
  induction n with
  | zero => intro d mi pc L' L S h r hf hl hr; rw [ak_run] at hr; cases hr
  | succ n ih =>
    intro d mi pc L' L S h r hf hl hr
    obtain ⟨q, ins, w, x, o, hq, hi, hs, ⟨pc', L1', S', h', rfl, h2⟩ | ⟨rfl, rfl⟩ | ⟨mj, as, rest, d', qj, r1, h1, rfl, rfl, h3, hlen, h4, h5⟩⟩ := ak_run_inv hr
    · obtain ⟨L1, e1, e2⟩ := ak_step_le hl hs
      rw [ak_run_next hq hi e1]
      exact ih _ _ _ _ _ _ _ _ _ e2 h2
    · exact ak_run_ret hq hi (ak_step_le2 hs)
    · rw [ak_run_call hq hi (ak_step_le2 hs) h3 hlen h4]
      exact ih _ _ _ _ _ _ _ _ _ hl h5
theorem e_forget {L' : ak_L} (hl : ak_lf L' L) (kk : Ev Z d mi pc L' S h Q) : Ev Z d mi pc L S h Q := by
  obtain ⟨n, r, h1, h2, h3⟩ := kk
  exact ⟨n, r, h1, ak_run_le _ _ _ _ _ _ _ _ _ _ (ak_lf_le hl) h2, h3⟩
theorem e_post {Q' : Option Value → ak_H → Prop} (hq : ∀ r h', Q' r h' → Q r h') (kk : Ev Z d mi pc L S h Q') : Ev Z d mi pc L S h Q := by
  obtain ⟨n, r, h1, h2, h3⟩ := kk
  exact ⟨n, r, h1, h2, hq _ _ h3⟩
end EV

def mm_is8 (r : Nat) : Bool := r == 1 || r == 9 || r == 17
theorem mm_in8 {r : Nat} (h : mm_is8 r = true) : r = 1 ∨ r = 9 ∨ r = 17 := by
  simpa [mm_is8, Bool.or_eq_true, or_assoc] using h
theorem mm_cl8 {r : Nat} (h : mm_is8 r = true) : mm_SH[r]? = some (.inl 8) := by
  rcases mm_in8 h with rfl | rfl | rfl <;> rfl
theorem mm_rf8_5 {p r : Nat} (h : mm_is8 r = true) : mm_R p r 5 = some (r + 1) := by
  rcases mm_in8 h with rfl | rfl | rfl <;> rfl
theorem mm_ar8_5 {r : Nat} (h : mm_is8 r = true) : mm_SH[r + 1]? = some (.inr (0, 4)) := by
  rcases mm_in8 h with rfl | rfl | rfl <;> rfl
theorem mm_rf8_6 {p r : Nat} (h : mm_is8 r = true) : mm_R p r 6 = some (r + 2) := by
  rcases mm_in8 h with rfl | rfl | rfl <;> rfl
theorem mm_ar8_6 {r : Nat} (h : mm_is8 r = true) : mm_SH[r + 2]? = some (.inr (0, 4)) := by
  rcases mm_in8 h with rfl | rfl | rfl <;> rfl
theorem mm_rf8_7 {p r : Nat} (h : mm_is8 r = true) : mm_R p r 7 = some (r + 3) := by
  rcases mm_in8 h with rfl | rfl | rfl <;> rfl
theorem mm_ar8_7 {r : Nat} (h : mm_is8 r = true) : mm_SH[r + 3]? = some (.inr (0, 4)) := by
  rcases mm_in8 h with rfl | rfl | rfl <;> rfl
theorem mm_rf8_8 {p r : Nat} (h : mm_is8 r = true) : mm_R p r 8 = some (r + 4) := by
  rcases mm_in8 h with rfl | rfl | rfl <;> rfl
theorem mm_ar8_8 {r : Nat} (h : mm_is8 r = true) : mm_SH[r + 4]? = some (.inr (0, 4)) := by
  rcases mm_in8 h with rfl | rfl | rfl <;> rfl
theorem mm_rf8_9 {p r : Nat} (h : mm_is8 r = true) : mm_R p r 9 = some (r + 5) := by
  rcases mm_in8 h with rfl | rfl | rfl <;> rfl
theorem mm_ar8_9 {r : Nat} (h : mm_is8 r = true) : mm_SH[r + 5]? = some (.inr (0, 4)) := by
  rcases mm_in8 h with rfl | rfl | rfl <;> rfl
theorem mm_rf8_10 {p r : Nat} (h : mm_is8 r = true) : mm_R p r 10 = some (r + 6) := by
  rcases mm_in8 h with rfl | rfl | rfl <;> rfl
theorem mm_ar8_10 {r : Nat} (h : mm_is8 r = true) : mm_SH[r + 6]? = some (.inr (0, 4)) := by
  rcases mm_in8 h with rfl | rfl | rfl <;> rfl
theorem mm_rf8_11 {p r : Nat} (h : mm_is8 r = true) : mm_R p r 11 = some (r + 7) := by
  rcases mm_in8 h with rfl | rfl | rfl <;> rfl
theorem mm_ar8_11 {r : Nat} (h : mm_is8 r = true) : mm_SH[r + 7]? = some (.inr (0, 4)) := by
  rcases mm_in8 h with rfl | rfl | rfl <;> rfl
def mm_is10 (r : Nat) : Bool := r == 37 || r == 40 || r == 43 || r == 46 || r == 49 || r == 52
theorem mm_in10 {r : Nat} (h : mm_is10 r = true) : r = 37 ∨ r = 40 ∨ r = 43 ∨ r = 46 ∨ r = 49 ∨ r = 52 := by
  simpa [mm_is10, Bool.or_eq_true, or_assoc] using h
theorem mm_cl10 {r : Nat} (h : mm_is10 r = true) : mm_SH[r]? = some (.inl 10) := by
  rcases mm_in10 h with rfl | rfl | rfl | rfl | rfl | rfl <;> rfl
theorem mm_rf10_0 {p r : Nat} (h : mm_is10 r = true) : mm_R p r 0 = some (r + 1) := by
  rcases mm_in10 h with rfl | rfl | rfl | rfl | rfl | rfl <;> rfl
theorem mm_ar10_0 {r : Nat} (h : mm_is10 r = true) : mm_SH[r + 1]? = some (.inr (0, 160)) := by
  rcases mm_in10 h with rfl | rfl | rfl | rfl | rfl | rfl <;> rfl
theorem mm_rf10_1 {p r : Nat} (h : mm_is10 r = true) : mm_R p r 1 = some (r + 2) := by
  rcases mm_in10 h with rfl | rfl | rfl | rfl | rfl | rfl <;> rfl
theorem mm_ar10_1 {r : Nat} (h : mm_is10 r = true) : mm_SH[r + 2]? = some (.inr (0, 3)) := by
  rcases mm_in10 h with rfl | rfl | rfl | rfl | rfl | rfl <;> rfl
theorem mm_rf10_4 {p r : Nat} (h : mm_is10 r = true) : mm_R p r 4 = some 25 := by
  rcases mm_in10 h with rfl | rfl | rfl | rfl | rfl | rfl <;> rfl
def mm_is7 (r : Nat) : Bool := r == 65 || r == 67 || r == 69 || r == 71
theorem mm_in7 {r : Nat} (h : mm_is7 r = true) : r = 65 ∨ r = 67 ∨ r = 69 ∨ r = 71 := by
  simpa [mm_is7, Bool.or_eq_true, or_assoc] using h
theorem mm_cl7 {r : Nat} (h : mm_is7 r = true) : mm_SH[r]? = some (.inl 7) := by
  rcases mm_in7 h with rfl | rfl | rfl | rfl <;> rfl
theorem mm_rf7_2 {p r : Nat} (h : mm_is7 r = true) : mm_R p r 2 = some (r + 1) := by
  rcases mm_in7 h with rfl | rfl | rfl | rfl <;> rfl
theorem mm_ar7_2 {r : Nat} (h : mm_is7 r = true) : mm_SH[r + 1]? = some (.inr (0, 40)) := by
  rcases mm_in7 h with rfl | rfl | rfl | rfl <;> rfl
def mm_kc (r : Nat) : Option Nat := match mm_SH[r]? with
  | some (.inl c) => some c
  | _ => none
theorem mm_kc_at {r c : Nat} (h : mm_kc r = some c) : mm_SH[r]? = some (.inl c) := by
  unfold mm_kc at h
  split at h
  · rename_i e
    cases h
    exact e
  · cases h
def mm_ia (r : Nat) : Option Nat := match mm_SH[r]? with
  | some (.inr (0, n)) => some n
  | _ => none
theorem mm_ia_at {r n : Nat} (h : mm_ia r = some n) : mm_SH[r]? = some (.inr (0, n)) := by
  unfold mm_ia at h
  split at h
  · rename_i e
    cases h
    exact e
  · cases h
theorem mm_el_tx {p : Nat} {i : Int32} (h : ak_inb i 6 = true) : mm_R p 27 i.toNatClampNeg = some (37 + 3 * i.toNatClampNeg) := by
  have h1 := ak_inb_lt h
  generalize i.toNatClampNeg = j at h1 ⊢
  have h2 : j = 0 ∨ j = 1 ∨ j = 2 ∨ j = 3 ∨ j = 4 ∨ j = 5 := by omega
  rcases h2 with rfl | rfl | rfl | rfl | rfl | rfl <;> rfl
theorem mm_ei_tx {i : Int32} (h : ak_inb i 6 = true) : mm_is10 (37 + 3 * i.toNatClampNeg) = true := by
  have h1 := ak_inb_lt h
  generalize i.toNatClampNeg = j at h1 ⊢
  have h2 : j = 0 ∨ j = 1 ∨ j = 2 ∨ j = 3 ∨ j = 4 ∨ j = 5 := by omega
  rcases h2 with rfl | rfl | rfl | rfl | rfl | rfl <;> rfl
theorem mm_el_kd {p : Nat} {i : Int32} (h : ak_inb i 6 = true) : mm_R p 28 i.toNatClampNeg = some (29 + 1 * i.toNatClampNeg) := by
  have h1 := ak_inb_lt h
  generalize i.toNatClampNeg = j at h1 ⊢
  have h2 : j = 0 ∨ j = 1 ∨ j = 2 ∨ j = 3 ∨ j = 4 ∨ j = 5 := by omega
  rcases h2 with rfl | rfl | rfl | rfl | rfl | rfl <;> rfl
theorem mm_el_sh {p : Nat} {i : Int32} (h : ak_inb i 4 = true) : mm_R p 64 i.toNatClampNeg = some (65 + 2 * i.toNatClampNeg) := by
  have h1 := ak_inb_lt h
  generalize i.toNatClampNeg = j at h1 ⊢
  have h2 : j = 0 ∨ j = 1 ∨ j = 2 ∨ j = 3 := by omega
  rcases h2 with rfl | rfl | rfl | rfl <;> rfl
theorem mm_ei_sh {i : Int32} (h : ak_inb i 4 = true) : mm_is7 (65 + 2 * i.toNatClampNeg) = true := by
  have h1 := ak_inb_lt h
  generalize i.toNatClampNeg = j at h1 ⊢
  have h2 : j = 0 ∨ j = 1 ∨ j = 2 ∨ j = 3 := by omega
  rcases h2 with rfl | rfl | rfl | rfl <;> rfl
theorem kc_bipush_m100 : (Int8.ofInt (-100)).toInt32 = (-100 : Int32) := by decide
theorem kc_bipush_m99 : (Int8.ofInt (-99)).toInt32 = (-99 : Int32) := by decide
theorem kc_bipush_m15 : (Int8.ofInt (-15)).toInt32 = (-15 : Int32) := by decide
theorem kc_bipush_m14 : (Int8.ofInt (-14)).toInt32 = (-14 : Int32) := by decide
theorem kc_bipush_m13 : (Int8.ofInt (-13)).toInt32 = (-13 : Int32) := by decide
theorem kc_bipush_m12 : (Int8.ofInt (-12)).toInt32 = (-12 : Int32) := by decide
theorem kc_bipush_m11 : (Int8.ofInt (-11)).toInt32 = (-11 : Int32) := by decide
theorem kc_bipush_m10 : (Int8.ofInt (-10)).toInt32 = (-10 : Int32) := by decide
theorem kc_bipush_m9 : (Int8.ofInt (-9)).toInt32 = (-9 : Int32) := by decide
theorem kc_bipush_m8 : (Int8.ofInt (-8)).toInt32 = (-8 : Int32) := by decide
theorem kc_bipush_m7 : (Int8.ofInt (-7)).toInt32 = (-7 : Int32) := by decide
theorem kc_bipush_m4 : (Int8.ofInt (-4)).toInt32 = (-4 : Int32) := by decide
theorem kc_bipush_m3 : (Int8.ofInt (-3)).toInt32 = (-3 : Int32) := by decide
theorem kc_bipush_m2 : (Int8.ofInt (-2)).toInt32 = (-2 : Int32) := by decide
theorem kc_bipush_6 : (Int8.ofInt (6)).toInt32 = (6 : Int32) := by decide
theorem kc_bipush_7 : (Int8.ofInt (7)).toInt32 = (7 : Int32) := by decide
theorem kc_bipush_8 : (Int8.ofInt (8)).toInt32 = (8 : Int32) := by decide
theorem kc_bipush_9 : (Int8.ofInt (9)).toInt32 = (9 : Int32) := by decide
theorem kc_bipush_10 : (Int8.ofInt (10)).toInt32 = (10 : Int32) := by decide
theorem kc_bipush_15 : (Int8.ofInt (15)).toInt32 = (15 : Int32) := by decide
theorem kc_bipush_16 : (Int8.ofInt (16)).toInt32 = (16 : Int32) := by decide
theorem kc_bipush_20 : (Int8.ofInt (20)).toInt32 = (20 : Int32) := by decide
theorem kc_bipush_24 : (Int8.ofInt (24)).toInt32 = (24 : Int32) := by decide
theorem kc_bipush_30 : (Int8.ofInt (30)).toInt32 = (30 : Int32) := by decide
theorem kc_bipush_31 : (Int8.ofInt (31)).toInt32 = (31 : Int32) := by decide
theorem kc_bipush_32 : (Int8.ofInt (32)).toInt32 = (32 : Int32) := by decide
theorem kc_bipush_36 : (Int8.ofInt (36)).toInt32 = (36 : Int32) := by decide
theorem kc_bipush_40 : (Int8.ofInt (40)).toInt32 = (40 : Int32) := by decide
theorem kc_bipush_41 : (Int8.ofInt (41)).toInt32 = (41 : Int32) := by decide
theorem kc_bipush_42 : (Int8.ofInt (42)).toInt32 = (42 : Int32) := by decide
theorem kc_bipush_43 : (Int8.ofInt (43)).toInt32 = (43 : Int32) := by decide
theorem kc_bipush_45 : (Int8.ofInt (45)).toInt32 = (45 : Int32) := by decide
theorem kc_bipush_48 : (Int8.ofInt (48)).toInt32 = (48 : Int32) := by decide
theorem kc_bipush_49 : (Int8.ofInt (49)).toInt32 = (49 : Int32) := by decide
theorem kc_bipush_51 : (Int8.ofInt (51)).toInt32 = (51 : Int32) := by decide
theorem kc_bipush_57 : (Int8.ofInt (57)).toInt32 = (57 : Int32) := by decide
theorem kc_bipush_59 : (Int8.ofInt (59)).toInt32 = (59 : Int32) := by decide
theorem kc_bipush_60 : (Int8.ofInt (60)).toInt32 = (60 : Int32) := by decide
theorem kc_bipush_61 : (Int8.ofInt (61)).toInt32 = (61 : Int32) := by decide
theorem kc_bipush_63 : (Int8.ofInt (63)).toInt32 = (63 : Int32) := by decide
theorem kc_bipush_97 : (Int8.ofInt (97)).toInt32 = (97 : Int32) := by decide
theorem kc_bipush_98 : (Int8.ofInt (98)).toInt32 = (98 : Int32) := by decide
theorem kc_bipush_99 : (Int8.ofInt (99)).toInt32 = (99 : Int32) := by decide
theorem kc_bipush_100 : (Int8.ofInt (100)).toInt32 = (100 : Int32) := by decide
theorem kc_bipush_101 : (Int8.ofInt (101)).toInt32 = (101 : Int32) := by decide
theorem kc_bipush_103 : (Int8.ofInt (103)).toInt32 = (103 : Int32) := by decide
theorem kc_bipush_104 : (Int8.ofInt (104)).toInt32 = (104 : Int32) := by decide
theorem kc_bipush_105 : (Int8.ofInt (105)).toInt32 = (105 : Int32) := by decide
theorem kc_bipush_106 : (Int8.ofInt (106)).toInt32 = (106 : Int32) := by decide
theorem kc_bipush_107 : (Int8.ofInt (107)).toInt32 = (107 : Int32) := by decide
theorem kc_bipush_108 : (Int8.ofInt (108)).toInt32 = (108 : Int32) := by decide
theorem kc_bipush_109 : (Int8.ofInt (109)).toInt32 = (109 : Int32) := by decide
theorem kc_bipush_110 : (Int8.ofInt (110)).toInt32 = (110 : Int32) := by decide
theorem kc_bipush_111 : (Int8.ofInt (111)).toInt32 = (111 : Int32) := by decide
theorem kc_bipush_112 : (Int8.ofInt (112)).toInt32 = (112 : Int32) := by decide
theorem kc_bipush_114 : (Int8.ofInt (114)).toInt32 = (114 : Int32) := by decide
theorem kc_bipush_115 : (Int8.ofInt (115)).toInt32 = (115 : Int32) := by decide
theorem kc_bipush_116 : (Int8.ofInt (116)).toInt32 = (116 : Int32) := by decide
theorem kc_bipush_117 : (Int8.ofInt (117)).toInt32 = (117 : Int32) := by decide
theorem kc_bipush_119 : (Int8.ofInt (119)).toInt32 = (119 : Int32) := by decide
theorem kc_bipush_121 : (Int8.ofInt (121)).toInt32 = (121 : Int32) := by decide
theorem kc_bipush_122 : (Int8.ofInt (122)).toInt32 = (122 : Int32) := by decide
theorem kc_iconst_m1 : Int32.ofInt (-1) = (-1 : Int32) := by decide
theorem kc_iconst_0 : Int32.ofInt (0) = (0 : Int32) := by decide
theorem kc_iconst_1 : Int32.ofInt (1) = (1 : Int32) := by decide
theorem kc_iconst_2 : Int32.ofInt (2) = (2 : Int32) := by decide
theorem kc_iconst_3 : Int32.ofInt (3) = (3 : Int32) := by decide
theorem kc_iconst_4 : Int32.ofInt (4) = (4 : Int32) := by decide
theorem kc_iconst_5 : Int32.ofInt (5) = (5 : Int32) := by decide
theorem kc_iinc_m1 : Int32.ofInt (-1) = (-1 : Int32) := by decide
theorem kc_iinc_1 : Int32.ofInt (1) = (1 : Int32) := by decide
theorem kc_iinc_6 : Int32.ofInt (6) = (6 : Int32) := by decide
theorem kc_ldc_m100000 : Int32.ofInt (-100000) = (-100000 : Int32) := by decide
theorem kc_ldc_252645135 : Int32.ofInt (252645135) = (252645135 : Int32) := by decide
theorem kc_ldc_858993459 : Int32.ofInt (858993459) = (858993459 : Int32) := by decide
theorem kc_ldc_1103515245 : Int32.ofInt (1103515245) = (1103515245 : Int32) := by decide
theorem kc_ldc_1431655765 : Int32.ofInt (1431655765) = (1431655765 : Int32) := by decide
theorem kc_ldc_2147483647 : Int32.ofInt (2147483647) = (2147483647 : Int32) := by decide
theorem kc_ldc2_m4611686018427387904 : Int64.ofInt (-4611686018427387904) = (-4611686018427387904 : Int64) := by decide
theorem kc_ldc2_m1 : Int64.ofInt (-1) = (-1 : Int64) := by decide
theorem kc_ldc2_2 : Int64.ofInt (2) = (2 : Int64) := by decide
theorem kc_ldc2_3 : Int64.ofInt (3) = (3 : Int64) := by decide
theorem kc_ldc2_4 : Int64.ofInt (4) = (4 : Int64) := by decide
theorem kc_ldc2_5 : Int64.ofInt (5) = (5 : Int64) := by decide
theorem kc_ldc2_6 : Int64.ofInt (6) = (6 : Int64) := by decide
theorem kc_ldc2_7 : Int64.ofInt (7) = (7 : Int64) := by decide
theorem kc_ldc2_9 : Int64.ofInt (9) = (9 : Int64) := by decide
theorem kc_ldc2_10 : Int64.ofInt (10) = (10 : Int64) := by decide
theorem kc_ldc2_17 : Int64.ofInt (17) = (17 : Int64) := by decide
theorem kc_ldc2_20 : Int64.ofInt (20) = (20 : Int64) := by decide
theorem kc_ldc2_27 : Int64.ofInt (27) = (27 : Int64) := by decide
theorem kc_ldc2_30 : Int64.ofInt (30) = (30 : Int64) := by decide
theorem kc_ldc2_37 : Int64.ofInt (37) = (37 : Int64) := by decide
theorem kc_ldc2_43 : Int64.ofInt (43) = (43 : Int64) := by decide
theorem kc_ldc2_48 : Int64.ofInt (48) = (48 : Int64) := by decide
theorem kc_ldc2_57 : Int64.ofInt (57) = (57 : Int64) := by decide
theorem kc_ldc2_60 : Int64.ofInt (60) = (60 : Int64) := by decide
theorem kc_ldc2_97 : Int64.ofInt (97) = (97 : Int64) := by decide
theorem kc_ldc2_122 : Int64.ofInt (122) = (122 : Int64) := by decide
theorem kc_ldc2_255 : Int64.ofInt (255) = (255 : Int64) := by decide
theorem kc_sipush_m1000 : (Int16.ofInt (-1000)).toInt32 = (-1000 : Int32) := by decide
theorem kc_sipush_160 : (Int16.ofInt (160)).toInt32 = (160 : Int32) := by decide
theorem kc_sipush_255 : (Int16.ofInt (255)).toInt32 = (255 : Int32) := by decide
theorem kc_sipush_256 : (Int16.ofInt (256)).toInt32 = (256 : Int32) := by decide
theorem kc_sipush_257 : (Int16.ofInt (257)).toInt32 = (257 : Int32) := by decide
theorem kc_sipush_258 : (Int16.ofInt (258)).toInt32 = (258 : Int32) := by decide
theorem kc_sipush_259 : (Int16.ofInt (259)).toInt32 = (259 : Int32) := by decide
theorem kc_sipush_260 : (Int16.ofInt (260)).toInt32 = (260 : Int32) := by decide
theorem kc_sipush_261 : (Int16.ofInt (261)).toInt32 = (261 : Int32) := by decide
theorem kc_sipush_262 : (Int16.ofInt (262)).toInt32 = (262 : Int32) := by decide
theorem kc_sipush_263 : (Int16.ofInt (263)).toInt32 = (263 : Int32) := by decide
theorem kc_sipush_264 : (Int16.ofInt (264)).toInt32 = (264 : Int32) := by decide
theorem kc_sipush_265 : (Int16.ofInt (265)).toInt32 = (265 : Int32) := by decide
theorem kc_sipush_960 : (Int16.ofInt (960)).toInt32 = (960 : Int32) := by decide
theorem kc_sipush_999 : (Int16.ofInt (999)).toInt32 = (999 : Int32) := by decide
theorem kc_sipush_12345 : (Int16.ofInt (12345)).toInt32 = (12345 : Int32) := by decide
theorem hm_0 : ak_M[0]? = some q_0 := rfl
theorem hm_1 : ak_M[1]? = some q_1 := rfl
theorem hm_2 : ak_M[2]? = some q_2 := rfl
theorem hm_3 : ak_M[3]? = some q_3 := rfl
theorem hm_4 : ak_M[4]? = some q_4 := rfl
theorem hm_5 : ak_M[5]? = some q_5 := rfl
theorem hm_6 : ak_M[6]? = some q_6 := rfl
theorem hm_7 : ak_M[7]? = some q_7 := rfl
theorem hm_8 : ak_M[8]? = some q_8 := rfl
theorem hm_9 : ak_M[9]? = some q_9 := rfl
theorem hm_10 : ak_M[10]? = some q_10 := rfl
theorem hm_11 : ak_M[11]? = some q_11 := rfl
theorem hm_12 : ak_M[12]? = some q_12 := rfl
theorem hm_13 : ak_M[13]? = some q_13 := rfl
theorem hm_14 : ak_M[14]? = some q_14 := rfl
theorem hm_15 : ak_M[15]? = some q_15 := rfl
theorem hm_16 : ak_M[16]? = some q_16 := rfl
theorem hm_17 : ak_M[17]? = some q_17 := rfl
theorem hm_18 : ak_M[18]? = some q_18 := rfl
theorem hm_19 : ak_M[19]? = some q_19 := rfl
theorem hm_20 : ak_M[20]? = some q_20 := rfl
theorem hm_21 : ak_M[21]? = some q_21 := rfl
theorem hm_22 : ak_M[22]? = some q_22 := rfl
theorem hm_23 : ak_M[23]? = some q_23 := rfl
theorem hm_24 : ak_M[24]? = some q_24 := rfl
theorem hm_25 : ak_M[25]? = some q_25 := rfl
theorem hm_26 : ak_M[26]? = some q_26 := rfl
theorem hm_27 : ak_M[27]? = some q_27 := rfl
theorem hm_28 : ak_M[28]? = some q_28 := rfl
theorem hm_29 : ak_M[29]? = some q_29 := rfl
theorem hm_30 : ak_M[30]? = some q_30 := rfl
theorem hm_31 : ak_M[31]? = some q_31 := rfl
theorem hm_32 : ak_M[32]? = some q_32 := rfl
theorem hm_33 : ak_M[33]? = some q_33 := rfl
theorem hm_34 : ak_M[34]? = some q_34 := rfl
theorem hm_35 : ak_M[35]? = some q_35 := rfl
theorem hm_36 : ak_M[36]? = some q_36 := rfl
theorem hm_37 : ak_M[37]? = some q_37 := rfl
theorem hm_38 : ak_M[38]? = some q_38 := rfl
theorem hm_39 : ak_M[39]? = some q_39 := rfl
theorem hm_40 : ak_M[40]? = some q_40 := rfl
theorem hm_41 : ak_M[41]? = some q_41 := rfl
theorem hm_42 : ak_M[42]? = some q_42 := rfl
theorem hm_43 : ak_M[43]? = some q_43 := rfl
theorem hm_44 : ak_M[44]? = some q_44 := rfl
theorem hm_45 : ak_M[45]? = some q_45 := rfl
theorem hm_46 : ak_M[46]? = some q_46 := rfl
theorem hm_47 : ak_M[47]? = some q_47 := rfl
theorem hm_48 : ak_M[48]? = some q_48 := rfl
theorem hm_49 : ak_M[49]? = some q_49 := rfl
theorem hm_50 : ak_M[50]? = some q_50 := rfl
theorem hm_51 : ak_M[51]? = some q_51 := rfl
theorem hm_52 : ak_M[52]? = some q_52 := rfl
theorem hm_53 : ak_M[53]? = some q_53 := rfl
theorem hm_54 : ak_M[54]? = some q_54 := rfl
theorem hm_55 : ak_M[55]? = some q_55 := rfl
theorem hm_56 : ak_M[56]? = some q_56 := rfl
theorem hm_57 : ak_M[57]? = some q_57 := rfl
theorem hm_58 : ak_M[58]? = some q_58 := rfl
theorem hm_59 : ak_M[59]? = some q_59 := rfl
theorem hm_60 : ak_M[60]? = some q_60 := rfl
theorem hm_61 : ak_M[61]? = some q_61 := rfl
theorem hm_62 : ak_M[62]? = some q_62 := rfl
theorem hm_63 : ak_M[63]? = some q_63 := rfl
theorem hm_64 : ak_M[64]? = some q_64 := rfl
theorem hm_65 : ak_M[65]? = some q_65 := rfl
theorem hm_66 : ak_M[66]? = some q_66 := rfl
theorem hm_67 : ak_M[67]? = some q_67 := rfl
theorem hm_68 : ak_M[68]? = some q_68 := rfl
theorem hm_69 : ak_M[69]? = some q_69 := rfl
theorem hm_70 : ak_M[70]? = some q_70 := rfl
theorem hm_71 : ak_M[71]? = some q_71 := rfl
theorem hm_72 : ak_M[72]? = some q_72 := rfl
theorem hm_73 : ak_M[73]? = some q_73 := rfl
theorem hm_74 : ak_M[74]? = some q_74 := rfl
theorem hm_75 : ak_M[75]? = some q_75 := rfl
theorem hm_76 : ak_M[76]? = some q_76 := rfl
theorem hm_77 : ak_M[77]? = some q_77 := rfl
theorem hm_78 : ak_M[78]? = some q_78 := rfl
theorem hm_79 : ak_M[79]? = some q_79 := rfl
theorem hm_80 : ak_M[80]? = some q_80 := rfl
theorem hm_81 : ak_M[81]? = some q_81 := rfl
theorem hm_82 : ak_M[82]? = some q_82 := rfl
theorem hm_83 : ak_M[83]? = some q_83 := rfl
theorem hm_84 : ak_M[84]? = some q_84 := rfl
theorem hm_85 : ak_M[85]? = some q_85 := rfl
theorem hm_86 : ak_M[86]? = some q_86 := rfl
theorem hm_87 : ak_M[87]? = some q_87 := rfl
theorem hm_88 : ak_M[88]? = some q_88 := rfl
theorem hm_89 : ak_M[89]? = some q_89 := rfl
theorem hm_90 : ak_M[90]? = some q_90 := rfl
theorem hm_91 : ak_M[91]? = some q_91 := rfl
theorem hm_92 : ak_M[92]? = some q_92 := rfl
theorem hm_93 : ak_M[93]? = some q_93 := rfl
theorem hm_94 : ak_M[94]? = some q_94 := rfl
theorem hm_95 : ak_M[95]? = some q_95 := rfl
theorem hm_96 : ak_M[96]? = some q_96 := rfl
theorem hm_97 : ak_M[97]? = some q_97 := rfl
theorem hm_98 : ak_M[98]? = some q_98 := rfl
theorem hm_99 : ak_M[99]? = some q_99 := rfl
theorem hm_100 : ak_M[100]? = some q_100 := rfl
theorem hm_101 : ak_M[101]? = some q_101 := rfl
theorem hm_102 : ak_M[102]? = some q_102 := rfl
theorem hm_103 : ak_M[103]? = some q_103 := rfl
theorem hm_104 : ak_M[104]? = some q_104 := rfl
theorem hm_105 : ak_M[105]? = some q_105 := rfl
theorem hm_106 : ak_M[106]? = some q_106 := rfl
theorem hm_107 : ak_M[107]? = some q_107 := rfl
theorem hm_108 : ak_M[108]? = some q_108 := rfl
theorem hm_109 : ak_M[109]? = some q_109 := rfl
theorem hm_110 : ak_M[110]? = some q_110 := rfl
theorem hm_111 : ak_M[111]? = some q_111 := rfl
theorem hm_112 : ak_M[112]? = some q_112 := rfl
theorem hm_113 : ak_M[113]? = some q_113 := rfl
theorem hm_114 : ak_M[114]? = some q_114 := rfl
theorem hm_115 : ak_M[115]? = some q_115 := rfl
theorem hm_116 : ak_M[116]? = some q_116 := rfl
theorem hm_117 : ak_M[117]? = some q_117 := rfl
theorem hm_118 : ak_M[118]? = some q_118 := rfl
theorem hm_119 : ak_M[119]? = some q_119 := rfl
theorem hm_120 : ak_M[120]? = some q_120 := rfl
theorem hm_121 : ak_M[121]? = some q_121 := rfl
theorem hm_122 : ak_M[122]? = some q_122 := rfl
theorem hm_123 : ak_M[123]? = some q_123 := rfl
theorem hm_124 : ak_M[124]? = some q_124 := rfl
theorem hm_125 : ak_M[125]? = some q_125 := rfl
theorem hm_126 : ak_M[126]? = some q_126 := rfl
theorem hm_127 : ak_M[127]? = some q_127 := rfl
theorem hm_128 : ak_M[128]? = some q_128 := rfl
theorem hm_129 : ak_M[129]? = some q_129 := rfl
theorem hm_130 : ak_M[130]? = some q_130 := rfl
theorem hm_131 : ak_M[131]? = some q_131 := rfl
theorem hm_132 : ak_M[132]? = some q_132 := rfl
theorem hm_133 : ak_M[133]? = some q_133 := rfl
theorem hm_134 : ak_M[134]? = some q_134 := rfl
theorem hm_135 : ak_M[135]? = some q_135 := rfl
theorem hm_136 : ak_M[136]? = some q_136 := rfl
theorem hm_137 : ak_M[137]? = some q_137 := rfl
theorem hm_138 : ak_M[138]? = some q_138 := rfl
theorem hm_139 : ak_M[139]? = some q_139 := rfl
theorem hm_140 : ak_M[140]? = some q_140 := rfl
theorem hm_141 : ak_M[141]? = some q_141 := rfl
theorem hm_142 : ak_M[142]? = some q_142 := rfl
theorem hm_143 : ak_M[143]? = some q_143 := rfl
theorem hm_144 : ak_M[144]? = some q_144 := rfl
theorem hm_145 : ak_M[145]? = some q_145 := rfl
theorem hm_146 : ak_M[146]? = some q_146 := rfl
theorem hm_147 : ak_M[147]? = some q_147 := rfl
theorem hm_148 : ak_M[148]? = some q_148 := rfl
theorem hm_149 : ak_M[149]? = some q_149 := rfl
theorem hm_150 : ak_M[150]? = some q_150 := rfl
theorem hm_151 : ak_M[151]? = some q_151 := rfl
theorem hm_152 : ak_M[152]? = some q_152 := rfl
theorem hm_153 : ak_M[153]? = some q_153 := rfl
theorem hm_154 : ak_M[154]? = some q_154 := rfl
theorem hm_155 : ak_M[155]? = some q_155 := rfl
theorem hm_156 : ak_M[156]? = some q_156 := rfl
theorem hm_157 : ak_M[157]? = some q_157 := rfl
theorem hm_158 : ak_M[158]? = some q_158 := rfl
theorem hm_159 : ak_M[159]? = some q_159 := rfl
theorem hm_160 : ak_M[160]? = some q_160 := rfl
theorem hm_161 : ak_M[161]? = some q_161 := rfl
theorem hm_162 : ak_M[162]? = some q_162 := rfl
theorem hm_163 : ak_M[163]? = some q_163 := rfl
theorem hm_164 : ak_M[164]? = some q_164 := rfl
theorem hm_165 : ak_M[165]? = some q_165 := rfl
theorem hm_166 : ak_M[166]? = some q_166 := rfl
theorem hm_167 : ak_M[167]? = some q_167 := rfl
theorem hm_168 : ak_M[168]? = some q_168 := rfl
theorem hm_169 : ak_M[169]? = some q_169 := rfl
theorem hm_170 : ak_M[170]? = some q_170 := rfl
theorem hm_171 : ak_M[171]? = some q_171 := rfl
theorem hm_172 : ak_M[172]? = some q_172 := rfl
theorem hm_173 : ak_M[173]? = some q_173 := rfl
theorem hm_174 : ak_M[174]? = some q_174 := rfl
theorem hm_175 : ak_M[175]? = some q_175 := rfl
theorem hm_176 : ak_M[176]? = some q_176 := rfl
theorem hm_177 : ak_M[177]? = some q_177 := rfl
theorem hm_178 : ak_M[178]? = some q_178 := rfl
theorem hm_179 : ak_M[179]? = some q_179 := rfl
theorem hm_180 : ak_M[180]? = some q_180 := rfl
theorem hm_181 : ak_M[181]? = some q_181 := rfl
theorem hm_182 : ak_M[182]? = some q_182 := rfl
theorem hm_183 : ak_M[183]? = some q_183 := rfl
theorem hm_184 : ak_M[184]? = some q_184 := rfl
theorem hm_185 : ak_M[185]? = some q_185 := rfl
theorem hm_186 : ak_M[186]? = some q_186 := rfl
theorem hm_187 : ak_M[187]? = some q_187 := rfl
theorem hm_188 : ak_M[188]? = some q_188 := rfl
theorem hm_189 : ak_M[189]? = some q_189 := rfl
theorem hm_190 : ak_M[190]? = some q_190 := rfl
theorem hm_191 : ak_M[191]? = some q_191 := rfl
theorem hm_192 : ak_M[192]? = some q_192 := rfl
theorem hm_193 : ak_M[193]? = some q_193 := rfl
theorem hm_194 : ak_M[194]? = some q_194 := rfl
theorem hm_195 : ak_M[195]? = some q_195 := rfl
theorem hm_196 : ak_M[196]? = some q_196 := rfl
theorem hm_197 : ak_M[197]? = some q_197 := rfl
theorem hm_198 : ak_M[198]? = some q_198 := rfl
theorem hm_199 : ak_M[199]? = some q_199 := rfl
theorem hm_200 : ak_M[200]? = some q_200 := rfl
theorem hm_201 : ak_M[201]? = some q_201 := rfl
theorem hm_202 : ak_M[202]? = some q_202 := rfl
theorem hm_203 : ak_M[203]? = some q_203 := rfl
theorem hm_204 : ak_M[204]? = some q_204 := rfl
theorem hm_205 : ak_M[205]? = some q_205 := rfl
theorem hm_206 : ak_M[206]? = some q_206 := rfl
theorem hm_207 : ak_M[207]? = some q_207 := rfl
theorem hm_208 : ak_M[208]? = some q_208 := rfl
theorem hm_209 : ak_M[209]? = some q_209 := rfl
theorem hm_210 : ak_M[210]? = some q_210 := rfl
theorem hm_211 : ak_M[211]? = some q_211 := rfl
theorem hm_212 : ak_M[212]? = some q_212 := rfl
theorem hm_213 : ak_M[213]? = some q_213 := rfl
theorem hm_214 : ak_M[214]? = some q_214 := rfl
theorem hm_215 : ak_M[215]? = some q_215 := rfl
theorem hm_216 : ak_M[216]? = some q_216 := rfl
theorem hm_217 : ak_M[217]? = some q_217 := rfl
theorem hm_218 : ak_M[218]? = some q_218 := rfl
theorem hm_219 : ak_M[219]? = some q_219 := rfl
theorem hm_220 : ak_M[220]? = some q_220 := rfl
theorem hm_221 : ak_M[221]? = some q_221 := rfl
theorem hm_222 : ak_M[222]? = some q_222 := rfl
theorem hm_223 : ak_M[223]? = some q_223 := rfl
theorem hm_224 : ak_M[224]? = some q_224 := rfl
theorem hm_225 : ak_M[225]? = some q_225 := rfl
theorem hm_226 : ak_M[226]? = some q_226 := rfl
theorem hm_227 : ak_M[227]? = some q_227 := rfl
theorem hm_228 : ak_M[228]? = some q_228 := rfl
theorem hm_229 : ak_M[229]? = some q_229 := rfl
theorem hm_230 : ak_M[230]? = some q_230 := rfl
theorem hm_231 : ak_M[231]? = some q_231 := rfl
theorem hm_232 : ak_M[232]? = some q_232 := rfl
theorem hm_233 : ak_M[233]? = some q_233 := rfl
theorem hm_234 : ak_M[234]? = some q_234 := rfl
theorem hm_235 : ak_M[235]? = some q_235 := rfl
theorem hm_236 : ak_M[236]? = some q_236 := rfl
theorem hm_237 : ak_M[237]? = some q_237 := rfl
theorem hm_238 : ak_M[238]? = some q_238 := rfl
theorem hm_239 : ak_M[239]? = some q_239 := rfl
theorem hm_240 : ak_M[240]? = some q_240 := rfl
theorem hm_241 : ak_M[241]? = some q_241 := rfl
theorem hm_242 : ak_M[242]? = some q_242 := rfl
theorem hm_243 : ak_M[243]? = some q_243 := rfl
theorem hm_244 : ak_M[244]? = some q_244 := rfl
theorem hm_245 : ak_M[245]? = some q_245 := rfl
end
section
/-! a rule an instruction -/
section EI
variable {Z : ak_Z} {d mi pc w : Nat} {L : ak_L} {S : List Value} {h : ak_H} {Q : Option Value → ak_H → Prop} {q : ak_Q} {x : ak_X} {M : mm_M}
theorem e_iconst (hM : ak_M[mi]? = some q) {n : Int} {v : Int32} (hI : q.2.2.2.2.1[pc]? = some (some (.iconst n, 1, x))) (hv : Int32.ofInt n = v) (kk : Ev Z d mi (pc + 1) L (.int v :: S) h Q) : Ev Z d mi pc L S h Q := e_step hM hI (by rw [← hv]; rfl) kk
theorem e_bipush (hM : ak_M[mi]? = some q) {n : Int} {v : Int32} (hI : q.2.2.2.2.1[pc]? = some (some (.bipush n, 2, x))) (hv : (Int8.ofInt n).toInt32 = v) (kk : Ev Z d mi (pc + 2) L (.int v :: S) h Q) : Ev Z d mi pc L S h Q := e_step hM hI (by rw [← hv]; rfl) kk
theorem e_sipush (hM : ak_M[mi]? = some q) {n : Int} {v : Int32} (hI : q.2.2.2.2.1[pc]? = some (some (.sipush n, 3, x))) (hv : (Int16.ofInt n).toInt32 = v) (kk : Ev Z d mi (pc + 3) L (.int v :: S) h Q) : Ev Z d mi pc L S h Q := e_step hM hI (by rw [← hv]; rfl) kk
theorem e_lconst (hM : ak_M[mi]? = some q) {n : Fin 2} {v : Int64} (hI : q.2.2.2.2.1[pc]? = some (some (.lconst n, 1, x))) (hv : Int64.ofNat (n : Nat) = v) (kk : Ev Z d mi (pc + 1) L (.long v :: S) h Q) : Ev Z d mi pc L S h Q := e_step hM hI (by rw [← hv]; rfl) kk
theorem e_ldc (hM : ak_M[mi]? = some q) {i : Nat} {n : Int} {v : Int32} (hI : q.2.2.2.2.1[pc]? = some (some (.ldc i, 2, (4, 0, 0, n)))) (hv : Int32.ofInt n = v) (kk : Ev Z d mi (pc + 2) L (.int v :: S) h Q) : Ev Z d mi pc L S h Q := e_step hM hI (by rw [← hv]; rfl) kk
theorem e_ldc_w (hM : ak_M[mi]? = some q) {i : Nat} {n : Int} {v : Int32} (hI : q.2.2.2.2.1[pc]? = some (some (.ldc_w i, 3, (4, 0, 0, n)))) (hv : Int32.ofInt n = v) (kk : Ev Z d mi (pc + 3) L (.int v :: S) h Q) : Ev Z d mi pc L S h Q := e_step hM hI (by rw [← hv]; rfl) kk
theorem e_ldcS (hM : ak_M[mi]? = some q) {i k : Nat} {n : Int} (hI : q.2.2.2.2.1[pc]? = some (some (.ldc i, 2, (5, k, 0, n))))  (kk : Ev Z d mi (pc + 2) L (.ref (1000000 + k) :: S) h Q) : Ev Z d mi pc L S h Q := e_step hM hI (rfl) kk
theorem e_ldc2 (hM : ak_M[mi]? = some q) {i : Nat} {n : Int} {v : Int64} (hI : q.2.2.2.2.1[pc]? = some (some (.ldc2_w i, 3, (6, 0, 0, n)))) (hv : Int64.ofInt n = v) (kk : Ev Z d mi (pc + 3) L (.long v :: S) h Q) : Ev Z d mi pc L S h Q := e_step hM hI (by rw [← hv]; rfl) kk
theorem e_iadd (hM : ak_M[mi]? = some q) {a b : Int32} (hI : q.2.2.2.2.1[pc]? = some (some (.iadd, 1, x)))  (kk : Ev Z d mi (pc + 1) L (.int (a + b) :: S) h Q) : Ev Z d mi pc L (.int b :: .int a :: S) h Q := e_step hM hI (rfl) kk
theorem e_isub (hM : ak_M[mi]? = some q) {a b : Int32} (hI : q.2.2.2.2.1[pc]? = some (some (.isub, 1, x)))  (kk : Ev Z d mi (pc + 1) L (.int (a - b) :: S) h Q) : Ev Z d mi pc L (.int b :: .int a :: S) h Q := e_step hM hI (rfl) kk
theorem e_imul (hM : ak_M[mi]? = some q) {a b : Int32} (hI : q.2.2.2.2.1[pc]? = some (some (.imul, 1, x)))  (kk : Ev Z d mi (pc + 1) L (.int (a * b) :: S) h Q) : Ev Z d mi pc L (.int b :: .int a :: S) h Q := e_step hM hI (rfl) kk
theorem e_iand (hM : ak_M[mi]? = some q) {a b : Int32} (hI : q.2.2.2.2.1[pc]? = some (some (.iand, 1, x)))  (kk : Ev Z d mi (pc + 1) L (.int (a &&& b) :: S) h Q) : Ev Z d mi pc L (.int b :: .int a :: S) h Q := e_step hM hI (rfl) kk
theorem e_ior (hM : ak_M[mi]? = some q) {a b : Int32} (hI : q.2.2.2.2.1[pc]? = some (some (.ior, 1, x)))  (kk : Ev Z d mi (pc + 1) L (.int (a ||| b) :: S) h Q) : Ev Z d mi pc L (.int b :: .int a :: S) h Q := e_step hM hI (rfl) kk
theorem e_ixor (hM : ak_M[mi]? = some q) {a b : Int32} (hI : q.2.2.2.2.1[pc]? = some (some (.ixor, 1, x)))  (kk : Ev Z d mi (pc + 1) L (.int (a ^^^ b) :: S) h Q) : Ev Z d mi pc L (.int b :: .int a :: S) h Q := e_step hM hI (rfl) kk
theorem e_ishl (hM : ak_M[mi]? = some q) {a b : Int32} (hI : q.2.2.2.2.1[pc]? = some (some (.ishl, 1, x)))  (kk : Ev Z d mi (pc + 1) L (.int (a <<< (b &&& 31)) :: S) h Q) : Ev Z d mi pc L (.int b :: .int a :: S) h Q := e_step hM hI (rfl) kk
theorem e_ishr (hM : ak_M[mi]? = some q) {a b : Int32} (hI : q.2.2.2.2.1[pc]? = some (some (.ishr, 1, x)))  (kk : Ev Z d mi (pc + 1) L (.int (a >>> (b &&& 31)) :: S) h Q) : Ev Z d mi pc L (.int b :: .int a :: S) h Q := e_step hM hI (rfl) kk
theorem e_iushr (hM : ak_M[mi]? = some q) {a b : Int32} (hI : q.2.2.2.2.1[pc]? = some (some (.iushr, 1, x)))  (kk : Ev Z d mi (pc + 1) L (.int ((a.toUInt32 >>> (b.toUInt32 &&& Int32.toUInt32 31)).toInt32) :: S) h Q) : Ev Z d mi pc L (.int b :: .int a :: S) h Q := e_step hM hI (rfl) kk
theorem e_idiv (hM : ak_M[mi]? = some q) {a b : Int32} (hI : q.2.2.2.2.1[pc]? = some (some (.idiv, 1, x))) (hb : ¬ b = 0) (kk : Ev Z d mi (pc + 1) L (.int (a / b) :: S) h Q) : Ev Z d mi pc L (.int b :: .int a :: S) h Q := e_step hM hI (by simp [ak_step, ak_sort, ak_stk, hb]) kk
theorem e_irem (hM : ak_M[mi]? = some q) {a b : Int32} (hI : q.2.2.2.2.1[pc]? = some (some (.irem, 1, x))) (hb : ¬ b = 0) (kk : Ev Z d mi (pc + 1) L (.int (a - a / b * b) :: S) h Q) : Ev Z d mi pc L (.int b :: .int a :: S) h Q := e_step hM hI (by simp [ak_step, ak_sort, ak_stk, hb]) kk
theorem e_ladd (hM : ak_M[mi]? = some q) {a b : Int64} (hI : q.2.2.2.2.1[pc]? = some (some (.ladd, 1, x)))  (kk : Ev Z d mi (pc + 1) L (.long (a + b) :: S) h Q) : Ev Z d mi pc L (.long b :: .long a :: S) h Q := e_step hM hI (rfl) kk
theorem e_lsub (hM : ak_M[mi]? = some q) {a b : Int64} (hI : q.2.2.2.2.1[pc]? = some (some (.lsub, 1, x)))  (kk : Ev Z d mi (pc + 1) L (.long (a - b) :: S) h Q) : Ev Z d mi pc L (.long b :: .long a :: S) h Q := e_step hM hI (rfl) kk
theorem e_lmul (hM : ak_M[mi]? = some q) {a b : Int64} (hI : q.2.2.2.2.1[pc]? = some (some (.lmul, 1, x)))  (kk : Ev Z d mi (pc + 1) L (.long (a * b) :: S) h Q) : Ev Z d mi pc L (.long b :: .long a :: S) h Q := e_step hM hI (rfl) kk
theorem e_ldiv (hM : ak_M[mi]? = some q) {a b : Int64} (hI : q.2.2.2.2.1[pc]? = some (some (.ldiv, 1, x))) (hb : ¬ b = 0) (kk : Ev Z d mi (pc + 1) L (.long (a / b) :: S) h Q) : Ev Z d mi pc L (.long b :: .long a :: S) h Q := e_step hM hI (by simp [ak_step, ak_sort, ak_stk, hb]) kk
theorem e_lrem (hM : ak_M[mi]? = some q) {a b : Int64} (hI : q.2.2.2.2.1[pc]? = some (some (.lrem, 1, x))) (hb : ¬ b = 0) (kk : Ev Z d mi (pc + 1) L (.long (a - a / b * b) :: S) h Q) : Ev Z d mi pc L (.long b :: .long a :: S) h Q := e_step hM hI (by simp [ak_step, ak_sort, ak_stk, hb]) kk
theorem e_lcmp (hM : ak_M[mi]? = some q) {a b : Int64} (hI : q.2.2.2.2.1[pc]? = some (some (.lcmp, 1, x)))  (kk : Ev Z d mi (pc + 1) L (.int (lg_cmp a b) :: S) h Q) : Ev Z d mi pc L (.long b :: .long a :: S) h Q := e_step hM hI (rfl) kk
theorem e_ineg (hM : ak_M[mi]? = some q) {a : Int32} (hI : q.2.2.2.2.1[pc]? = some (some (.ineg, 1, x)))  (kk : Ev Z d mi (pc + 1) L (.int (-a) :: S) h Q) : Ev Z d mi pc L (.int a :: S) h Q := e_step hM hI (rfl) kk
theorem e_i2l (hM : ak_M[mi]? = some q) {a : Int32} (hI : q.2.2.2.2.1[pc]? = some (some (.i2l, 1, x)))  (kk : Ev Z d mi (pc + 1) L (.long a.toInt64 :: S) h Q) : Ev Z d mi pc L (.int a :: S) h Q := e_step hM hI (rfl) kk
theorem e_l2i (hM : ak_M[mi]? = some q) {a : Int64} (hI : q.2.2.2.2.1[pc]? = some (some (.l2i, 1, x)))  (kk : Ev Z d mi (pc + 1) L (.int a.toInt32 :: S) h Q) : Ev Z d mi pc L (.long a :: S) h Q := e_step hM hI (rfl) kk
theorem e_i2b (hM : ak_M[mi]? = some q) {a : Int32} (hI : q.2.2.2.2.1[pc]? = some (some (.i2b, 1, x)))  (kk : Ev Z d mi (pc + 1) L (.int a.toInt8.toInt32 :: S) h Q) : Ev Z d mi pc L (.int a :: S) h Q := e_step hM hI (rfl) kk
theorem e_i2s (hM : ak_M[mi]? = some q) {a : Int32} (hI : q.2.2.2.2.1[pc]? = some (some (.i2s, 1, x)))  (kk : Ev Z d mi (pc + 1) L (.int a.toInt16.toInt32 :: S) h Q) : Ev Z d mi pc L (.int a :: S) h Q := e_step hM hI (rfl) kk
theorem e_i2c (hM : ak_M[mi]? = some q) {a : Int32} (hI : q.2.2.2.2.1[pc]? = some (some (.i2c, 1, x)))  (kk : Ev Z d mi (pc + 1) L (.int (a.toUInt32 % 65536).toInt32 :: S) h Q) : Ev Z d mi pc L (.int a :: S) h Q := e_step hM hI (rfl) kk
theorem e_dupi (hM : ak_M[mi]? = some q) {a : Int32} (hI : q.2.2.2.2.1[pc]? = some (some (.dup, 1, x)))  (kk : Ev Z d mi (pc + 1) L (.int a :: .int a :: S) h Q) : Ev Z d mi pc L (.int a :: S) h Q := e_step hM hI (rfl) kk
theorem e_dupa (hM : ak_M[mi]? = some q) {a : Nat} (hI : q.2.2.2.2.1[pc]? = some (some (.dup, 1, x)))  (kk : Ev Z d mi (pc + 1) L (.ref a :: .ref a :: S) h Q) : Ev Z d mi pc L (.ref a :: S) h Q := e_step hM hI (rfl) kk
theorem e_dup2 (hM : ak_M[mi]? = some q) {a : Int32} {b : Nat} (hI : q.2.2.2.2.1[pc]? = some (some (.dup2, 1, x)))  (kk : Ev Z d mi (pc + 1) L (.int a :: .ref b :: .int a :: .ref b :: S) h Q) : Ev Z d mi pc L (.int a :: .ref b :: S) h Q := e_step hM hI (rfl) kk
theorem e_popi (hM : ak_M[mi]? = some q) {a : Int32} (hI : q.2.2.2.2.1[pc]? = some (some (.pop, 1, x)))  (kk : Ev Z d mi (pc + 1) L S h Q) : Ev Z d mi pc L (.int a :: S) h Q := e_step hM hI (rfl) kk
theorem e_iload_n (hM : ak_M[mi]? = some q) {k : Fin 4} {v : Int32} (hI : q.2.2.2.2.1[pc]? = some (some (.iload_n k, 1, x))) (hL : L[(k : Nat)]? = some (some (.int v))) (kk : Ev Z d mi (pc + 1) L (.int v :: S) h Q) : Ev Z d mi pc L S h Q := e_step hM hI (by simp [ak_step, ak_sort, ak_load, ak_ldi, hL]) kk
theorem e_iload (hM : ak_M[mi]? = some q) {k : Nat} {v : Int32} (hI : q.2.2.2.2.1[pc]? = some (some (.iload k, 2, x))) (hL : L[k]? = some (some (.int v))) (kk : Ev Z d mi (pc + 2) L (.int v :: S) h Q) : Ev Z d mi pc L S h Q := e_step hM hI (by simp [ak_step, ak_sort, ak_load, ak_ldi, hL]) kk
theorem e_lload_n (hM : ak_M[mi]? = some q) {k : Fin 4} {v : Int64} (hI : q.2.2.2.2.1[pc]? = some (some (.lload_n k, 1, x))) (hL : L[(k : Nat)]? = some (some (.long v))) (kk : Ev Z d mi (pc + 1) L (.long v :: S) h Q) : Ev Z d mi pc L S h Q := e_step hM hI (by simp [ak_step, ak_sort, ak_load, ak_ldl, hL]) kk
theorem e_lload (hM : ak_M[mi]? = some q) {k : Nat} {v : Int64} (hI : q.2.2.2.2.1[pc]? = some (some (.lload k, 2, x))) (hL : L[k]? = some (some (.long v))) (kk : Ev Z d mi (pc + 2) L (.long v :: S) h Q) : Ev Z d mi pc L S h Q := e_step hM hI (by simp [ak_step, ak_sort, ak_load, ak_ldl, hL]) kk
theorem e_aload_n (hM : ak_M[mi]? = some q) {k : Fin 4} {v : Nat} (hI : q.2.2.2.2.1[pc]? = some (some (.aload_n k, 1, x))) (hL : L[(k : Nat)]? = some (some (.ref v))) (kk : Ev Z d mi (pc + 1) L (.ref v :: S) h Q) : Ev Z d mi pc L S h Q := e_step hM hI (by simp [ak_step, ak_sort, ak_load, ak_lda, hL]) kk
theorem e_aload (hM : ak_M[mi]? = some q) {k : Nat} {v : Nat} (hI : q.2.2.2.2.1[pc]? = some (some (.aload k, 2, x))) (hL : L[k]? = some (some (.ref v))) (kk : Ev Z d mi (pc + 2) L (.ref v :: S) h Q) : Ev Z d mi pc L S h Q := e_step hM hI (by simp [ak_step, ak_sort, ak_load, ak_lda, hL]) kk
theorem e_istore_n (hM : ak_M[mi]? = some q) {k : Fin 4} {v : Int32} {L2 : ak_L} (hI : q.2.2.2.2.1[pc]? = some (some (.istore_n k, 1, x))) (hL : ak_st1 L (k : Nat) (.int v) = some L2) (kk : Ev Z d mi (pc + 1) L2 S h Q) : Ev Z d mi pc L (.int v :: S) h Q := e_step hM hI (by simp [ak_step, ak_sort, ak_store, ak_stoi, hL]) kk
theorem e_istore (hM : ak_M[mi]? = some q) {k : Nat} {v : Int32} {L2 : ak_L} (hI : q.2.2.2.2.1[pc]? = some (some (.istore k, 2, x))) (hL : ak_st1 L k (.int v) = some L2) (kk : Ev Z d mi (pc + 2) L2 S h Q) : Ev Z d mi pc L (.int v :: S) h Q := e_step hM hI (by simp [ak_step, ak_sort, ak_store, ak_stoi, hL]) kk
theorem e_lstore_n (hM : ak_M[mi]? = some q) {k : Fin 4} {v : Int64} {L2 : ak_L} (hI : q.2.2.2.2.1[pc]? = some (some (.lstore_n k, 1, x))) (hL : ak_st2 L (k : Nat) (.long v) = some L2) (kk : Ev Z d mi (pc + 1) L2 S h Q) : Ev Z d mi pc L (.long v :: S) h Q := e_step hM hI (by simp [ak_step, ak_sort, ak_store, ak_stol, hL]) kk
theorem e_lstore (hM : ak_M[mi]? = some q) {k : Nat} {v : Int64} {L2 : ak_L} (hI : q.2.2.2.2.1[pc]? = some (some (.lstore k, 2, x))) (hL : ak_st2 L k (.long v) = some L2) (kk : Ev Z d mi (pc + 2) L2 S h Q) : Ev Z d mi pc L (.long v :: S) h Q := e_step hM hI (by simp [ak_step, ak_sort, ak_store, ak_stol, hL]) kk
theorem e_astore_n (hM : ak_M[mi]? = some q) {k : Fin 4} {v : Nat} {L2 : ak_L} (hI : q.2.2.2.2.1[pc]? = some (some (.astore_n k, 1, x))) (hL : ak_st1 L (k : Nat) (.ref v) = some L2) (kk : Ev Z d mi (pc + 1) L2 S h Q) : Ev Z d mi pc L (.ref v :: S) h Q := e_step hM hI (by simp [ak_step, ak_sort, ak_store, ak_stoa, hL]) kk
theorem e_astore (hM : ak_M[mi]? = some q) {k : Nat} {v : Nat} {L2 : ak_L} (hI : q.2.2.2.2.1[pc]? = some (some (.astore k, 2, x))) (hL : ak_st1 L k (.ref v) = some L2) (kk : Ev Z d mi (pc + 2) L2 S h Q) : Ev Z d mi pc L (.ref v :: S) h Q := e_step hM hI (by simp [ak_step, ak_sort, ak_store, ak_stoa, hL]) kk
theorem e_iinc (hM : ak_M[mi]? = some q) {k : Nat} {n : Int} {c v v2 : Int32} {L2 : ak_L} (hI : q.2.2.2.2.1[pc]? = some (some (.iinc k n, 3, x))) (hc : Int32.ofInt n = c) (hv : L[k]? = some (some (.int v))) (hL : ak_st1 L k (.int (v + c)) = some L2) (kk : Ev Z d mi (pc + 3) L2 S h Q) : Ev Z d mi pc L S h Q := e_step hM hI (by subst hc; simp [ak_step, ak_sort, ak_store, hv, hL]) kk
theorem e_goto (hM : ak_M[mi]? = some q) {off : Int} {t : Nat} (hI : q.2.2.2.2.1[pc]? = some (some (.goto off, 3, x))) (ht : (pc : Int) + off = Int.ofNat t) (kk : Ev Z d mi t L S h Q) : Ev Z d mi pc L S h Q := e_step hM hI (by simp only [ak_step, ak_sort, ak_jump, ht]) kk
theorem e_if_t (hM : ak_M[mi]? = some q) {c : Jvm.ClassFile.Cond} {off : Int} {t : Nat} {a : Int32} (hI : q.2.2.2.2.1[pc]? = some (some (.ifCond c off, 3, x))) (hc : ak_cnd c a 0 = true) (ht : (pc : Int) + off = Int.ofNat t) (kk : Ev Z d mi t L S h Q) : Ev Z d mi pc L (.int a :: S) h Q := e_step hM hI (by simp only [ak_step, ak_sort, ak_jump, hc, ht, if_true]) kk
theorem e_if_f (hM : ak_M[mi]? = some q) {c : Jvm.ClassFile.Cond} {off : Int} {a : Int32} (hI : q.2.2.2.2.1[pc]? = some (some (.ifCond c off, 3, x))) (hc : ak_cnd c a 0 = false) (kk : Ev Z d mi (pc + 3) L S h Q) : Ev Z d mi pc L (.int a :: S) h Q := e_step hM hI (by simp only [ak_step, ak_sort, ak_jump, hc]; rfl) kk
theorem e_ic_t (hM : ak_M[mi]? = some q) {c : Jvm.ClassFile.Cond} {off : Int} {t : Nat} {a b : Int32} (hI : q.2.2.2.2.1[pc]? = some (some (.if_icmp c off, 3, x))) (hc : ak_cnd c a b = true) (ht : (pc : Int) + off = Int.ofNat t) (kk : Ev Z d mi t L S h Q) : Ev Z d mi pc L (.int b :: .int a :: S) h Q := e_step hM hI (by simp only [ak_step, ak_sort, ak_jump, hc, ht, if_true]) kk
theorem e_ic_f (hM : ak_M[mi]? = some q) {c : Jvm.ClassFile.Cond} {off : Int} {a b : Int32} (hI : q.2.2.2.2.1[pc]? = some (some (.if_icmp c off, 3, x))) (hc : ak_cnd c a b = false) (kk : Ev Z d mi (pc + 3) L S h Q) : Ev Z d mi pc L (.int b :: .int a :: S) h Q := e_step hM hI (by simp only [ak_step, ak_sort, ak_jump, hc]; rfl) kk
theorem e_tsw (hM : ak_M[mi]? = some q) {dflt lo hi : Int} {offs : Array Int} {w2 t : Nat} {a : Int32} (hI : q.2.2.2.2.1[pc]? = some (some (.tableswitch dflt lo hi offs, w2, x))) (hj : ak_jump (.tableswitch dflt lo hi offs) w2 pc (.int a :: S) = some (Int.ofNat t, S)) (kk : Ev Z d mi t L S h Q) : Ev Z d mi pc L (.int a :: S) h Q := e_step hM hI (by simp only [ak_step, ak_sort, hj]) kk
theorem e_getI (hM : ak_M[mi]? = some q) {i ci k e : Nat} {f : Int} (hI : q.2.2.2.2.1[pc]? = some (some (.getfield i, 3, (1, ci, k, f)))) (hc : mm_SH[e]? = some (.inl ci)) (ht : (ak_F.getD ci []).getD k 9 = 0) (kk : Ev Z d mi (pc + 3) L (.int (M.1 e k) :: S) (mm_H M) Q) : Ev Z d mi pc L (.ref e :: S) (mm_H M) Q := e_step hM hI (by simp [-List.getD_eq_getElem?_getD, ak_step, ak_sort, ak_mem, mm_H, ak_fv, hc, ht]) kk
theorem e_getZ (hM : ak_M[mi]? = some q) {i ci k e : Nat} {f : Int} (hI : q.2.2.2.2.1[pc]? = some (some (.getfield i, 3, (1, ci, k, f)))) (hc : mm_SH[e]? = some (.inl ci)) (ht : (ak_F.getD ci []).getD k 9 = 1) (kk : Ev Z d mi (pc + 3) L (.int (M.1 e k) :: S) (mm_H M) Q) : Ev Z d mi pc L (.ref e :: S) (mm_H M) Q := e_step hM hI (by simp [-List.getD_eq_getElem?_getD, ak_step, ak_sort, ak_mem, mm_H, ak_fv, hc, ht]) kk
theorem e_getJ (hM : ak_M[mi]? = some q) {i : Nat} {f : Int} (hI : q.2.2.2.2.1[pc]? = some (some (.getfield i, 3, (1, 12, 23, f))))  (kk : Ev Z d mi (pc + 3) L (.long M.2.2 :: S) (mm_H M) Q) : Ev Z d mi pc L (.ref 73 :: S) (mm_H M) Q := e_step hM hI (rfl) kk
theorem e_getR (hM : ak_M[mi]? = some q) {i ci k e a : Nat} {f : Int} (hI : q.2.2.2.2.1[pc]? = some (some (.getfield i, 3, (1, ci, k, f)))) (hc : mm_SH[e]? = some (.inl ci)) (ht : (ak_F.getD ci []).getD k 9 = 3) (hr : mm_R M.2.1 e k = some a) (kk : Ev Z d mi (pc + 3) L (.ref a :: S) (mm_H M) Q) : Ev Z d mi pc L (.ref e :: S) (mm_H M) Q := e_step hM hI (by simp [-List.getD_eq_getElem?_getD, ak_step, ak_sort, ak_mem, mm_H, ak_fv, hc, ht, hr, va_rf]) kk
theorem e_putI (hM : ak_M[mi]? = some q) {i ci k e : Nat} {a : Int32} (hI : q.2.2.2.2.1[pc]? = some (some (.putfield i, 3, (1, ci, k, 0)))) (hc : mm_SH[e]? = some (.inl ci)) (ht : (ak_F.getD ci []).getD k 9 = 0) (kk : Ev Z d mi (pc + 3) L S (mm_H (ak_up M.1 e k a, M.2)) Q) : Ev Z d mi pc L (.int a :: .ref e :: S) (mm_H M) Q := e_step hM hI (by simp [-List.getD_eq_getElem?_getD, ak_step, ak_sort, ak_mem, mm_H, ak_fp, hc, ht]) kk
theorem e_putZ (hM : ak_M[mi]? = some q) {i ci k e : Nat} {a : Int32} (hI : q.2.2.2.2.1[pc]? = some (some (.putfield i, 3, (1, ci, k, 0)))) (hc : mm_SH[e]? = some (.inl ci)) (ht : (ak_F.getD ci []).getD k 9 = 1) (ha : a = 0 ∨ a = 1) (kk : Ev Z d mi (pc + 3) L S (mm_H (ak_up M.1 e k a, M.2)) Q) : Ev Z d mi pc L (.int a :: .ref e :: S) (mm_H M) Q := e_step hM hI (by simp [-List.getD_eq_getElem?_getD, ak_step, ak_sort, ak_mem, mm_H, ak_fp, hc, ht, ha]) kk
theorem e_putJ (hM : ak_M[mi]? = some q) {i : Nat} {a : Int64} (hI : q.2.2.2.2.1[pc]? = some (some (.putfield i, 3, (1, 12, 23, 0))))  (kk : Ev Z d mi (pc + 3) L S (mm_H (M.1, M.2.1, a)) Q) : Ev Z d mi pc L (.long a :: .ref 73 :: S) (mm_H M) Q := e_step hM hI (by
  have e : ak_up (mm_J M.2.2) 73 23 a = mm_J a := mm_J_up _ _
  show some (Sum.inl (pc + 3, L, S, (mm_SH, M.1, ak_up (mm_J M.2.2) 73 23 a, mm_R M.2.1))) = _
  rw [e]
  rfl) kk
theorem e_putS (hM : ak_M[mi]? = some q) {i a : Nat} (hI : q.2.2.2.2.1[pc]? = some (some (.putfield i, 3, (1, 5, 1, 0))))  (kk : Ev Z d mi (pc + 3) L S (mm_H (M.1, a, M.2.2)) Q) : Ev Z d mi pc L (.ref a :: .ref 55 :: S) (mm_H M) Q := e_step hM hI (by
  have e : ak_up (mm_R M.2.1) 55 1 (some a) = mm_R a := mm_R_up _ _
  show some (Sum.inl (pc + 3, L, S, (mm_SH, M.1, mm_J M.2.2, ak_up (mm_R M.2.1) 55 1 (some a)))) = _
  rw [e]
  rfl) kk
theorem e_iald (hM : ak_M[mi]? = some q) {r n : Nat} {a : Int32} (hI : q.2.2.2.2.1[pc]? = some (some (.iaload, 1, x))) (hc : mm_SH[r]? = some (.inr (0, n))) (hi : ak_inb a n = true) (kk : Ev Z d mi (pc + 1) L (.int (M.1 r a.toNatClampNeg) :: S) (mm_H M) Q) : Ev Z d mi pc L (.int a :: .ref r :: S) (mm_H M) Q := e_step hM hI (by simp [ak_step, ak_sort, ak_mem, mm_H, hc, hi]) kk
theorem e_zald (hM : ak_M[mi]? = some q) {r n : Nat} {a : Int32} (hI : q.2.2.2.2.1[pc]? = some (some (.baload, 1, x))) (hc : mm_SH[r]? = some (.inr (1, n))) (hi : ak_inb a n = true) (kk : Ev Z d mi (pc + 1) L (.int (M.1 r a.toNatClampNeg) :: S) (mm_H M) Q) : Ev Z d mi pc L (.int a :: .ref r :: S) (mm_H M) Q := e_step hM hI (by simp [ak_step, ak_sort, ak_mem, mm_H, hc, hi]) kk
theorem e_aald (hM : ak_M[mi]? = some q) {r n t v : Nat} {a : Int32} (hI : q.2.2.2.2.1[pc]? = some (some (.aaload, 1, x))) (hc : mm_SH[r]? = some (.inr (t, n))) (ht : ak_arr t = true) (hi : ak_inb a n = true) (hr : mm_R M.2.1 r a.toNatClampNeg = some v) (kk : Ev Z d mi (pc + 1) L (.ref v :: S) (mm_H M) Q) : Ev Z d mi pc L (.int a :: .ref r :: S) (mm_H M) Q := e_step hM hI (by simp [ak_step, ak_sort, ak_mem, mm_H, hc, hi, ht, hr, va_rf]) kk
theorem e_alen (hM : ak_M[mi]? = some q) {r n t : Nat} {v : Int32} (hI : q.2.2.2.2.1[pc]? = some (some (.arraylength, 1, x))) (hc : mm_SH[r]? = some (.inr (t, n))) (ht : t < 5) (hv : Int32.ofNat n = v) (kk : Ev Z d mi (pc + 1) L (.int v :: S) (mm_H M) Q) : Ev Z d mi pc L (.ref r :: S) (mm_H M) Q := e_step hM hI (by simp [ak_step, ak_sort, ak_mem, mm_H, hc, ht, hv]) kk
theorem e_slen (hM : ak_M[mi]? = some q) {r n : Nat} {b : Bool} {f : Nat → Int32} {v : Int32} (hI : q.2.2.2.2.1[pc]? = some (some (.arraylength, 1, x))) (hc : mm_SH[r]? = none) (hs : ak_sa Z r = some (b, n, f)) (hv : Int32.ofNat n = v) (kk : Ev Z d mi (pc + 1) L (.int v :: S) (mm_H M) Q) : Ev Z d mi pc L (.ref r :: S) (mm_H M) Q := e_step hM hI (by simp [ak_step, ak_sort, ak_mem, mm_H, hc, hs, hv]) kk
theorem e_siald (hM : ak_M[mi]? = some q) {r n : Nat} {f : Nat → Int32} {a : Int32} (hI : q.2.2.2.2.1[pc]? = some (some (.iaload, 1, x))) (hc : mm_SH[r]? = none) (hs : ak_sa Z r = some (false, n, f)) (hi : ak_inb a n = true) (kk : Ev Z d mi (pc + 1) L (.int (f a.toNatClampNeg) :: S) (mm_H M) Q) : Ev Z d mi pc L (.int a :: .ref r :: S) (mm_H M) Q := e_step hM hI (by simp [ak_step, ak_sort, ak_mem, mm_H, hc, hs, hi]) kk
theorem e_sbald (hM : ak_M[mi]? = some q) {r n : Nat} {f : Nat → Int32} {a : Int32} (hI : q.2.2.2.2.1[pc]? = some (some (.baload, 1, x))) (hc : mm_SH[r]? = none) (hs : ak_sa Z r = some (true, n, f)) (hi : ak_inb a n = true) (kk : Ev Z d mi (pc + 1) L (.int (f a.toNatClampNeg) :: S) (mm_H M) Q) : Ev Z d mi pc L (.int a :: .ref r :: S) (mm_H M) Q := e_step hM hI (by simp [ak_step, ak_sort, ak_mem, mm_H, hc, hs, hi]) kk
theorem e_iast (hM : ak_M[mi]? = some q) {r n : Nat} {a v : Int32} (hI : q.2.2.2.2.1[pc]? = some (some (.iastore, 1, x))) (hc : mm_SH[r]? = some (.inr (0, n))) (hi : ak_inb a n = true) (kk : Ev Z d mi (pc + 1) L S (mm_H (ak_up M.1 r a.toNatClampNeg v, M.2)) Q) : Ev Z d mi pc L (.int v :: .int a :: .ref r :: S) (mm_H M) Q := e_step hM hI (by simp [ak_step, ak_sort, ak_mem, mm_H, hc, hi]) kk
theorem e_zast (hM : ak_M[mi]? = some q) {r n : Nat} {a v : Int32} (hI : q.2.2.2.2.1[pc]? = some (some (.bastore, 1, x))) (hc : mm_SH[r]? = some (.inr (1, n))) (hi : ak_inb a n = true) (hv : v = 0 ∨ v = 1) (kk : Ev Z d mi (pc + 1) L S (mm_H (ak_up M.1 r a.toNatClampNeg v, M.2)) Q) : Ev Z d mi pc L (.int v :: .int a :: .ref r :: S) (mm_H M) Q := e_step hM hI (by simp [ak_step, ak_sort, ak_mem, mm_H, hc, hi, hv]) kk
theorem e_gets (hM : ak_M[mi]? = some q) {i a r : Nat} {n : Int} (hI : q.2.2.2.2.1[pc]? = some (some (.getstatic i, 3, (3, a, 0, n)))) (ha : a = 0 ∧ r = 2000000 ∨ a = 1 ∧ r = 2000001) (kk : Ev Z d mi (pc + 3) L (.ref r :: S) h Q) : Ev Z d mi pc L S h Q := e_step hM hI (by rcases ha with ⟨rfl, rfl⟩ | ⟨rfl, rfl⟩ <;> rfl) kk
theorem e_getc (hM : ak_M[mi]? = some q) {i : Nat} {n : Int} (hI : q.2.2.2.2.1[pc]? = some (some (.getstatic i, 3, (3, 2, 0, n))))  (kk : Ev Z d mi (pc + 3) L (.int 1 :: S) h Q) : Ev Z d mi pc L S h Q := e_step hM hI (rfl) kk
theorem e_getu (hM : ak_M[mi]? = some q) {i : Nat} {n : Int} (hI : q.2.2.2.2.1[pc]? = some (some (.getstatic i, 3, (3, 3, 0, n))))  (kk : Ev Z d mi (pc + 3) L (.retAddr 0 :: S) h Q) : Ev Z d mi pc L S h Q := e_step hM hI (rfl) kk
theorem e_inst (hM : ak_M[mi]? = some q) {i j c r : Nat} {n : Int} {t : Nat} {v : Int32} (hI : q.2.2.2.2.1[pc]? = some (some (.instanceof i, 3, (7, j, t, n)))) (hc : mm_SH[r]? = some (.inl c)) (h6 : c = 0 ∨ c = 1 ∨ c = 2 ∨ c = 3 ∨ c = 4 ∨ c = 9) (h5 : j = 0 ∨ j = 1 ∨ j = 2 ∨ j = 4 ∨ j = 9) (hv : (if ak_sub c j = true then (1 : Int32) else 0) = v) (kk : Ev Z d mi (pc + 3) L (.int v :: S) (mm_H M) Q) : Ev Z d mi pc L (.ref r :: S) (mm_H M) Q := e_step hM hI (by simp only [ak_step, ak_sort, ak_mem, mm_H, hc, if_pos (And.intro h6 h5), hv]; rfl) kk
theorem e_min (hM : ak_M[mi]? = some q) {i : Nat} {n1 n2 : Nat} {n3 : Int} {a b : Int32} (hI : q.2.2.2.2.1[pc]? = some (some (.invokestatic i, 3, (19, n1, n2, n3)))) (hS : (S.map fun v => v.category).sum ≤ 8) (kk : Ev Z (d + 1) mi (pc + 3) L (.int (if b < a then b else a) :: S) h Q) : Ev Z (d + 1) mi pc L (.int b :: .int a :: S) h Q := e_step hM hI (by simp [ak_step, ak_sort, ak_mem, hS]) kk
theorem e_max (hM : ak_M[mi]? = some q) {i : Nat} {n1 n2 : Nat} {n3 : Int} {a b : Int32} (hI : q.2.2.2.2.1[pc]? = some (some (.invokestatic i, 3, (20, n1, n2, n3)))) (hS : (S.map fun v => v.category).sum ≤ 8) (kk : Ev Z (d + 1) mi (pc + 3) L (.int (if a < b then b else a) :: S) h Q) : Ev Z (d + 1) mi pc L (.int b :: .int a :: S) h Q := e_step hM hI (by simp [ak_step, ak_sort, ak_mem, hS]) kk
theorem e_cpy (hM : ak_M[mi]? = some q) {i : Nat} {n1 n2 : Nat} {n3 : Int} {a b m1 m2 : Nat} {n dp sp : Int32} (hI : q.2.2.2.2.1[pc]? = some (some (.invokestatic i, 3, (17, n1, n2, n3)))) (ha : mm_SH[a]? = some (.inr (0, m1))) (hb : mm_SH[b]? = some (.inr (0, m2))) (hS : (S.map fun v => v.category).sum ≤ 8) (h1 : ¬ sp < 0) (h2 : ¬ dp < 0) (h3 : ¬ n < 0) (h4 : sp.toNatClampNeg + n.toNatClampNeg ≤ m1) (h5 : dp.toNatClampNeg + n.toNatClampNeg ≤ m2) (kk : Ev Z (d + 1) mi (pc + 3) L S (mm_H (ak_cpy M.1 a sp.toNatClampNeg b dp.toNatClampNeg n.toNatClampNeg, M.2)) Q) : Ev Z (d + 1) mi pc L (.int n :: .int dp :: .ref b :: .int sp :: .ref a :: S) (mm_H M) Q := e_step hM hI (by
  have h6 : ak_N0 ≤ mm_SH.length := by decide
  have hall : d + 1 ≠ 0 ∧ ak_N0 ≤ (mm_H M).1.length ∧ (S.map fun v => v.category).sum ≤ 8 ∧ ¬ sp < 0 ∧ ¬ dp < 0 ∧ ¬ n < 0 ∧ sp.toNatClampNeg + n.toNatClampNeg ≤ m1 ∧ dp.toNatClampNeg + n.toNatClampNeg ≤ m2 := ⟨by omega, h6, hS, h1, h2, h3, h4, h5⟩
  have ha2 : (mm_H M).1[a]? = some (.inr (0, m1)) := ha
  have hb2 : (mm_H M).1[b]? = some (.inr (0, m2)) := hb
  simp only [ak_step, ak_sort, ak_mem, ha2, hb2, if_pos hall]
  rfl) kk
theorem e_iret (hM : ak_M[mi]? = some q) {v : Int32} (hI : q.2.2.2.2.1[pc]? = some (some (.ireturn, 1, x))) (hr : q.2.2.2.1 = some .int) (kk : Q (some (.int v)) h) : Ev Z d mi pc L [.int v] h Q := e_ret hM hI (by simp [ak_step, ak_sort, ak_ret, hr]) kk
theorem e_zret (hM : ak_M[mi]? = some q) {v : Int32} (hI : q.2.2.2.2.1[pc]? = some (some (.ireturn, 1, x))) (hr : q.2.2.2.1 = some .boolean) (hv : v = 0 ∨ v = 1) (kk : Q (some (.int v)) h) : Ev Z d mi pc L [.int v] h Q := e_ret hM hI (by simp [ak_step, ak_sort, ak_ret, hr, hv]) kk
theorem e_cret (hM : ak_M[mi]? = some q) {v : Int32} (hI : q.2.2.2.2.1[pc]? = some (some (.ireturn, 1, x))) (hr : q.2.2.2.1 = some .char) (hv : narrow .char (.int v) = .int v) (kk : Q (some (.int v)) h) : Ev Z d mi pc L [.int v] h Q := e_ret hM hI (by simp only [ak_step, ak_sort, ak_ret, hr, if_pos hv]; rfl) kk
theorem e_bret (hM : ak_M[mi]? = some q) {v : Int32} (hI : q.2.2.2.2.1[pc]? = some (some (.ireturn, 1, x))) (hr : q.2.2.2.1 = some .byte) (hv : narrow .byte (.int v) = .int v) (kk : Q (some (.int v)) h) : Ev Z d mi pc L [.int v] h Q := e_ret hM hI (by simp only [ak_step, ak_sort, ak_ret, hr, if_pos hv]; rfl) kk
theorem e_lret (hM : ak_M[mi]? = some q) {v : Int64} (hI : q.2.2.2.2.1[pc]? = some (some (.lreturn, 1, x))) (hr : q.2.2.2.1 = some .long) (kk : Q (some (.long v)) h) : Ev Z d mi pc L [.long v] h Q := e_ret hM hI (by simp [ak_step, ak_sort, ak_ret, hr]) kk
theorem e_aret (hM : ak_M[mi]? = some q) {v : Nat} {cn : String} (hI : q.2.2.2.2.1[pc]? = some (some (.areturn, 1, x))) (hr : q.2.2.2.1 = some (.object cn)) (kk : Q (some (.ref v)) h) : Ev Z d mi pc L [.ref v] h Q := e_ret hM hI (by simp [ak_step, ak_sort, ak_ret, hr]) kk
theorem e_aret2 (hM : ak_M[mi]? = some q) {v : Nat} {t : FieldType} (hI : q.2.2.2.2.1[pc]? = some (some (.areturn, 1, x))) (hr : q.2.2.2.1 = some (.array t)) (kk : Q (some (.ref v)) h) : Ev Z d mi pc L [.ref v] h Q := e_ret hM hI (by simp [ak_step, ak_sort, ak_ret, hr]) kk
theorem e_vret (hM : ak_M[mi]? = some q)  (hI : q.2.2.2.2.1[pc]? = some (some (.return_, 1, x))) (hr : q.2.2.2.1 = none) (kk : Q none h) : Ev Z d mi pc L [] h Q := e_ret hM hI (by simp [ak_step, ak_sort, ak_ret, hr]) kk
end EI
theorem ct_eq {a b : Int32} (h : a = b) : ak_cnd .eq a b = true := by simp [ak_cnd, h]
theorem cf_eq {a b : Int32} (h : ¬ a = b) : ak_cnd .eq a b = false := by simp [ak_cnd, h]
theorem ct_ne {a b : Int32} (h : ¬ a = b) : ak_cnd .ne a b = true := by simp [ak_cnd, h]
theorem cf_ne {a b : Int32} (h : a = b) : ak_cnd .ne a b = false := by simp [ak_cnd, h]
theorem ct_lt {a b : Int32} (h : a < b) : ak_cnd .lt a b = true := by simp [ak_cnd, h]
theorem cf_lt {a b : Int32} (h : ¬ a < b) : ak_cnd .lt a b = false := by simpa [ak_cnd] using Int32.not_lt.mp h
theorem ct_ge {a b : Int32} (h : ¬ a < b) : ak_cnd .ge a b = true := by simpa [ak_cnd] using Int32.not_lt.mp h
theorem cf_ge {a b : Int32} (h : a < b) : ak_cnd .ge a b = false := by simpa [ak_cnd] using h
theorem ct_gt {a b : Int32} (h : b < a) : ak_cnd .gt a b = true := by simp [ak_cnd, h]
theorem cf_gt {a b : Int32} (h : ¬ b < a) : ak_cnd .gt a b = false := by simpa [ak_cnd] using Int32.not_lt.mp h
theorem ct_le {a b : Int32} (h : ¬ b < a) : ak_cnd .le a b = true := by simpa [ak_cnd] using Int32.not_lt.mp h
theorem cf_le {a b : Int32} (h : b < a) : ak_cnd .le a b = false := by simpa [ak_cnd] using h
theorem tsw_out {dflt lo hi : Int} {offs : Array Int} {w pc t : Nat} {a : Int32} {S : List Value} (h : a.toInt < lo ∨ hi < a.toInt) (ht : (pc : Int) + dflt = Int.ofNat t) : ak_jump (.tableswitch dflt lo hi offs) w pc (.int a :: S) = some (Int.ofNat t, S) := by
  simp only [ak_jump, if_pos h, ht]
theorem i32_ne {a c : Int32} (h : ¬ a = c) : a.toInt ≠ c.toInt := fun z => h (Int32.toInt_inj.mp z)
section EC
variable {Z : ak_Z} {d mi pc : Nat} {L Lj : ak_L} {S st : List Value} {Q : Option Value → ak_H → Prop} {q qj : ak_Q} {M : mm_M}
theorem e_virt (hM : ak_M[mi]? = some q) {i mj n e : Nat} {ci : Int} (hI : q.2.2.2.2.1[pc]? = some (some (.invokevirtual i, 3, (8, mj, n, ci)))) (hd : S.drop n = .ref e :: st) (ht : (S.take n).length = n) (hc : mm_SH[e]? = some (.inl ci.toNat)) (hs : (st.map fun v => v.category).sum ≤ 8) (hMj : ak_M[mj]? = some qj) (hL : ak_ent qj.2.2.1 (.ref e :: (S.take n).reverse) = Lj) (hl : Lj.length = qj.2.2.1)
    (kk : Ev Z d mj 0 Lj [] (mm_H M) (fun r h1 => Ev Z (d + 1) mi (pc + 3) L (r.toList ++ st) h1 Q)) : Ev Z (d + 1) mi pc L S (mm_H M) Q :=
  e_call hM hI (as := .ref e :: (S.take n).reverse) (rest := st) (by
    have hall : (mm_H M).1[e]? = some (.inl ci.toNat) ∧ (S.take n).length = n ∧ (st.map fun v => v.category).sum ≤ 8 := ⟨hc, ht, hs⟩
    simp only [ak_step, ak_sort, ak_mem, ak_call, hd, if_pos hall]
    rfl) hMj hL hl kk
theorem e_stat (hM : ak_M[mi]? = some q) {i mj n t : Nat} {ci : Int} (hI : q.2.2.2.2.1[pc]? = some (some (.invokestatic i, 3, (t, mj, n, ci)))) (h3 : t = 11 ∨ t = 12 ∨ t = 13) (hd : S.drop n = st) (ht : (S.take n).length = n) (hs : (st.map fun v => v.category).sum ≤ 8) (hMj : ak_M[mj]? = some qj) (hL : ak_ent qj.2.2.1 (S.take n).reverse = Lj) (hl : Lj.length = qj.2.2.1)
    (kk : Ev Z d mj 0 Lj [] (mm_H M) (fun r h1 => Ev Z (d + 1) mi (pc + 3) L (r.toList ++ st) h1 Q)) : Ev Z (d + 1) mi pc L S (mm_H M) Q := by
  subst hd
  have hall : (S.take n).length = n ∧ ((S.drop n).map fun v => v.category).sum ≤ 8 := ⟨ht, hs⟩
  refine e_call hM hI (as := (S.take n).reverse) (rest := S.drop n) ?_ hMj hL hl kk
  rcases h3 with rfl | rfl | rfl <;> (simp only [ak_step, ak_sort, ak_mem, ak_call, if_pos hall]; rfl)
theorem e_spec (hM : ak_M[mi]? = some q) {i mj n t e c : Nat} {ci : Int} (hI : q.2.2.2.2.1[pc]? = some (some (.invokespecial i, 3, (t, mj, n, ci)))) (h3 : t = 15 ∨ t = 18) (hd : S.drop n = .ref e :: st) (ht : (S.take n).length = n) (hc : mm_SH[e]? = some (.inl c)) (hs : (st.map fun v => v.category).sum ≤ 8) (hMj : ak_M[mj]? = some qj) (hL : ak_ent qj.2.2.1 (.ref e :: (S.take n).reverse) = Lj) (hl : Lj.length = qj.2.2.1)
    (kk : Ev Z d mj 0 Lj [] (mm_H M) (fun r h1 => Ev Z (d + 1) mi (pc + 3) L (r.toList ++ st) h1 Q)) : Ev Z (d + 1) mi pc L S (mm_H M) Q := by
  have hc' : (mm_H M).1[e]? = some (.inl c) := hc
  have hall : (S.take n).length = n ∧ (st.map fun v => v.category).sum ≤ 8 := ⟨ht, hs⟩
  refine e_call hM hI (as := .ref e :: (S.take n).reverse) (rest := st) ?_ hMj hL hl kk
  rcases h3 with rfl | rfl <;> (simp only [ak_step, ak_sort, ak_mem, ak_call, hd, hc', if_pos hall]; rfl)
theorem e_fam (hM : ak_M[mi]? = some q) {i mj n f e c : Nat} {ci : Int} (hI : q.2.2.2.2.1[pc]? = some (some (.invokevirtual i, 3, (10, f, n, ci)))) (hd : S.drop n = .ref e :: st) (ht : (S.take n).length = n) (hc : mm_SH[e]? = some (.inl c)) (hf : ak_fam f c = some mj) (hs : (st.map fun v => v.category).sum ≤ 8) (hMj : ak_M[mj]? = some qj) (hL : ak_ent qj.2.2.1 (.ref e :: (S.take n).reverse) = Lj) (hl : Lj.length = qj.2.2.1)
    (kk : Ev Z d mj 0 Lj [] (mm_H M) (fun r h1 => Ev Z (d + 1) mi (pc + 3) L (r.toList ++ st) h1 Q)) : Ev Z (d + 1) mi pc L S (mm_H M) Q := by
  have hc' : (mm_H M).1[e]? = some (.inl c) := hc
  have hall : (S.take n).length = n ∧ (st.map fun v => v.category).sum ≤ 8 := ⟨ht, hs⟩
  refine e_call hM hI (as := .ref e :: (S.take n).reverse) (rest := st) ?_ hMj hL hl kk
  simp only [ak_step, ak_sort, ak_mem, ak_call, hd, hc', hf, if_pos hall]
  rfl
theorem e_strc (hM : ak_M[mi]? = some q) {i mj n e : Nat} {ci : Int} (hI : q.2.2.2.2.1[pc]? = some (some (.invokevirtual i, 3, (9, mj, n, ci)))) (hd : S.drop n = .ref e :: st) (ht : (S.take n).length = n) (hc : 1000000 ≤ e ∧ e < 1000012) (hs : (st.map fun v => v.category).sum ≤ 8) (hMj : ak_M[mj]? = some qj) (hL : ak_ent qj.2.2.1 (.ref e :: (S.take n).reverse) = Lj) (hl : Lj.length = qj.2.2.1)
    (kk : Ev Z d mj 0 Lj [] (mm_H M) (fun r h1 => Ev Z (d + 1) mi (pc + 3) L (r.toList ++ st) h1 Q)) : Ev Z (d + 1) mi pc L S (mm_H M) Q := by
  have hall : (1000000 ≤ e ∧ e < 1000012) ∧ (S.take n).length = n ∧ (st.map fun v => v.category).sum ≤ 8 := ⟨hc, ht, hs⟩
  refine e_call hM hI (as := .ref e :: (S.take n).reverse) (rest := st) ?_ hMj hL hl kk
  simp only [ak_step, ak_sort, ak_mem, ak_call, hd, if_pos hall]
  rfl
theorem e_sfv (hM : ak_M[mi]? = some q) {i e : Nat} {ci : Int} {n : Nat} (hI : q.2.2.2.2.1[pc]? = some (some (.getfield i, 3, (2, 0, n, ci)))) (hc : 1000000 ≤ e ∧ e < 1000012) (kk : Ev Z d mi (pc + 3) L (.ref (e + 100) :: S) (mm_H M) Q) : Ev Z d mi pc L (.ref e :: S) (mm_H M) Q :=
  e_step hM hI (by simp only [ak_step, ak_sort, ak_mem, if_pos hc]; rfl) kk
theorem e_sfc (hM : ak_M[mi]? = some q) {i e : Nat} {ci : Int} {n : Nat} (hI : q.2.2.2.2.1[pc]? = some (some (.getfield i, 3, (2, 1, n, ci)))) (hc : 1000000 ≤ e ∧ e < 1000012) (kk : Ev Z d mi (pc + 3) L (.int 0 :: S) (mm_H M) Q) : Ev Z d mi pc L (.ref e :: S) (mm_H M) Q :=
  e_step hM hI (by simp only [ak_step, ak_sort, ak_mem, if_pos hc]; rfl) kk
end EC
theorem mm_ite {α : Type} {p : Prop} [Decidable p] {A : Option α} {y : α} (h : (if p then A else none) = some y) : p ∧ A = some y := by
  split at h
  · rename_i hp
    exact ⟨hp, h⟩
  · cases h
theorem mm_bd {α β : Type} {o : Option α} {f : α → Option β} {y : β} (h : o.bind f = some y) : ∃ a, o = some a ∧ f a = some y := Option.bind_eq_some_iff.mp h
abbrev i_min (a b : Int32) : Int32 := if b < a then b else a
abbrev i_max (a b : Int32) : Int32 := if a < b then b else a
def mm_isS (w : Nat) : Bool := decide (1000000 ≤ w) && decide (w < 1000012)
theorem mm_inS {w : Nat} (h : mm_isS w = true) : 1000000 ≤ w ∧ w < 1000012 := by
  unfold mm_isS at h
  simpa using h
def str_l (w : Nat) : List Int32 := ak_strs.getD (w - 1000000) []
def str_len (w : Nat) : Int32 := Int32.ofNat (str_l w).length
def str_at (w k : Nat) : Int32 := (str_l w).getD k 0
end

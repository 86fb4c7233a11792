section
-- ===== PART A: goes FIRST, ahead of the names: the tables' words, and 'selects' of the private methods out of them =====
/-- a private method of a class that the tables say can be made, by its rows of tables_1 -/
def lw_okq (q : MethodName × Nat) : Prop := (q.1.cls ≠ "java/lang/invoke/MethodHandle" ∧ q.1.cls ≠ "java/lang/invoke/VarHandle") ∧ Cond.instantiable q.1.cls q.2 ∈ tables_1 ∧ Cond.privateMethod q.1 ∈ tables_1 ∧ Cond.instanceMethod q.1 ∈ tables_1
theorem lw_p0 : lw_okq (⟨"NotBothInAugust$Shop", "rowOf", "(I)[I"⟩, 12) := ⟨⟨by decide +kernel, by decide +kernel⟩, List.mem_of_getElem? (i := 30) (by decide +kernel), List.mem_of_getElem? (i := 326) (by decide +kernel), List.mem_of_getElem? (i := 327) (by decide +kernel)⟩
theorem lw_p1 : lw_okq (⟨"NotBothInAugust$Rules", "nameWeek", "(LNotBothInAugust$Shop;II)V"⟩, 5) := ⟨⟨by decide +kernel, by decide +kernel⟩, List.mem_of_getElem? (i := 92) (by decide +kernel), List.mem_of_getElem? (i := 372) (by decide +kernel), List.mem_of_getElem? (i := 373) (by decide +kernel)⟩
theorem lw_p2 : lw_okq (⟨"NotBothInAugust$Rules", "nameOne", "(LNotBothInAugust$Shop;I)V"⟩, 5) := ⟨⟨by decide +kernel, by decide +kernel⟩, List.mem_of_getElem? (i := 92) (by decide +kernel), List.mem_of_getElem? (i := 376) (by decide +kernel), List.mem_of_getElem? (i := 377) (by decide +kernel)⟩
theorem lw_p3 : lw_okq (⟨"NotBothInAugust$Rules", "kindAt", "(I)LNotBothInAugust$Clerk;"⟩, 5) := ⟨⟨by decide +kernel, by decide +kernel⟩, List.mem_of_getElem? (i := 92) (by decide +kernel), List.mem_of_getElem? (i := 408) (by decide +kernel), List.mem_of_getElem? (i := 409) (by decide +kernel)⟩
theorem lw_p4 : lw_okq (⟨"NotBothInAugust", "toldOfWeek", "(II)I"⟩, 9) := ⟨⟨by decide +kernel, by decide +kernel⟩, List.mem_of_getElem? (i := 22) (by decide +kernel), List.mem_of_getElem? (i := 503) (by decide +kernel), List.mem_of_getElem? (i := 504) (by decide +kernel)⟩
theorem lw_p5 : lw_okq (⟨"NotBothInAugust$Text", "advance", "()V"⟩, 12) := ⟨⟨by decide +kernel, by decide +kernel⟩, List.mem_of_getElem? (i := 142) (by decide +kernel), List.mem_of_getElem? (i := 523) (by decide +kernel), List.mem_of_getElem? (i := 524) (by decide +kernel)⟩
theorem lw_p6 : lw_okq (⟨"NotBothInAugust$Text", "isBlank", "(I)Z"⟩, 12) := ⟨⟨by decide +kernel, by decide +kernel⟩, List.mem_of_getElem? (i := 142) (by decide +kernel), List.mem_of_getElem? (i := 527) (by decide +kernel), List.mem_of_getElem? (i := 528) (by decide +kernel)⟩
theorem lw_p7 : lw_okq (⟨"NotBothInAugust$Text", "isLetter", "(I)Z"⟩, 12) := ⟨⟨by decide +kernel, by decide +kernel⟩, List.mem_of_getElem? (i := 142) (by decide +kernel), List.mem_of_getElem? (i := 531) (by decide +kernel), List.mem_of_getElem? (i := 532) (by decide +kernel)⟩
theorem lw_p8 : lw_okq (⟨"NotBothInAugust$Text", "advanceOverWord", "()V"⟩, 12) := ⟨⟨by decide +kernel, by decide +kernel⟩, List.mem_of_getElem? (i := 142) (by decide +kernel), List.mem_of_getElem? (i := 535) (by decide +kernel), List.mem_of_getElem? (i := 536) (by decide +kernel)⟩
theorem lw_p9 : lw_okq (⟨"NotBothInAugust$Text", "key", "()I"⟩, 12) := ⟨⟨by decide +kernel, by decide +kernel⟩, List.mem_of_getElem? (i := 142) (by decide +kernel), List.mem_of_getElem? (i := 539) (by decide +kernel), List.mem_of_getElem? (i := 540) (by decide +kernel)⟩
theorem lw_p10 : lw_okq (⟨"NotBothInAugust$Text", "isWord", "(Ljava/lang/String;)Z"⟩, 12) := ⟨⟨by decide +kernel, by decide +kernel⟩, List.mem_of_getElem? (i := 142) (by decide +kernel), List.mem_of_getElem? (i := 544) (by decide +kernel), List.mem_of_getElem? (i := 545) (by decide +kernel)⟩
theorem lw_p11 : lw_okq (⟨"NotBothInAugust$Text", "name", "()I"⟩, 12) := ⟨⟨by decide +kernel, by decide +kernel⟩, List.mem_of_getElem? (i := 142) (by decide +kernel), List.mem_of_getElem? (i := 601) (by decide +kernel), List.mem_of_getElem? (i := 602) (by decide +kernel)⟩
theorem lw_p12 : lw_okq (⟨"NotBothInAugust$Text", "fail", "()V"⟩, 12) := ⟨⟨by decide +kernel, by decide +kernel⟩, List.mem_of_getElem? (i := 142) (by decide +kernel), List.mem_of_getElem? (i := 611) (by decide +kernel), List.mem_of_getElem? (i := 612) (by decide +kernel)⟩
theorem lw_p13 : lw_okq (⟨"NotBothInAugust$Text", "isNumeral", "(I)Z"⟩, 12) := ⟨⟨by decide +kernel, by decide +kernel⟩, List.mem_of_getElem? (i := 142) (by decide +kernel), List.mem_of_getElem? (i := 615) (by decide +kernel), List.mem_of_getElem? (i := 616) (by decide +kernel)⟩
theorem lw_p14 : lw_okq (⟨"NotBothInAugust$Text", "advanceOverNumber", "()V"⟩, 12) := ⟨⟨by decide +kernel, by decide +kernel⟩, List.mem_of_getElem? (i := 142) (by decide +kernel), List.mem_of_getElem? (i := 619) (by decide +kernel), List.mem_of_getElem? (i := 620) (by decide +kernel)⟩
theorem lw_p15 : lw_okq (⟨"NotBothInAugust$Text", "isSign", "(I)Z"⟩, 12) := ⟨⟨by decide +kernel, by decide +kernel⟩, List.mem_of_getElem? (i := 142) (by decide +kernel), List.mem_of_getElem? (i := 623) (by decide +kernel), List.mem_of_getElem? (i := 624) (by decide +kernel)⟩
def lw_privs_1 : List (MethodName × Nat) := [(⟨"NotBothInAugust$Shop", "rowOf", "(I)[I"⟩, 12), (⟨"NotBothInAugust$Rules", "nameWeek", "(LNotBothInAugust$Shop;II)V"⟩, 5), (⟨"NotBothInAugust$Rules", "nameOne", "(LNotBothInAugust$Shop;I)V"⟩, 5), (⟨"NotBothInAugust$Rules", "kindAt", "(I)LNotBothInAugust$Clerk;"⟩, 5), (⟨"NotBothInAugust", "toldOfWeek", "(II)I"⟩, 9), (⟨"NotBothInAugust$Text", "advance", "()V"⟩, 12), (⟨"NotBothInAugust$Text", "isBlank", "(I)Z"⟩, 12), (⟨"NotBothInAugust$Text", "isLetter", "(I)Z"⟩, 12), (⟨"NotBothInAugust$Text", "advanceOverWord", "()V"⟩, 12), (⟨"NotBothInAugust$Text", "key", "()I"⟩, 12), (⟨"NotBothInAugust$Text", "isWord", "(Ljava/lang/String;)Z"⟩, 12), (⟨"NotBothInAugust$Text", "name", "()I"⟩, 12), (⟨"NotBothInAugust$Text", "fail", "()V"⟩, 12), (⟨"NotBothInAugust$Text", "isNumeral", "(I)Z"⟩, 12), (⟨"NotBothInAugust$Text", "advanceOverNumber", "()V"⟩, 12), (⟨"NotBothInAugust$Text", "isSign", "(I)Z"⟩, 12)]
theorem lw_r1 : ∀ q ∈ lw_privs_1, lw_okq q := List.forall_mem_cons.mpr ⟨lw_p0, List.forall_mem_cons.mpr ⟨lw_p1, List.forall_mem_cons.mpr ⟨lw_p2, List.forall_mem_cons.mpr ⟨lw_p3, List.forall_mem_cons.mpr ⟨lw_p4, List.forall_mem_cons.mpr ⟨lw_p5, List.forall_mem_cons.mpr ⟨lw_p6, List.forall_mem_cons.mpr ⟨lw_p7, List.forall_mem_cons.mpr ⟨lw_p8, List.forall_mem_cons.mpr ⟨lw_p9, List.forall_mem_cons.mpr ⟨lw_p10, List.forall_mem_cons.mpr ⟨lw_p11, List.forall_mem_cons.mpr ⟨lw_p12, List.forall_mem_cons.mpr ⟨lw_p13, List.forall_mem_cons.mpr ⟨lw_p14, List.forall_mem_cons.mpr ⟨lw_p15, fun _ h => absurd h List.not_mem_nil⟩⟩⟩⟩⟩⟩⟩⟩⟩⟩⟩⟩⟩⟩⟩⟩
theorem lw_p16 : lw_okq (⟨"NotBothInAugust$Text", "take", "(I)V"⟩, 12) := ⟨⟨by decide +kernel, by decide +kernel⟩, List.mem_of_getElem? (i := 142) (by decide +kernel), List.mem_of_getElem? (i := 627) (by decide +kernel), List.mem_of_getElem? (i := 628) (by decide +kernel)⟩
theorem lw_p17 : lw_okq (⟨"NotBothInAugust$Text", "readEither", "()V"⟩, 12) := ⟨⟨by decide +kernel, by decide +kernel⟩, List.mem_of_getElem? (i := 142) (by decide +kernel), List.mem_of_getElem? (i := 631) (by decide +kernel), List.mem_of_getElem? (i := 632) (by decide +kernel)⟩
theorem lw_p18 : lw_okq (⟨"NotBothInAugust$Text", "readBoth", "()V"⟩, 12) := ⟨⟨by decide +kernel, by decide +kernel⟩, List.mem_of_getElem? (i := 142) (by decide +kernel), List.mem_of_getElem? (i := 635) (by decide +kernel), List.mem_of_getElem? (i := 636) (by decide +kernel)⟩
theorem lw_p19 : lw_okq (⟨"NotBothInAugust$Text", "readNot", "()V"⟩, 12) := ⟨⟨by decide +kernel, by decide +kernel⟩, List.mem_of_getElem? (i := 142) (by decide +kernel), List.mem_of_getElem? (i := 639) (by decide +kernel), List.mem_of_getElem? (i := 640) (by decide +kernel)⟩
theorem lw_p20 : lw_okq (⟨"NotBothInAugust$Text", "readComparison", "()V"⟩, 12) := ⟨⟨by decide +kernel, by decide +kernel⟩, List.mem_of_getElem? (i := 142) (by decide +kernel), List.mem_of_getElem? (i := 643) (by decide +kernel), List.mem_of_getElem? (i := 644) (by decide +kernel)⟩
theorem lw_p21 : lw_okq (⟨"NotBothInAugust$Text", "readSum", "()V"⟩, 12) := ⟨⟨by decide +kernel, by decide +kernel⟩, List.mem_of_getElem? (i := 142) (by decide +kernel), List.mem_of_getElem? (i := 647) (by decide +kernel), List.mem_of_getElem? (i := 648) (by decide +kernel)⟩
theorem lw_p22 : lw_okq (⟨"NotBothInAugust$Text", "readTerm", "()V"⟩, 12) := ⟨⟨by decide +kernel, by decide +kernel⟩, List.mem_of_getElem? (i := 142) (by decide +kernel), List.mem_of_getElem? (i := 651) (by decide +kernel), List.mem_of_getElem? (i := 652) (by decide +kernel)⟩
theorem lw_p23 : lw_okq (⟨"NotBothInAugust$Text", "readOne", "()V"⟩, 12) := ⟨⟨by decide +kernel, by decide +kernel⟩, List.mem_of_getElem? (i := 142) (by decide +kernel), List.mem_of_getElem? (i := 655) (by decide +kernel), List.mem_of_getElem? (i := 656) (by decide +kernel)⟩
theorem lw_p24 : lw_okq (⟨"NotBothInAugust$Text", "openOne", "()Z"⟩, 12) := ⟨⟨by decide +kernel, by decide +kernel⟩, List.mem_of_getElem? (i := 142) (by decide +kernel), List.mem_of_getElem? (i := 664) (by decide +kernel), List.mem_of_getElem? (i := 665) (by decide +kernel)⟩
theorem lw_p25 : lw_okq (⟨"NotBothInAugust$Planner", "lookAtOne", "(I)V"⟩, 12) := ⟨⟨by decide +kernel, by decide +kernel⟩, List.mem_of_getElem? (i := 210) (by decide +kernel), List.mem_of_getElem? (i := 694) (by decide +kernel), List.mem_of_getElem? (i := 695) (by decide +kernel)⟩
theorem lw_p26 : lw_okq (⟨"NotBothInAugust$Planner", "gladnessOf", "(I)I"⟩, 12) := ⟨⟨by decide +kernel, by decide +kernel⟩, List.mem_of_getElem? (i := 210) (by decide +kernel), List.mem_of_getElem? (i := 701) (by decide +kernel), List.mem_of_getElem? (i := 702) (by decide +kernel)⟩
theorem lw_p27 : lw_okq (⟨"NotBothInAugust$Planner", "takeBooked", "()V"⟩, 12) := ⟨⟨by decide +kernel, by decide +kernel⟩, List.mem_of_getElem? (i := 210) (by decide +kernel), List.mem_of_getElem? (i := 705) (by decide +kernel), List.mem_of_getElem? (i := 706) (by decide +kernel)⟩
theorem lw_p28 : lw_okq (⟨"NotBothInAugust$Planner", "place", "(I)I"⟩, 12) := ⟨⟨by decide +kernel, by decide +kernel⟩, List.mem_of_getElem? (i := 210) (by decide +kernel), List.mem_of_getElem? (i := 714) (by decide +kernel), List.mem_of_getElem? (i := 715) (by decide +kernel)⟩
theorem lw_p29 : lw_okq (⟨"NotBothInAugust$Planner", "takeNone", "()V"⟩, 12) := ⟨⟨by decide +kernel, by decide +kernel⟩, List.mem_of_getElem? (i := 210) (by decide +kernel), List.mem_of_getElem? (i := 749) (by decide +kernel), List.mem_of_getElem? (i := 750) (by decide +kernel)⟩
theorem lw_p30 : lw_okq (⟨"NotBothInAugust$Planner", "takeHopes", "()V"⟩, 12) := ⟨⟨by decide +kernel, by decide +kernel⟩, List.mem_of_getElem? (i := 210) (by decide +kernel), List.mem_of_getElem? (i := 753) (by decide +kernel), List.mem_of_getElem? (i := 754) (by decide +kernel)⟩
theorem lw_p31 : lw_okq (⟨"NotBothInAugust$Planner", "extend", "(III)V"⟩, 12) := ⟨⟨by decide +kernel, by decide +kernel⟩, List.mem_of_getElem? (i := 210) (by decide +kernel), List.mem_of_getElem? (i := 759) (by decide +kernel), List.mem_of_getElem? (i := 760) (by decide +kernel)⟩
def lw_privs_2 : List (MethodName × Nat) := [(⟨"NotBothInAugust$Text", "take", "(I)V"⟩, 12), (⟨"NotBothInAugust$Text", "readEither", "()V"⟩, 12), (⟨"NotBothInAugust$Text", "readBoth", "()V"⟩, 12), (⟨"NotBothInAugust$Text", "readNot", "()V"⟩, 12), (⟨"NotBothInAugust$Text", "readComparison", "()V"⟩, 12), (⟨"NotBothInAugust$Text", "readSum", "()V"⟩, 12), (⟨"NotBothInAugust$Text", "readTerm", "()V"⟩, 12), (⟨"NotBothInAugust$Text", "readOne", "()V"⟩, 12), (⟨"NotBothInAugust$Text", "openOne", "()Z"⟩, 12), (⟨"NotBothInAugust$Planner", "lookAtOne", "(I)V"⟩, 12), (⟨"NotBothInAugust$Planner", "gladnessOf", "(I)I"⟩, 12), (⟨"NotBothInAugust$Planner", "takeBooked", "()V"⟩, 12), (⟨"NotBothInAugust$Planner", "place", "(I)I"⟩, 12), (⟨"NotBothInAugust$Planner", "takeNone", "()V"⟩, 12), (⟨"NotBothInAugust$Planner", "takeHopes", "()V"⟩, 12), (⟨"NotBothInAugust$Planner", "extend", "(III)V"⟩, 12)]
theorem lw_r2 : ∀ q ∈ lw_privs_2, lw_okq q := List.forall_mem_cons.mpr ⟨lw_p16, List.forall_mem_cons.mpr ⟨lw_p17, List.forall_mem_cons.mpr ⟨lw_p18, List.forall_mem_cons.mpr ⟨lw_p19, List.forall_mem_cons.mpr ⟨lw_p20, List.forall_mem_cons.mpr ⟨lw_p21, List.forall_mem_cons.mpr ⟨lw_p22, List.forall_mem_cons.mpr ⟨lw_p23, List.forall_mem_cons.mpr ⟨lw_p24, List.forall_mem_cons.mpr ⟨lw_p25, List.forall_mem_cons.mpr ⟨lw_p26, List.forall_mem_cons.mpr ⟨lw_p27, List.forall_mem_cons.mpr ⟨lw_p28, List.forall_mem_cons.mpr ⟨lw_p29, List.forall_mem_cons.mpr ⟨lw_p30, List.forall_mem_cons.mpr ⟨lw_p31, fun _ h => absurd h List.not_mem_nil⟩⟩⟩⟩⟩⟩⟩⟩⟩⟩⟩⟩⟩⟩⟩⟩
theorem lw_p32 : lw_okq (⟨"NotBothInAugust$Planner", "keep", "(I)V"⟩, 12) := ⟨⟨by decide +kernel, by decide +kernel⟩, List.mem_of_getElem? (i := 210) (by decide +kernel), List.mem_of_getElem? (i := 763) (by decide +kernel), List.mem_of_getElem? (i := 764) (by decide +kernel)⟩
theorem lw_p33 : lw_okq (⟨"NotBothInAugust$Planner", "weeksClosedTo", "(I)I"⟩, 12) := ⟨⟨by decide +kernel, by decide +kernel⟩, List.mem_of_getElem? (i := 210) (by decide +kernel), List.mem_of_getElem? (i := 767) (by decide +kernel), List.mem_of_getElem? (i := 768) (by decide +kernel)⟩
theorem lw_p34 : lw_okq (⟨"NotBothInAugust$Planner", "canAdd", "(II)Z"⟩, 12) := ⟨⟨by decide +kernel, by decide +kernel⟩, List.mem_of_getElem? (i := 210) (by decide +kernel), List.mem_of_getElem? (i := 771) (by decide +kernel), List.mem_of_getElem? (i := 772) (by decide +kernel)⟩
theorem lw_p35 : lw_okq (⟨"NotBothInAugust$Planner", "nextInTurn", "(I)I"⟩, 12) := ⟨⟨by decide +kernel, by decide +kernel⟩, List.mem_of_getElem? (i := 210) (by decide +kernel), List.mem_of_getElem? (i := 792) (by decide +kernel), List.mem_of_getElem? (i := 793) (by decide +kernel)⟩
theorem lw_p36 : lw_okq (⟨"NotBothInAugust$Planner", "gladdest", "(I)I"⟩, 12) := ⟨⟨by decide +kernel, by decide +kernel⟩, List.mem_of_getElem? (i := 210) (by decide +kernel), List.mem_of_getElem? (i := 797) (by decide +kernel), List.mem_of_getElem? (i := 798) (by decide +kernel)⟩
theorem lw_p37 : lw_okq (⟨"NotBothInAugust$Planner", "swap", "(II)V"⟩, 12) := ⟨⟨by decide +kernel, by decide +kernel⟩, List.mem_of_getElem? (i := 210) (by decide +kernel), List.mem_of_getElem? (i := 814) (by decide +kernel), List.mem_of_getElem? (i := 815) (by decide +kernel)⟩
theorem lw_p38 : lw_okq (⟨"NotBothInAugust$Planner", "holdsWithout", "(I)Z"⟩, 12) := ⟨⟨by decide +kernel, by decide +kernel⟩, List.mem_of_getElem? (i := 210) (by decide +kernel), List.mem_of_getElem? (i := 827) (by decide +kernel), List.mem_of_getElem? (i := 828) (by decide +kernel)⟩
theorem lw_p39 : lw_okq (⟨"NotBothInAugust", "firstOtherwise", "(LNotBothInAugust$Sheet;I)I"⟩, 9) := ⟨⟨by decide +kernel, by decide +kernel⟩, List.mem_of_getElem? (i := 22) (by decide +kernel), List.mem_of_getElem? (i := 854) (by decide +kernel), List.mem_of_getElem? (i := 855) (by decide +kernel)⟩
theorem lw_p40 : lw_okq (⟨"NotBothInAugust", "kindsTold", "(LNotBothInAugust$Sheet;I)I"⟩, 9) := ⟨⟨by decide +kernel, by decide +kernel⟩, List.mem_of_getElem? (i := 22) (by decide +kernel), List.mem_of_getElem? (i := 858) (by decide +kernel), List.mem_of_getElem? (i := 859) (by decide +kernel)⟩
theorem lw_p41 : lw_okq (⟨"NotBothInAugust", "numbersTold", "(LNotBothInAugust$Sheet;I)I"⟩, 9) := ⟨⟨by decide +kernel, by decide +kernel⟩, List.mem_of_getElem? (i := 22) (by decide +kernel), List.mem_of_getElem? (i := 862) (by decide +kernel), List.mem_of_getElem? (i := 863) (by decide +kernel)⟩
theorem lw_p42 : lw_okq (⟨"NotBothInAugust", "wishesTold", "(LNotBothInAugust$Sheet;I)I"⟩, 9) := ⟨⟨by decide +kernel, by decide +kernel⟩, List.mem_of_getElem? (i := 22) (by decide +kernel), List.mem_of_getElem? (i := 866) (by decide +kernel), List.mem_of_getElem? (i := 867) (by decide +kernel)⟩
theorem lw_p43 : lw_okq (⟨"NotBothInAugust", "isSoIfWished", "(LNotBothInAugust$Sheet;IIZ)Z"⟩, 9) := ⟨⟨by decide +kernel, by decide +kernel⟩, List.mem_of_getElem? (i := 22) (by decide +kernel), List.mem_of_getElem? (i := 870) (by decide +kernel), List.mem_of_getElem? (i := 871) (by decide +kernel)⟩
theorem lw_p44 : lw_okq (⟨"NotBothInAugust", "leastWishesTold", "(LNotBothInAugust$Sheet;I)I"⟩, 9) := ⟨⟨by decide +kernel, by decide +kernel⟩, List.mem_of_getElem? (i := 22) (by decide +kernel), List.mem_of_getElem? (i := 874) (by decide +kernel), List.mem_of_getElem? (i := 875) (by decide +kernel)⟩
theorem lw_p45 : lw_okq (⟨"NotBothInAugust", "textsTold", "(LNotBothInAugust$Sheet;I)I"⟩, 9) := ⟨⟨by decide +kernel, by decide +kernel⟩, List.mem_of_getElem? (i := 22) (by decide +kernel), List.mem_of_getElem? (i := 878) (by decide +kernel), List.mem_of_getElem? (i := 879) (by decide +kernel)⟩
theorem lw_p46 : lw_okq (⟨"NotBothInAugust", "drawWishes", "(I)V"⟩, 9) := ⟨⟨by decide +kernel, by decide +kernel⟩, List.mem_of_getElem? (i := 22) (by decide +kernel), List.mem_of_getElem? (i := 904) (by decide +kernel), List.mem_of_getElem? (i := 905) (by decide +kernel)⟩
theorem lw_p47 : lw_okq (⟨"NotBothInAugustModel", "spell", "(IIIIIIIII)V"⟩, 44) := ⟨⟨by decide +kernel, by decide +kernel⟩, List.mem_of_getElem? (i := 969) (by decide +kernel), List.mem_of_getElem? (i := 975) (by decide +kernel), List.mem_of_getElem? (i := 976) (by decide +kernel)⟩
def lw_privs_3 : List (MethodName × Nat) := [(⟨"NotBothInAugust$Planner", "keep", "(I)V"⟩, 12), (⟨"NotBothInAugust$Planner", "weeksClosedTo", "(I)I"⟩, 12), (⟨"NotBothInAugust$Planner", "canAdd", "(II)Z"⟩, 12), (⟨"NotBothInAugust$Planner", "nextInTurn", "(I)I"⟩, 12), (⟨"NotBothInAugust$Planner", "gladdest", "(I)I"⟩, 12), (⟨"NotBothInAugust$Planner", "swap", "(II)V"⟩, 12), (⟨"NotBothInAugust$Planner", "holdsWithout", "(I)Z"⟩, 12), (⟨"NotBothInAugust", "firstOtherwise", "(LNotBothInAugust$Sheet;I)I"⟩, 9), (⟨"NotBothInAugust", "kindsTold", "(LNotBothInAugust$Sheet;I)I"⟩, 9), (⟨"NotBothInAugust", "numbersTold", "(LNotBothInAugust$Sheet;I)I"⟩, 9), (⟨"NotBothInAugust", "wishesTold", "(LNotBothInAugust$Sheet;I)I"⟩, 9), (⟨"NotBothInAugust", "isSoIfWished", "(LNotBothInAugust$Sheet;IIZ)Z"⟩, 9), (⟨"NotBothInAugust", "leastWishesTold", "(LNotBothInAugust$Sheet;I)I"⟩, 9), (⟨"NotBothInAugust", "textsTold", "(LNotBothInAugust$Sheet;I)I"⟩, 9), (⟨"NotBothInAugust", "drawWishes", "(I)V"⟩, 9), (⟨"NotBothInAugustModel", "spell", "(IIIIIIIII)V"⟩, 44)]
theorem lw_r3 : ∀ q ∈ lw_privs_3, lw_okq q := List.forall_mem_cons.mpr ⟨lw_p32, List.forall_mem_cons.mpr ⟨lw_p33, List.forall_mem_cons.mpr ⟨lw_p34, List.forall_mem_cons.mpr ⟨lw_p35, List.forall_mem_cons.mpr ⟨lw_p36, List.forall_mem_cons.mpr ⟨lw_p37, List.forall_mem_cons.mpr ⟨lw_p38, List.forall_mem_cons.mpr ⟨lw_p39, List.forall_mem_cons.mpr ⟨lw_p40, List.forall_mem_cons.mpr ⟨lw_p41, List.forall_mem_cons.mpr ⟨lw_p42, List.forall_mem_cons.mpr ⟨lw_p43, List.forall_mem_cons.mpr ⟨lw_p44, List.forall_mem_cons.mpr ⟨lw_p45, List.forall_mem_cons.mpr ⟨lw_p46, List.forall_mem_cons.mpr ⟨lw_p47, fun _ h => absurd h List.not_mem_nil⟩⟩⟩⟩⟩⟩⟩⟩⟩⟩⟩⟩⟩⟩⟩⟩
theorem lw_p48 : lw_okq (⟨"NotBothInAugustModel", "isOne", "(I)Z"⟩, 44) := ⟨⟨by decide +kernel, by decide +kernel⟩, List.mem_of_getElem? (i := 969) (by decide +kernel), List.mem_of_getElem? (i := 1119) (by decide +kernel), List.mem_of_getElem? (i := 1120) (by decide +kernel)⟩
theorem lw_p49 : lw_okq (⟨"NotBothInAugustModel", "gladOf", "(II)I"⟩, 44) := ⟨⟨by decide +kernel, by decide +kernel⟩, List.mem_of_getElem? (i := 969) (by decide +kernel), List.mem_of_getElem? (i := 1135) (by decide +kernel), List.mem_of_getElem? (i := 1136) (by decide +kernel)⟩
theorem lw_p50 : lw_okq (⟨"NotBothInAugustModel", "isWished", "(II)Z"⟩, 44) := ⟨⟨by decide +kernel, by decide +kernel⟩, List.mem_of_getElem? (i := 969) (by decide +kernel), List.mem_of_getElem? (i := 1139) (by decide +kernel), List.mem_of_getElem? (i := 1140) (by decide +kernel)⟩
theorem lw_p51 : lw_okq (⟨"NotBothInAugustModel", "asks", "(III)I"⟩, 44) := ⟨⟨by decide +kernel, by decide +kernel⟩, List.mem_of_getElem? (i := 969) (by decide +kernel), List.mem_of_getElem? (i := 1143) (by decide +kernel), List.mem_of_getElem? (i := 1144) (by decide +kernel)⟩
theorem lw_p52 : lw_okq (⟨"NotBothInAugustModel", "read", "(II)I"⟩, 44) := ⟨⟨by decide +kernel, by decide +kernel⟩, List.mem_of_getElem? (i := 969) (by decide +kernel), List.mem_of_getElem? (i := 1147) (by decide +kernel), List.mem_of_getElem? (i := 1148) (by decide +kernel)⟩
theorem lw_p53 : lw_okq (⟨"NotBothInAugustModel", "next", "()V"⟩, 44) := ⟨⟨by decide +kernel, by decide +kernel⟩, List.mem_of_getElem? (i := 969) (by decide +kernel), List.mem_of_getElem? (i := 1151) (by decide +kernel), List.mem_of_getElem? (i := 1152) (by decide +kernel)⟩
theorem lw_p54 : lw_okq (⟨"NotBothInAugustModel", "byteAt", "(I)I"⟩, 44) := ⟨⟨by decide +kernel, by decide +kernel⟩, List.mem_of_getElem? (i := 969) (by decide +kernel), List.mem_of_getElem? (i := 1155) (by decide +kernel), List.mem_of_getElem? (i := 1156) (by decide +kernel)⟩
theorem lw_p55 : lw_okq (⟨"NotBothInAugustModel", "isWord", "(IIIIIIII)Z"⟩, 44) := ⟨⟨by decide +kernel, by decide +kernel⟩, List.mem_of_getElem? (i := 969) (by decide +kernel), List.mem_of_getElem? (i := 1163) (by decide +kernel), List.mem_of_getElem? (i := 1164) (by decide +kernel)⟩
theorem lw_p56 : lw_okq (⟨"NotBothInAugustModel", "isLetter", "(II)Z"⟩, 44) := ⟨⟨by decide +kernel, by decide +kernel⟩, List.mem_of_getElem? (i := 969) (by decide +kernel), List.mem_of_getElem? (i := 1167) (by decide +kernel), List.mem_of_getElem? (i := 1168) (by decide +kernel)⟩
theorem lw_p57 : lw_okq (⟨"NotBothInAugustModel", "part", "(Z)I"⟩, 44) := ⟨⟨by decide +kernel, by decide +kernel⟩, List.mem_of_getElem? (i := 969) (by decide +kernel), List.mem_of_getElem? (i := 1171) (by decide +kernel), List.mem_of_getElem? (i := 1172) (by decide +kernel)⟩
theorem lw_p58 : lw_okq (⟨"NotBothInAugustModel", "fail", "()V"⟩, 44) := ⟨⟨by decide +kernel, by decide +kernel⟩, List.mem_of_getElem? (i := 969) (by decide +kernel), List.mem_of_getElem? (i := 1175) (by decide +kernel), List.mem_of_getElem? (i := 1176) (by decide +kernel)⟩
theorem lw_p59 : lw_okq (⟨"NotBothInAugustModel", "either", "()I"⟩, 44) := ⟨⟨by decide +kernel, by decide +kernel⟩, List.mem_of_getElem? (i := 969) (by decide +kernel), List.mem_of_getElem? (i := 1179) (by decide +kernel), List.mem_of_getElem? (i := 1180) (by decide +kernel)⟩
theorem lw_p60 : lw_okq (⟨"NotBothInAugustModel", "both", "()I"⟩, 44) := ⟨⟨by decide +kernel, by decide +kernel⟩, List.mem_of_getElem? (i := 969) (by decide +kernel), List.mem_of_getElem? (i := 1183) (by decide +kernel), List.mem_of_getElem? (i := 1184) (by decide +kernel)⟩
theorem lw_p61 : lw_okq (⟨"NotBothInAugustModel", "not", "()I"⟩, 44) := ⟨⟨by decide +kernel, by decide +kernel⟩, List.mem_of_getElem? (i := 969) (by decide +kernel), List.mem_of_getElem? (i := 1187) (by decide +kernel), List.mem_of_getElem? (i := 1188) (by decide +kernel)⟩
theorem lw_p62 : lw_okq (⟨"NotBothInAugustModel", "opens", "()Z"⟩, 44) := ⟨⟨by decide +kernel, by decide +kernel⟩, List.mem_of_getElem? (i := 969) (by decide +kernel), List.mem_of_getElem? (i := 1191) (by decide +kernel), List.mem_of_getElem? (i := 1192) (by decide +kernel)⟩
theorem lw_p63 : lw_okq (⟨"NotBothInAugustModel", "added", "()I"⟩, 44) := ⟨⟨by decide +kernel, by decide +kernel⟩, List.mem_of_getElem? (i := 969) (by decide +kernel), List.mem_of_getElem? (i := 1195) (by decide +kernel), List.mem_of_getElem? (i := 1196) (by decide +kernel)⟩
def lw_privs_4 : List (MethodName × Nat) := [(⟨"NotBothInAugustModel", "isOne", "(I)Z"⟩, 44), (⟨"NotBothInAugustModel", "gladOf", "(II)I"⟩, 44), (⟨"NotBothInAugustModel", "isWished", "(II)Z"⟩, 44), (⟨"NotBothInAugustModel", "asks", "(III)I"⟩, 44), (⟨"NotBothInAugustModel", "read", "(II)I"⟩, 44), (⟨"NotBothInAugustModel", "next", "()V"⟩, 44), (⟨"NotBothInAugustModel", "byteAt", "(I)I"⟩, 44), (⟨"NotBothInAugustModel", "isWord", "(IIIIIIII)Z"⟩, 44), (⟨"NotBothInAugustModel", "isLetter", "(II)Z"⟩, 44), (⟨"NotBothInAugustModel", "part", "(Z)I"⟩, 44), (⟨"NotBothInAugustModel", "fail", "()V"⟩, 44), (⟨"NotBothInAugustModel", "either", "()I"⟩, 44), (⟨"NotBothInAugustModel", "both", "()I"⟩, 44), (⟨"NotBothInAugustModel", "not", "()I"⟩, 44), (⟨"NotBothInAugustModel", "opens", "()Z"⟩, 44), (⟨"NotBothInAugustModel", "added", "()I"⟩, 44)]
theorem lw_r4 : ∀ q ∈ lw_privs_4, lw_okq q := List.forall_mem_cons.mpr ⟨lw_p48, List.forall_mem_cons.mpr ⟨lw_p49, List.forall_mem_cons.mpr ⟨lw_p50, List.forall_mem_cons.mpr ⟨lw_p51, List.forall_mem_cons.mpr ⟨lw_p52, List.forall_mem_cons.mpr ⟨lw_p53, List.forall_mem_cons.mpr ⟨lw_p54, List.forall_mem_cons.mpr ⟨lw_p55, List.forall_mem_cons.mpr ⟨lw_p56, List.forall_mem_cons.mpr ⟨lw_p57, List.forall_mem_cons.mpr ⟨lw_p58, List.forall_mem_cons.mpr ⟨lw_p59, List.forall_mem_cons.mpr ⟨lw_p60, List.forall_mem_cons.mpr ⟨lw_p61, List.forall_mem_cons.mpr ⟨lw_p62, List.forall_mem_cons.mpr ⟨lw_p63, fun _ h => absurd h List.not_mem_nil⟩⟩⟩⟩⟩⟩⟩⟩⟩⟩⟩⟩⟩⟩⟩⟩
theorem lw_p64 : lw_okq (⟨"NotBothInAugustModel", "term", "()I"⟩, 44) := ⟨⟨by decide +kernel, by decide +kernel⟩, List.mem_of_getElem? (i := 969) (by decide +kernel), List.mem_of_getElem? (i := 1199) (by decide +kernel), List.mem_of_getElem? (i := 1200) (by decide +kernel)⟩
theorem lw_p65 : lw_okq (⟨"NotBothInAugustModel", "atom", "()I"⟩, 44) := ⟨⟨by decide +kernel, by decide +kernel⟩, List.mem_of_getElem? (i := 969) (by decide +kernel), List.mem_of_getElem? (i := 1203) (by decide +kernel), List.mem_of_getElem? (i := 1204) (by decide +kernel)⟩
theorem lw_p66 : lw_okq (⟨"NotBothInAugustModel", "isSign", "(I)Z"⟩, 44) := ⟨⟨by decide +kernel, by decide +kernel⟩, List.mem_of_getElem? (i := 969) (by decide +kernel), List.mem_of_getElem? (i := 1207) (by decide +kernel), List.mem_of_getElem? (i := 1208) (by decide +kernel)⟩
theorem lw_p67 : lw_okq (⟨"NotBothInAugustModel", "name", "()I"⟩, 44) := ⟨⟨by decide +kernel, by decide +kernel⟩, List.mem_of_getElem? (i := 969) (by decide +kernel), List.mem_of_getElem? (i := 1211) (by decide +kernel), List.mem_of_getElem? (i := 1212) (by decide +kernel)⟩
theorem lw_p68 : lw_okq (⟨"NotBothInAugustModel", "wants", "(II)Z"⟩, 44) := ⟨⟨by decide +kernel, by decide +kernel⟩, List.mem_of_getElem? (i := 969) (by decide +kernel), List.mem_of_getElem? (i := 1222) (by decide +kernel), List.mem_of_getElem? (i := 1223) (by decide +kernel)⟩
theorem lw_p69 : lw_okq (⟨"NotBothInAugustModel", "hasOf", "(II)I"⟩, 44) := ⟨⟨by decide +kernel, by decide +kernel⟩, List.mem_of_getElem? (i := 969) (by decide +kernel), List.mem_of_getElem? (i := 1226) (by decide +kernel), List.mem_of_getElem? (i := 1227) (by decide +kernel)⟩
theorem lw_p70 : lw_okq (⟨"NotBothInAugustModel", "weeksOf", "(II)I"⟩, 44) := ⟨⟨by decide +kernel, by decide +kernel⟩, List.mem_of_getElem? (i := 969) (by decide +kernel), List.mem_of_getElem? (i := 1230) (by decide +kernel), List.mem_of_getElem? (i := 1231) (by decide +kernel)⟩
theorem lw_p71 : lw_okq (⟨"NotBothInAugustModel", "earnsOf", "(I)I"⟩, 44) := ⟨⟨by decide +kernel, by decide +kernel⟩, List.mem_of_getElem? (i := 969) (by decide +kernel), List.mem_of_getElem? (i := 1234) (by decide +kernel), List.mem_of_getElem? (i := 1235) (by decide +kernel)⟩
theorem lw_p72 : lw_okq (⟨"NotBothInAugustModel", "lays", "(III)V"⟩, 44) := ⟨⟨by decide +kernel, by decide +kernel⟩, List.mem_of_getElem? (i := 969) (by decide +kernel), List.mem_of_getElem? (i := 1238) (by decide +kernel), List.mem_of_getElem? (i := 1239) (by decide +kernel)⟩
theorem lw_p73 : lw_okq (⟨"NotBothInAugustModel", "parts", "(III)V"⟩, 44) := ⟨⟨by decide +kernel, by decide +kernel⟩, List.mem_of_getElem? (i := 969) (by decide +kernel), List.mem_of_getElem? (i := 1248) (by decide +kernel), List.mem_of_getElem? (i := 1249) (by decide +kernel)⟩
theorem lw_p74 : lw_okq (⟨"NotBothInAugustModel", "canBe", "(II)Z"⟩, 44) := ⟨⟨by decide +kernel, by decide +kernel⟩, List.mem_of_getElem? (i := 969) (by decide +kernel), List.mem_of_getElem? (i := 1264) (by decide +kernel), List.mem_of_getElem? (i := 1265) (by decide +kernel)⟩
theorem lw_p75 : lw_okq (⟨"NotBothInAugustModel", "tables", "()V"⟩, 44) := ⟨⟨by decide +kernel, by decide +kernel⟩, List.mem_of_getElem? (i := 969) (by decide +kernel), List.mem_of_getElem? (i := 1289) (by decide +kernel), List.mem_of_getElem? (i := 1290) (by decide +kernel)⟩
theorem lw_p76 : lw_okq (⟨"NotBothInAugustModel", "booked", "()V"⟩, 44) := ⟨⟨by decide +kernel, by decide +kernel⟩, List.mem_of_getElem? (i := 969) (by decide +kernel), List.mem_of_getElem? (i := 1293) (by decide +kernel), List.mem_of_getElem? (i := 1294) (by decide +kernel)⟩
theorem lw_p77 : lw_okq (⟨"NotBothInAugustModel", "holds", "()Z"⟩, 44) := ⟨⟨by decide +kernel, by decide +kernel⟩, List.mem_of_getElem? (i := 969) (by decide +kernel), List.mem_of_getElem? (i := 1297) (by decide +kernel), List.mem_of_getElem? (i := 1298) (by decide +kernel)⟩
theorem lw_p78 : lw_okq (⟨"NotBothInAugustModel", "firstWrong", "()I"⟩, 44) := ⟨⟨by decide +kernel, by decide +kernel⟩, List.mem_of_getElem? (i := 969) (by decide +kernel), List.mem_of_getElem? (i := 1301) (by decide +kernel), List.mem_of_getElem? (i := 1302) (by decide +kernel)⟩
theorem lw_p79 : lw_okq (⟨"NotBothInAugustModel", "isRight", "(I)Z"⟩, 44) := ⟨⟨by decide +kernel, by decide +kernel⟩, List.mem_of_getElem? (i := 969) (by decide +kernel), List.mem_of_getElem? (i := 1305) (by decide +kernel), List.mem_of_getElem? (i := 1306) (by decide +kernel)⟩
def lw_privs_5 : List (MethodName × Nat) := [(⟨"NotBothInAugustModel", "term", "()I"⟩, 44), (⟨"NotBothInAugustModel", "atom", "()I"⟩, 44), (⟨"NotBothInAugustModel", "isSign", "(I)Z"⟩, 44), (⟨"NotBothInAugustModel", "name", "()I"⟩, 44), (⟨"NotBothInAugustModel", "wants", "(II)Z"⟩, 44), (⟨"NotBothInAugustModel", "hasOf", "(II)I"⟩, 44), (⟨"NotBothInAugustModel", "weeksOf", "(II)I"⟩, 44), (⟨"NotBothInAugustModel", "earnsOf", "(I)I"⟩, 44), (⟨"NotBothInAugustModel", "lays", "(III)V"⟩, 44), (⟨"NotBothInAugustModel", "parts", "(III)V"⟩, 44), (⟨"NotBothInAugustModel", "canBe", "(II)Z"⟩, 44), (⟨"NotBothInAugustModel", "tables", "()V"⟩, 44), (⟨"NotBothInAugustModel", "booked", "()V"⟩, 44), (⟨"NotBothInAugustModel", "holds", "()Z"⟩, 44), (⟨"NotBothInAugustModel", "firstWrong", "()I"⟩, 44), (⟨"NotBothInAugustModel", "isRight", "(I)Z"⟩, 44)]
theorem lw_r5 : ∀ q ∈ lw_privs_5, lw_okq q := List.forall_mem_cons.mpr ⟨lw_p64, List.forall_mem_cons.mpr ⟨lw_p65, List.forall_mem_cons.mpr ⟨lw_p66, List.forall_mem_cons.mpr ⟨lw_p67, List.forall_mem_cons.mpr ⟨lw_p68, List.forall_mem_cons.mpr ⟨lw_p69, List.forall_mem_cons.mpr ⟨lw_p70, List.forall_mem_cons.mpr ⟨lw_p71, List.forall_mem_cons.mpr ⟨lw_p72, List.forall_mem_cons.mpr ⟨lw_p73, List.forall_mem_cons.mpr ⟨lw_p74, List.forall_mem_cons.mpr ⟨lw_p75, List.forall_mem_cons.mpr ⟨lw_p76, List.forall_mem_cons.mpr ⟨lw_p77, List.forall_mem_cons.mpr ⟨lw_p78, List.forall_mem_cons.mpr ⟨lw_p79, fun _ h => absurd h List.not_mem_nil⟩⟩⟩⟩⟩⟩⟩⟩⟩⟩⟩⟩⟩⟩⟩⟩
theorem lw_p80 : lw_okq (⟨"NotBothInAugustModel", "awayIn", "(I)I"⟩, 44) := ⟨⟨by decide +kernel, by decide +kernel⟩, List.mem_of_getElem? (i := 969) (by decide +kernel), List.mem_of_getElem? (i := 1309) (by decide +kernel), List.mem_of_getElem? (i := 1310) (by decide +kernel)⟩
theorem lw_p81 : lw_okq (⟨"NotBothInAugustModel", "allOf", "()I"⟩, 44) := ⟨⟨by decide +kernel, by decide +kernel⟩, List.mem_of_getElem? (i := 969) (by decide +kernel), List.mem_of_getElem? (i := 1316) (by decide +kernel), List.mem_of_getElem? (i := 1317) (by decide +kernel)⟩
theorem lw_p82 : lw_okq (⟨"NotBothInAugustModel", "seeks", "(IZ)V"⟩, 44) := ⟨⟨by decide +kernel, by decide +kernel⟩, List.mem_of_getElem? (i := 969) (by decide +kernel), List.mem_of_getElem? (i := 1328) (by decide +kernel), List.mem_of_getElem? (i := 1329) (by decide +kernel)⟩
theorem lw_p83 : lw_okq (⟨"NotBothInAugustModel", "leastOf", "()I"⟩, 44) := ⟨⟨by decide +kernel, by decide +kernel⟩, List.mem_of_getElem? (i := 969) (by decide +kernel), List.mem_of_getElem? (i := 1332) (by decide +kernel), List.mem_of_getElem? (i := 1333) (by decide +kernel)⟩
theorem lw_p84 : lw_okq (⟨"NotBothInAugustModel", "digits", "()I"⟩, 44) := ⟨⟨by decide +kernel, by decide +kernel⟩, List.mem_of_getElem? (i := 969) (by decide +kernel), List.mem_of_getElem? (i := 1336) (by decide +kernel), List.mem_of_getElem? (i := 1337) (by decide +kernel)⟩
theorem lw_p85 : lw_okq (⟨"NotBothInAugustModel", "turnsAll", "()V"⟩, 44) := ⟨⟨by decide +kernel, by decide +kernel⟩, List.mem_of_getElem? (i := 969) (by decide +kernel), List.mem_of_getElem? (i := 1344) (by decide +kernel), List.mem_of_getElem? (i := 1345) (by decide +kernel)⟩
theorem lw_p86 : lw_okq (⟨"NotBothInAugustModel", "nextTurn", "(I)I"⟩, 44) := ⟨⟨by decide +kernel, by decide +kernel⟩, List.mem_of_getElem? (i := 969) (by decide +kernel), List.mem_of_getElem? (i := 1348) (by decide +kernel), List.mem_of_getElem? (i := 1349) (by decide +kernel)⟩
theorem lw_p87 : lw_okq (⟨"NotBothInAugustModel", "takes", "(I)V"⟩, 44) := ⟨⟨by decide +kernel, by decide +kernel⟩, List.mem_of_getElem? (i := 969) (by decide +kernel), List.mem_of_getElem? (i := 1352) (by decide +kernel), List.mem_of_getElem? (i := 1353) (by decide +kernel)⟩
theorem lw_p88 : lw_okq (⟨"NotBothInAugustModel", "noneMany", "()I"⟩, 44) := ⟨⟨by decide +kernel, by decide +kernel⟩, List.mem_of_getElem? (i := 969) (by decide +kernel), List.mem_of_getElem? (i := 1356) (by decide +kernel), List.mem_of_getElem? (i := 1357) (by decide +kernel)⟩
theorem lw_p89 : lw_okq (⟨"NotBothInAugustModel", "firstOther", "(II)I"⟩, 44) := ⟨⟨by decide +kernel, by decide +kernel⟩, List.mem_of_getElem? (i := 969) (by decide +kernel), List.mem_of_getElem? (i := 1379) (by decide +kernel), List.mem_of_getElem? (i := 1380) (by decide +kernel)⟩
theorem lw_p90 : lw_okq (⟨"NotBothInAugustModel", "draws", "(I)V"⟩, 44) := ⟨⟨by decide +kernel, by decide +kernel⟩, List.mem_of_getElem? (i := 969) (by decide +kernel), List.mem_of_getElem? (i := 1396) (by decide +kernel), List.mem_of_getElem? (i := 1397) (by decide +kernel)⟩
def lw_privs_6 : List (MethodName × Nat) := [(⟨"NotBothInAugustModel", "awayIn", "(I)I"⟩, 44), (⟨"NotBothInAugustModel", "allOf", "()I"⟩, 44), (⟨"NotBothInAugustModel", "seeks", "(IZ)V"⟩, 44), (⟨"NotBothInAugustModel", "leastOf", "()I"⟩, 44), (⟨"NotBothInAugustModel", "digits", "()I"⟩, 44), (⟨"NotBothInAugustModel", "turnsAll", "()V"⟩, 44), (⟨"NotBothInAugustModel", "nextTurn", "(I)I"⟩, 44), (⟨"NotBothInAugustModel", "takes", "(I)V"⟩, 44), (⟨"NotBothInAugustModel", "noneMany", "()I"⟩, 44), (⟨"NotBothInAugustModel", "firstOther", "(II)I"⟩, 44), (⟨"NotBothInAugustModel", "draws", "(I)V"⟩, 44)]
theorem lw_r6 : ∀ q ∈ lw_privs_6, lw_okq q := List.forall_mem_cons.mpr ⟨lw_p80, List.forall_mem_cons.mpr ⟨lw_p81, List.forall_mem_cons.mpr ⟨lw_p82, List.forall_mem_cons.mpr ⟨lw_p83, List.forall_mem_cons.mpr ⟨lw_p84, List.forall_mem_cons.mpr ⟨lw_p85, List.forall_mem_cons.mpr ⟨lw_p86, List.forall_mem_cons.mpr ⟨lw_p87, List.forall_mem_cons.mpr ⟨lw_p88, List.forall_mem_cons.mpr ⟨lw_p89, List.forall_mem_cons.mpr ⟨lw_p90, fun _ h => absurd h List.not_mem_nil⟩⟩⟩⟩⟩⟩⟩⟩⟩⟩⟩
def lw_privs : List (MethodName × Nat) := lw_privs_1 ++ (lw_privs_2 ++ (lw_privs_3 ++ (lw_privs_4 ++ (lw_privs_5 ++ (lw_privs_6)))))
def lw_tbl : List Cond := k2_sels lw_privs ++ tables_1
theorem lw_privs_ok : ∀ q ∈ lw_privs, lw_okq q := by
  show ∀ q ∈ lw_privs_1 ++ (lw_privs_2 ++ (lw_privs_3 ++ (lw_privs_4 ++ (lw_privs_5 ++ (lw_privs_6))))), lw_okq q
  exact List.forall_mem_append.mpr ⟨lw_r1, List.forall_mem_append.mpr ⟨lw_r2, List.forall_mem_append.mpr ⟨lw_r3, List.forall_mem_append.mpr ⟨lw_r4, List.forall_mem_append.mpr ⟨lw_r5, lw_r6⟩⟩⟩⟩⟩
def RX0 : String := "NotBothInAugust$Apprentice"
def TX0 : u_T := fun k => match k with
  | _ => ("", "", "", false)
def tyX0 : Nat → FieldType := fun k => match k with
  | _ => .int
theorem nmX0 : ∀ a, a < 0 → ∀ b, b < 0 → a ≠ b → (TX0 a).2.1 ≠ (TX0 b).2.1 := by decide +kernel
theorem tyX0_ok : ∀ k, k < 0 → parseFieldDescriptor (TX0 k).2.2.1 = some (tyX0 k) := by decide +kernel
abbrev cX0_init : ByteArray := prog_2_method_1_code
def yX0_init : MethodName := ⟨RX0, "<init>", "()V"⟩
abbrev cX0_glad : ByteArray := prog_2_method_2_code
def yX0_glad : MethodName := ⟨RX0, "glad", "(IIZI)I"⟩
abbrev cX0_earns : ByteArray := prog_2_method_3_code
def yX0_earns : MethodName := ⟨RX0, "earns", "(II)I"⟩
abbrev cX0_wants : ByteArray := prog_2_method_4_code
def yX0_wants : MethodName := ⟨RX0, "wants", "(IZI)Z"⟩
def RX1 : String := "NotBothInAugust$Boss"
def TX1 : u_T := fun k => match k with
  | _ => ("", "", "", false)
def tyX1 : Nat → FieldType := fun k => match k with
  | _ => .int
theorem nmX1 : ∀ a, a < 0 → ∀ b, b < 0 → a ≠ b → (TX1 a).2.1 ≠ (TX1 b).2.1 := by decide +kernel
theorem tyX1_ok : ∀ k, k < 0 → parseFieldDescriptor (TX1 k).2.2.1 = some (tyX1 k) := by decide +kernel
abbrev cX1_init : ByteArray := prog_3_method_1_code
def yX1_init : MethodName := ⟨RX1, "<init>", "()V"⟩
abbrev cX1_glad : ByteArray := prog_3_method_2_code
def yX1_glad : MethodName := ⟨RX1, "glad", "(IIZI)I"⟩
abbrev cX1_earns : ByteArray := prog_3_method_3_code
def yX1_earns : MethodName := ⟨RX1, "earns", "(II)I"⟩
abbrev cX1_wants : ByteArray := prog_3_method_4_code
def yX1_wants : MethodName := ⟨RX1, "wants", "(IZI)Z"⟩
def RX2 : String := "NotBothInAugust$Bride"
def TX2 : u_T := fun k => match k with
  | _ => ("", "", "", false)
def tyX2 : Nat → FieldType := fun k => match k with
  | _ => .int
theorem nmX2 : ∀ a, a < 0 → ∀ b, b < 0 → a ≠ b → (TX2 a).2.1 ≠ (TX2 b).2.1 := by decide +kernel
theorem tyX2_ok : ∀ k, k < 0 → parseFieldDescriptor (TX2 k).2.2.1 = some (tyX2 k) := by decide +kernel
abbrev cX2_init : ByteArray := prog_4_method_1_code
def yX2_init : MethodName := ⟨RX2, "<init>", "()V"⟩
abbrev cX2_glad : ByteArray := prog_4_method_2_code
def yX2_glad : MethodName := ⟨RX2, "glad", "(IIZI)I"⟩
abbrev cX2_wants : ByteArray := prog_4_method_3_code
def yX2_wants : MethodName := ⟨RX2, "wants", "(IZI)Z"⟩
def RX3 : String := "NotBothInAugust$Clerk"
def TX3 : u_T := fun k => match k with
  | _ => ("", "", "", false)
def tyX3 : Nat → FieldType := fun k => match k with
  | _ => .int
theorem nmX3 : ∀ a, a < 0 → ∀ b, b < 0 → a ≠ b → (TX3 a).2.1 ≠ (TX3 b).2.1 := by decide +kernel
theorem tyX3_ok : ∀ k, k < 0 → parseFieldDescriptor (TX3 k).2.2.1 = some (tyX3 k) := by decide +kernel
abbrev cX3_init : ByteArray := prog_5_method_1_code
def yX3_init : MethodName := ⟨RX3, "<init>", "()V"⟩
abbrev cX3_glad : ByteArray := prog_5_method_2_code
def yX3_glad : MethodName := ⟨RX3, "glad", "(IIZI)I"⟩
abbrev cX3_earns : ByteArray := prog_5_method_3_code
def yX3_earns : MethodName := ⟨RX3, "earns", "(II)I"⟩
abbrev cX3_wants : ByteArray := prog_5_method_4_code
def yX3_wants : MethodName := ⟨RX3, "wants", "(IZI)Z"⟩
abbrev cX3_isSummer : ByteArray := prog_5_method_5_code
def yX3_isSummer : MethodName := ⟨RX3, "isSummer", "(I)Z"⟩
def RX4 : String := "NotBothInAugust$Parent"
def TX4 : u_T := fun k => match k with
  | _ => ("", "", "", false)
def tyX4 : Nat → FieldType := fun k => match k with
  | _ => .int
theorem nmX4 : ∀ a, a < 0 → ∀ b, b < 0 → a ≠ b → (TX4 a).2.1 ≠ (TX4 b).2.1 := by decide +kernel
theorem tyX4_ok : ∀ k, k < 0 → parseFieldDescriptor (TX4 k).2.2.1 = some (tyX4 k) := by decide +kernel
abbrev cX4_init : ByteArray := prog_6_method_1_code
def yX4_init : MethodName := ⟨RX4, "<init>", "()V"⟩
abbrev cX4_glad : ByteArray := prog_6_method_2_code
def yX4_glad : MethodName := ⟨RX4, "glad", "(IIZI)I"⟩
abbrev cX4_earns : ByteArray := prog_6_method_3_code
def yX4_earns : MethodName := ⟨RX4, "earns", "(II)I"⟩
def RX5 : String := "NotBothInAugust$Planner"
def TX5 : u_T := fun k => match k with
  | 0 => ("NotBothInAugust$Planner", "rules", "LNotBothInAugust$Rules;", true)
  | 1 => ("NotBothInAugust$Planner", "shop", "LNotBothInAugust$Shop;", false)
  | 2 => ("NotBothInAugust$Planner", "weeks", "[I", true)
  | 3 => ("NotBothInAugust$Planner", "gladness", "[I", true)
  | 4 => ("NotBothInAugust$Planner", "canBe", "[Z", true)
  | 5 => ("NotBothInAugust$Planner", "allowed", "[Z", true)
  | 6 => ("NotBothInAugust$Planner", "glad", "[I", true)
  | 7 => ("NotBothInAugust$Planner", "digits", "[I", true)
  | 8 => ("NotBothInAugust$Planner", "found", "[I", true)
  | 9 => ("NotBothInAugust$Planner", "hopes", "[I", true)
  | 10 => ("NotBothInAugust$Planner", "isFair", "Z", false)
  | _ => ("NotBothInAugust$Planner", "most", "I", false)
def tyX5 : Nat → FieldType := fun k => match k with
  | 0 => .object "NotBothInAugust$Rules"
  | 1 => .object "NotBothInAugust$Shop"
  | 2 => .array .int
  | 3 => .array .int
  | 4 => .array .boolean
  | 5 => .array .boolean
  | 6 => .array .int
  | 7 => .array .int
  | 8 => .array .int
  | 9 => .array .int
  | 10 => .boolean
  | _ => .int
theorem nmX5 : ∀ a, a < 12 → ∀ b, b < 12 → a ≠ b → (TX5 a).2.1 ≠ (TX5 b).2.1 := by decide +kernel
theorem tyX5_ok : ∀ k, k < 12 → parseFieldDescriptor (TX5 k).2.2.1 = some (tyX5 k) := by decide +kernel
abbrev cX5_init : ByteArray := prog_7_method_1_code
def yX5_init : MethodName := ⟨RX5, "<init>", "(LNotBothInAugust$Rules;LNotBothInAugust$Shop;)V"⟩
abbrev cX5_look : ByteArray := prog_7_method_2_code
def yX5_look : MethodName := ⟨RX5, "look", "(LNotBothInAugust$Shop;)V"⟩
abbrev cX5_lookAtOne : ByteArray := prog_7_method_3_code
def yX5_lookAtOne : MethodName := ⟨RX5, "lookAtOne", "(I)V"⟩
abbrev cX5_gladnessOf : ByteArray := prog_7_method_4_code
def yX5_gladnessOf : MethodName := ⟨RX5, "gladnessOf", "(I)I"⟩
abbrev cX5_takeNone : ByteArray := prog_7_method_5_code
def yX5_takeNone : MethodName := ⟨RX5, "takeNone", "()V"⟩
abbrev cX5_takeBooked : ByteArray := prog_7_method_6_code
def yX5_takeBooked : MethodName := ⟨RX5, "takeBooked", "()V"⟩
abbrev cX5_blockOf : ByteArray := prog_7_method_7_code
def yX5_blockOf : MethodName := ⟨RX5, "blockOf", "(I)I"⟩
abbrev cX5_place : ByteArray := prog_7_method_8_code
def yX5_place : MethodName := ⟨RX5, "place", "(I)I"⟩
abbrev cX5_inDigits : ByteArray := prog_7_method_9_code
def yX5_inDigits : MethodName := ⟨RX5, "inDigits", "()I"⟩
abbrev cX5_all : ByteArray := prog_7_method_10_code
def yX5_all : MethodName := ⟨RX5, "all", "()I"⟩
abbrev cX5_least : ByteArray := prog_7_method_11_code
def yX5_least : MethodName := ⟨RX5, "least", "()I"⟩
abbrev cX5_withNone : ByteArray := prog_7_method_12_code
def yX5_withNone : MethodName := ⟨RX5, "withNone", "()I"⟩
abbrev cX5_awayIn : ByteArray := prog_7_method_13_code
def yX5_awayIn : MethodName := ⟨RX5, "awayIn", "(I)I"⟩
abbrev cX5_holds : ByteArray := prog_7_method_14_code
def yX5_holds : MethodName := ⟨RX5, "holds", "()Z"⟩
abbrev cX5_firstWrongWeek : ByteArray := prog_7_method_15_code
def yX5_firstWrongWeek : MethodName := ⟨RX5, "firstWrongWeek", "()I"⟩
abbrev cX5_weeksClosedTo : ByteArray := prog_7_method_16_code
def yX5_weeksClosedTo : MethodName := ⟨RX5, "weeksClosedTo", "(I)I"⟩
abbrev cX5_canAdd : ByteArray := prog_7_method_17_code
def yX5_canAdd : MethodName := ⟨RX5, "canAdd", "(II)Z"⟩
abbrev cX5_search : ByteArray := prog_7_method_18_code
def yX5_search : MethodName := ⟨RX5, "search", "(Z)V"⟩
abbrev cX5_takeHopes : ByteArray := prog_7_method_19_code
def yX5_takeHopes : MethodName := ⟨RX5, "takeHopes", "()V"⟩
abbrev cX5_extend : ByteArray := prog_7_method_20_code
def yX5_extend : MethodName := ⟨RX5, "extend", "(III)V"⟩
abbrev cX5_keep : ByteArray := prog_7_method_21_code
def yX5_keep : MethodName := ⟨RX5, "keep", "(I)V"⟩
abbrev cX5_takeTurns : ByteArray := prog_7_method_22_code
def yX5_takeTurns : MethodName := ⟨RX5, "takeTurns", "()V"⟩
abbrev cX5_nextInTurn : ByteArray := prog_7_method_23_code
def yX5_nextInTurn : MethodName := ⟨RX5, "nextInTurn", "(I)I"⟩
abbrev cX5_gladdest : ByteArray := prog_7_method_24_code
def yX5_gladdest : MethodName := ⟨RX5, "gladdest", "(I)I"⟩
abbrev cX5_changeTwo : ByteArray := prog_7_method_25_code
def yX5_changeTwo : MethodName := ⟨RX5, "changeTwo", "()I"⟩
abbrev cX5_swap : ByteArray := prog_7_method_26_code
def yX5_swap : MethodName := ⟨RX5, "swap", "(II)V"⟩
abbrev cX5_barring : ByteArray := prog_7_method_27_code
def yX5_barring : MethodName := ⟨RX5, "barring", "(II)I"⟩
abbrev cX5_holdsWithout : ByteArray := prog_7_method_28_code
def yX5_holdsWithout : MethodName := ⟨RX5, "holdsWithout", "(I)Z"⟩
def RX6 : String := "NotBothInAugust$Rules"
def TX6 : u_T := fun k => match k with
  | 0 => ("NotBothInAugust$Rules", "size", "I", false)
  | 1 => ("NotBothInAugust$Rules", "texts", "[LNotBothInAugust$Text;", true)
  | 2 => ("NotBothInAugust$Rules", "kinds", "[LNotBothInAugust$Clerk;", true)
  | 3 => ("NotBothInAugust$Rules", "names", "[I", true)
  | _ => ("NotBothInAugust$Rules", "stack", "[I", true)
def tyX6 : Nat → FieldType := fun k => match k with
  | 0 => .int
  | 1 => .array (.object "NotBothInAugust$Text")
  | 2 => .array (.object "NotBothInAugust$Clerk")
  | 3 => .array .int
  | _ => .array .int
theorem nmX6 : ∀ a, a < 5 → ∀ b, b < 5 → a ≠ b → (TX6 a).2.1 ≠ (TX6 b).2.1 := by decide +kernel
theorem tyX6_ok : ∀ k, k < 5 → parseFieldDescriptor (TX6 k).2.2.1 = some (tyX6 k) := by decide +kernel
abbrev cX6_init : ByteArray := prog_8_method_1_code
def yX6_init : MethodName := ⟨RX6, "<init>", "([I)V"⟩
abbrev cX6_textAt : ByteArray := prog_8_method_2_code
def yX6_textAt : MethodName := ⟨RX6, "textAt", "(I)LNotBothInAugust$Text;"⟩
abbrev cX6_kindAt : ByteArray := prog_8_method_3_code
def yX6_kindAt : MethodName := ⟨RX6, "kindAt", "(I)LNotBothInAugust$Clerk;"⟩
abbrev cX6_isKind : ByteArray := prog_8_method_4_code
def yX6_isKind : MethodName := ⟨RX6, "isKind", "(II)Z"⟩
abbrev cX6_glad : ByteArray := prog_8_method_5_code
def yX6_glad : MethodName := ⟨RX6, "glad", "(LNotBothInAugust$Shop;II)I"⟩
abbrev cX6_wants : ByteArray := prog_8_method_6_code
def yX6_wants : MethodName := ⟨RX6, "wants", "(LNotBothInAugust$Shop;II)Z"⟩
abbrev cX6_earned : ByteArray := prog_8_method_7_code
def yX6_earned : MethodName := ⟨RX6, "earned", "(LNotBothInAugust$Shop;I)I"⟩
abbrev cX6_gladness : ByteArray := prog_8_method_8_code
def yX6_gladness : MethodName := ⟨RX6, "gladness", "(LNotBothInAugust$Shop;I)I"⟩
abbrev cX6_canBe : ByteArray := prog_8_method_9_code
def yX6_canBe : MethodName := ⟨RX6, "canBe", "(LNotBothInAugust$Shop;II)Z"⟩
abbrev cX6_nameWeek : ByteArray := prog_8_method_10_code
def yX6_nameWeek : MethodName := ⟨RX6, "nameWeek", "(LNotBothInAugust$Shop;II)V"⟩
abbrev cX6_nameOne : ByteArray := prog_8_method_11_code
def yX6_nameOne : MethodName := ⟨RX6, "nameOne", "(LNotBothInAugust$Shop;I)V"⟩
def RX7 : String := "NotBothInAugust$Sheet"
def TX7 : u_T := fun k => match k with
  | 0 => ("NotBothInAugust$Sheet", "sort", "I", false)
  | 1 => ("NotBothInAugust$Sheet", "size", "I", false)
  | _ => ("NotBothInAugust$Sheet", "items", "[I", true)
def tyX7 : Nat → FieldType := fun k => match k with
  | 0 => .int
  | 1 => .int
  | _ => .array .int
theorem nmX7 : ∀ a, a < 3 → ∀ b, b < 3 → a ≠ b → (TX7 a).2.1 ≠ (TX7 b).2.1 := by decide +kernel
theorem tyX7_ok : ∀ k, k < 3 → parseFieldDescriptor (TX7 k).2.2.1 = some (tyX7 k) := by decide +kernel
abbrev cX7_init : ByteArray := prog_9_method_1_code
def yX7_init : MethodName := ⟨RX7, "<init>", "()V"⟩
abbrev cX7_isSort : ByteArray := prog_9_method_2_code
def yX7_isSort : MethodName := ⟨RX7, "isSort", "(I)Z"⟩
abbrev cX7_isMissing : ByteArray := prog_9_method_3_code
def yX7_isMissing : MethodName := ⟨RX7, "isMissing", "()Z"⟩
abbrev cX7_lay : ByteArray := prog_9_method_4_code
def yX7_lay : MethodName := ⟨RX7, "lay", "(II)V"⟩
abbrev cX7_reaches : ByteArray := prog_9_method_5_code
def yX7_reaches : MethodName := ⟨RX7, "reaches", "(II)Z"⟩
abbrev cX7_put : ByteArray := prog_9_method_6_code
def yX7_put : MethodName := ⟨RX7, "put", "(II)V"⟩
def RX8 : String := "NotBothInAugust$Shop"
def TX8 : u_T := fun k => match k with
  | 0 => ("NotBothInAugust$Shop", "year", "I", false)
  | 1 => ("NotBothInAugust$Shop", "needed", "I", false)
  | 2 => ("NotBothInAugust$Shop", "key", "I", false)
  | 3 => ("NotBothInAugust$Shop", "rule", "I", false)
  | 4 => ("NotBothInAugust$Shop", "people", "I", false)
  | 5 => ("NotBothInAugust$Shop", "kinds", "[I", true)
  | 6 => ("NotBothInAugust$Shop", "numbers", "[I", true)
  | 7 => ("NotBothInAugust$Shop", "lengths", "[I", true)
  | 8 => ("NotBothInAugust$Shop", "wishes", "[I", true)
  | 9 => ("NotBothInAugust$Shop", "points", "[I", true)
  | 10 => ("NotBothInAugust$Shop", "blocks", "[I", true)
  | _ => ("NotBothInAugust$Shop", "aparts", "[I", true)
def tyX8 : Nat → FieldType := fun k => match k with
  | 0 => .int
  | 1 => .int
  | 2 => .int
  | 3 => .int
  | 4 => .int
  | 5 => .array .int
  | 6 => .array .int
  | 7 => .array .int
  | 8 => .array .int
  | 9 => .array .int
  | 10 => .array .int
  | _ => .array .int
theorem nmX8 : ∀ a, a < 12 → ∀ b, b < 12 → a ≠ b → (TX8 a).2.1 ≠ (TX8 b).2.1 := by decide +kernel
theorem tyX8_ok : ∀ k, k < 12 → parseFieldDescriptor (TX8 k).2.2.1 = some (tyX8 k) := by decide +kernel
abbrev cX8_init : ByteArray := prog_10_method_1_code
def yX8_init : MethodName := ⟨RX8, "<init>", "()V"⟩
abbrev cX8_become : ByteArray := prog_10_method_2_code
def yX8_become : MethodName := ⟨RX8, "become", "(LNotBothInAugust$Shop;)V"⟩
abbrev cX8_isOne : ByteArray := prog_10_method_3_code
def yX8_isOne : MethodName := ⟨RX8, "isOne", "(I)Z"⟩
abbrev cX8_has : ByteArray := prog_10_method_4_code
def yX8_has : MethodName := ⟨RX8, "has", "(II)Z"⟩
abbrev cX8_fits : ByteArray := prog_10_method_5_code
def yX8_fits : MethodName := ⟨RX8, "fits", "(II)Z"⟩
abbrev cX8_number : ByteArray := prog_10_method_6_code
def yX8_number : MethodName := ⟨RX8, "number", "(II)I"⟩
abbrev cX8_put : ByteArray := prog_10_method_7_code
def yX8_put : MethodName := ⟨RX8, "put", "(III)V"⟩
abbrev cX8_rowOf : ByteArray := prog_10_method_8_code
def yX8_rowOf : MethodName := ⟨RX8, "rowOf", "(I)[I"⟩
abbrev cX8_welcome : ByteArray := prog_10_method_9_code
def yX8_welcome : MethodName := ⟨RX8, "welcome", "(III)I"⟩
abbrev cX8_setApart : ByteArray := prog_10_method_10_code
def yX8_setApart : MethodName := ⟨RX8, "setApart", "(IIZ)V"⟩
abbrev cX8_weeksFrom : ByteArray := prog_10_method_11_code
def yX8_weeksFrom : MethodName := ⟨RX8, "weeksFrom", "(II)I"⟩
abbrev cX8_wishesFor : ByteArray := prog_10_method_12_code
def yX8_wishesFor : MethodName := ⟨RX8, "wishesFor", "(II)Z"⟩
abbrev cX8_othersWishing : ByteArray := prog_10_method_13_code
def yX8_othersWishing : MethodName := ⟨RX8, "othersWishing", "(II)I"⟩
abbrev cX8_allows : ByteArray := prog_10_method_14_code
def yX8_allows : MethodName := ⟨RX8, "allows", "(I)Z"⟩
abbrev cX8_booked : ByteArray := prog_10_method_15_code
def yX8_booked : MethodName := ⟨RX8, "booked", "()I"⟩
abbrev cX8_twosApart : ByteArray := prog_10_method_16_code
def yX8_twosApart : MethodName := ⟨RX8, "twosApart", "()I"⟩
abbrev cX8_pointsOfAll : ByteArray := prog_10_method_17_code
def yX8_pointsOfAll : MethodName := ⟨RX8, "pointsOfAll", "()I"⟩
def RX9 : String := "NotBothInAugust$Single"
def TX9 : u_T := fun k => match k with
  | _ => ("", "", "", false)
def tyX9 : Nat → FieldType := fun k => match k with
  | _ => .int
theorem nmX9 : ∀ a, a < 0 → ∀ b, b < 0 → a ≠ b → (TX9 a).2.1 ≠ (TX9 b).2.1 := by decide +kernel
theorem tyX9_ok : ∀ k, k < 0 → parseFieldDescriptor (TX9 k).2.2.1 = some (tyX9 k) := by decide +kernel
abbrev cX9_init : ByteArray := prog_11_method_1_code
def yX9_init : MethodName := ⟨RX9, "<init>", "()V"⟩
abbrev cX9_glad : ByteArray := prog_11_method_2_code
def yX9_glad : MethodName := ⟨RX9, "glad", "(IIZI)I"⟩
abbrev cX9_earns : ByteArray := prog_11_method_3_code
def yX9_earns : MethodName := ⟨RX9, "earns", "(II)I"⟩
abbrev cX9_wants : ByteArray := prog_11_method_4_code
def yX9_wants : MethodName := ⟨RX9, "wants", "(IZI)Z"⟩
def RX10 : String := "NotBothInAugust$Text"
def TX10 : u_T := fun k => match k with
  | 0 => ("NotBothInAugust$Text", "code", "[I", true)
  | 1 => ("NotBothInAugust$Text", "ends", "[I", true)
  | 2 => ("NotBothInAugust$Text", "size", "I", false)
  | 3 => ("NotBothInAugust$Text", "parts", "I", false)
  | 4 => ("NotBothInAugust$Text", "tape", "[I", true)
  | 5 => ("NotBothInAugust$Text", "fed", "I", false)
  | 6 => ("NotBothInAugust$Text", "next", "I", false)
  | 7 => ("NotBothInAugust$Text", "place", "I", false)
  | 8 => ("NotBothInAugust$Text", "token", "I", false)
  | 9 => ("NotBothInAugust$Text", "value", "I", false)
  | 10 => ("NotBothInAugust$Text", "open", "I", false)
  | _ => ("NotBothInAugust$Text", "fault", "I", false)
def tyX10 : Nat → FieldType := fun k => match k with
  | 0 => .array .int
  | 1 => .array .int
  | 2 => .int
  | 3 => .int
  | 4 => .array .int
  | 5 => .int
  | 6 => .int
  | 7 => .int
  | 8 => .int
  | 9 => .int
  | 10 => .int
  | _ => .int
theorem nmX10 : ∀ a, a < 12 → ∀ b, b < 12 → a ≠ b → (TX10 a).2.1 ≠ (TX10 b).2.1 := by decide +kernel
theorem tyX10_ok : ∀ k, k < 12 → parseFieldDescriptor (TX10 k).2.2.1 = some (tyX10 k) := by decide +kernel
abbrev cX10_init : ByteArray := prog_12_method_1_code
def yX10_init : MethodName := ⟨RX10, "<init>", "([I)V"⟩
abbrev cX10_add : ByteArray := prog_12_method_2_code
def yX10_add : MethodName := ⟨RX10, "add", "(I)V"⟩
abbrev cX10_addName : ByteArray := prog_12_method_3_code
def yX10_addName : MethodName := ⟨RX10, "addName", "(I)V"⟩
abbrev cX10_endPart : ByteArray := prog_12_method_4_code
def yX10_endPart : MethodName := ⟨RX10, "endPart", "()V"⟩
abbrev cX10_value : ByteArray := prog_12_method_5_code
def yX10_value : MethodName := ⟨RX10, "value", "(I[I[I)I"⟩
abbrev cX10_operand : ByteArray := prog_12_method_6_code
def yX10_operand : MethodName := ⟨RX10, "operand", "(I[I)I"⟩
abbrev cX10_turned : ByteArray := prog_12_method_7_code
def yX10_turned : MethodName := ⟨RX10, "turned", "(II)I"⟩
abbrev cX10_joined : ByteArray := prog_12_method_8_code
def yX10_joined : MethodName := ⟨RX10, "joined", "(III)I"⟩
abbrev cX10_read : ByteArray := prog_12_method_9_code
def yX10_read : MethodName := ⟨RX10, "read", "(I)I"⟩
abbrev cX10_readEither : ByteArray := prog_12_method_10_code
def yX10_readEither : MethodName := ⟨RX10, "readEither", "()V"⟩
abbrev cX10_readBoth : ByteArray := prog_12_method_11_code
def yX10_readBoth : MethodName := ⟨RX10, "readBoth", "()V"⟩
abbrev cX10_readNot : ByteArray := prog_12_method_12_code
def yX10_readNot : MethodName := ⟨RX10, "readNot", "()V"⟩
abbrev cX10_readComparison : ByteArray := prog_12_method_13_code
def yX10_readComparison : MethodName := ⟨RX10, "readComparison", "()V"⟩
abbrev cX10_readSum : ByteArray := prog_12_method_14_code
def yX10_readSum : MethodName := ⟨RX10, "readSum", "()V"⟩
abbrev cX10_readTerm : ByteArray := prog_12_method_15_code
def yX10_readTerm : MethodName := ⟨RX10, "readTerm", "()V"⟩
abbrev cX10_readOne : ByteArray := prog_12_method_16_code
def yX10_readOne : MethodName := ⟨RX10, "readOne", "()V"⟩
abbrev cX10_openOne : ByteArray := prog_12_method_17_code
def yX10_openOne : MethodName := ⟨RX10, "openOne", "()Z"⟩
abbrev cX10_take : ByteArray := prog_12_method_18_code
def yX10_take : MethodName := ⟨RX10, "take", "(I)V"⟩
abbrev cX10_fail : ByteArray := prog_12_method_19_code
def yX10_fail : MethodName := ⟨RX10, "fail", "()V"⟩
abbrev cX10_advance : ByteArray := prog_12_method_20_code
def yX10_advance : MethodName := ⟨RX10, "advance", "()V"⟩
abbrev cX10_advanceOverWord : ByteArray := prog_12_method_21_code
def yX10_advanceOverWord : MethodName := ⟨RX10, "advanceOverWord", "()V"⟩
abbrev cX10_advanceOverNumber : ByteArray := prog_12_method_22_code
def yX10_advanceOverNumber : MethodName := ⟨RX10, "advanceOverNumber", "()V"⟩
abbrev cX10_key : ByteArray := prog_12_method_23_code
def yX10_key : MethodName := ⟨RX10, "key", "()I"⟩
abbrev cX10_name : ByteArray := prog_12_method_24_code
def yX10_name : MethodName := ⟨RX10, "name", "()I"⟩
abbrev cX10_isWord : ByteArray := prog_12_method_25_code
def yX10_isWord : MethodName := ⟨RX10, "isWord", "(Ljava/lang/String;)Z"⟩
abbrev cX10_isBlank : ByteArray := prog_12_method_26_code
def yX10_isBlank : MethodName := ⟨RX10, "isBlank", "(I)Z"⟩
abbrev cX10_isLetter : ByteArray := prog_12_method_27_code
def yX10_isLetter : MethodName := ⟨RX10, "isLetter", "(I)Z"⟩
abbrev cX10_isNumeral : ByteArray := prog_12_method_28_code
def yX10_isNumeral : MethodName := ⟨RX10, "isNumeral", "(I)Z"⟩
abbrev cX10_isSign : ByteArray := prog_12_method_29_code
def yX10_isSign : MethodName := ⟨RX10, "isSign", "(I)Z"⟩
def RX11 : String := "NotBothInAugust"
def TX11 : u_T := fun k => match k with
  | 0 => ("NotBothInAugust", "now", "LNotBothInAugust$Shop;", true)
  | 1 => ("NotBothInAugust", "kept", "LNotBothInAugust$Shop;", true)
  | 2 => ("NotBothInAugust", "trial", "LNotBothInAugust$Shop;", true)
  | 3 => ("NotBothInAugust", "isKept", "Z", false)
  | 4 => ("NotBothInAugust", "tape", "[I", true)
  | 5 => ("NotBothInAugust", "fed", "I", false)
  | 6 => ("NotBothInAugust", "rules", "LNotBothInAugust$Rules;", true)
  | 7 => ("NotBothInAugust", "planner", "LNotBothInAugust$Planner;", true)
  | _ => ("NotBothInAugust", "sheets", "[LNotBothInAugust$Sheet;", true)
def tyX11 : Nat → FieldType := fun k => match k with
  | 0 => .object "NotBothInAugust$Shop"
  | 1 => .object "NotBothInAugust$Shop"
  | 2 => .object "NotBothInAugust$Shop"
  | 3 => .boolean
  | 4 => .array .int
  | 5 => .int
  | 6 => .object "NotBothInAugust$Rules"
  | 7 => .object "NotBothInAugust$Planner"
  | _ => .array (.object "NotBothInAugust$Sheet")
theorem nmX11 : ∀ a, a < 9 → ∀ b, b < 9 → a ≠ b → (TX11 a).2.1 ≠ (TX11 b).2.1 := by decide +kernel
theorem tyX11_ok : ∀ k, k < 9 → parseFieldDescriptor (TX11 k).2.2.1 = some (tyX11 k) := by decide +kernel
abbrev cX11_init : ByteArray := prog_1_method_1_code
def yX11_init : MethodName := ⟨RX11, "<init>", "()V"⟩
abbrev cX11_set : ByteArray := prog_1_method_2_code
def yX11_set : MethodName := ⟨RX11, "set", "(III)I"⟩
abbrev cX11_clerk : ByteArray := prog_1_method_3_code
def yX11_clerk : MethodName := ⟨RX11, "clerk", "(III)I"⟩
abbrev cX11_apart : ByteArray := prog_1_method_4_code
def yX11_apart : MethodName := ⟨RX11, "apart", "(III)I"⟩
abbrev cX11_book : ByteArray := prog_1_method_5_code
def yX11_book : MethodName := ⟨RX11, "book", "(II)I"⟩
abbrev cX11_told : ByteArray := prog_1_method_6_code
def yX11_told : MethodName := ⟨RX11, "told", "(II)I"⟩
abbrev cX11_toldOfWeek : ByteArray := prog_1_method_7_code
def yX11_toldOfWeek : MethodName := ⟨RX11, "toldOfWeek", "(II)I"⟩
abbrev cX11_feed : ByteArray := prog_1_method_8_code
def yX11_feed : MethodName := ⟨RX11, "feed", "(I)I"⟩
abbrev cX11_text : ByteArray := prog_1_method_9_code
def yX11_text : MethodName := ⟨RX11, "text", "()I"⟩
abbrev cX11_force : ByteArray := prog_1_method_10_code
def yX11_force : MethodName := ⟨RX11, "force", "(I)I"⟩
abbrev cX11_plan : ByteArray := prog_1_method_11_code
def yX11_plan : MethodName := ⟨RX11, "plan", "(I)I"⟩
abbrev cX11_year : ByteArray := prog_1_method_12_code
def yX11_year : MethodName := ⟨RX11, "year", "()I"⟩
abbrev cX11_best : ByteArray := prog_1_method_13_code
def yX11_best : MethodName := ⟨RX11, "best", "(I)I"⟩
abbrev cX11_inTurn : ByteArray := prog_1_method_14_code
def yX11_inTurn : MethodName := ⟨RX11, "inTurn", "(I)I"⟩
abbrev cX11_change : ByteArray := prog_1_method_15_code
def yX11_change : MethodName := ⟨RX11, "change", "(I)I"⟩
abbrev cX11_bars : ByteArray := prog_1_method_16_code
def yX11_bars : MethodName := ⟨RX11, "bars", "(II)I"⟩
abbrev cX11_settle : ByteArray := prog_1_method_17_code
def yX11_settle : MethodName := ⟨RX11, "settle", "()I"⟩
abbrev cX11_tells : ByteArray := prog_1_method_18_code
def yX11_tells : MethodName := ⟨RX11, "tells", "(III)I"⟩
abbrev cX11_film : ByteArray := prog_1_method_19_code
def yX11_film : MethodName := ⟨RX11, "film", "(II)I"⟩
abbrev cX11_drawn : ByteArray := prog_1_method_20_code
def yX11_drawn : MethodName := ⟨RX11, "drawn", "(I)I"⟩
abbrev cX11_chance : ByteArray := prog_1_method_21_code
def yX11_chance : MethodName := ⟨RX11, "chance", "(III)J"⟩
abbrev cX11_image : ByteArray := prog_1_method_22_code
def yX11_image : MethodName := ⟨RX11, "image", "()I"⟩
abbrev cX11_back : ByteArray := prog_1_method_23_code
def yX11_back : MethodName := ⟨RX11, "back", "()I"⟩
abbrev cX11_count : ByteArray := prog_1_method_24_code
def yX11_count : MethodName := ⟨RX11, "count", "(I)I"⟩
abbrev cX11_drawWishes : ByteArray := prog_1_method_25_code
def yX11_drawWishes : MethodName := ⟨RX11, "drawWishes", "(I)V"⟩
abbrev cX11_firstOtherwise : ByteArray := prog_1_method_26_code
def yX11_firstOtherwise : MethodName := ⟨RX11, "firstOtherwise", "(LNotBothInAugust$Sheet;I)I"⟩
abbrev cX11_kindsTold : ByteArray := prog_1_method_27_code
def yX11_kindsTold : MethodName := ⟨RX11, "kindsTold", "(LNotBothInAugust$Sheet;I)I"⟩
abbrev cX11_numbersTold : ByteArray := prog_1_method_28_code
def yX11_numbersTold : MethodName := ⟨RX11, "numbersTold", "(LNotBothInAugust$Sheet;I)I"⟩
abbrev cX11_textsTold : ByteArray := prog_1_method_29_code
def yX11_textsTold : MethodName := ⟨RX11, "textsTold", "(LNotBothInAugust$Sheet;I)I"⟩
abbrev cX11_wishesTold : ByteArray := prog_1_method_30_code
def yX11_wishesTold : MethodName := ⟨RX11, "wishesTold", "(LNotBothInAugust$Sheet;I)I"⟩
abbrev cX11_leastWishesTold : ByteArray := prog_1_method_31_code
def yX11_leastWishesTold : MethodName := ⟨RX11, "leastWishesTold", "(LNotBothInAugust$Sheet;I)I"⟩
abbrev cX11_isSoIfWished : ByteArray := prog_1_method_32_code
def yX11_isSoIfWished : MethodName := ⟨RX11, "isSoIfWished", "(LNotBothInAugust$Sheet;IIZ)Z"⟩
abbrev cX11_commonDivisor : ByteArray := prog_1_method_33_code
def yX11_commonDivisor : MethodName := ⟨RX11, "commonDivisor", "(II)I"⟩
abbrev cX11_sheet : ByteArray := prog_1_method_34_code
def yX11_sheet : MethodName := ⟨RX11, "sheet", "(III)I"⟩
abbrev cX11_cell : ByteArray := prog_1_method_35_code
def yX11_cell : MethodName := ⟨RX11, "cell", "(III)I"⟩
abbrev cX11_copy : ByteArray := prog_1_method_36_code
def yX11_copy : MethodName := ⟨RX11, "copy", "(IIIII)I"⟩
abbrev cX11_clerks : ByteArray := prog_1_method_37_code
def yX11_clerks : MethodName := ⟨RX11, "clerks", "(IIII)I"⟩
abbrev cX11_taken : ByteArray := prog_1_method_38_code
def yX11_taken : MethodName := ⟨RX11, "taken", "(II)I"⟩
abbrev cX11_isWeek : ByteArray := prog_1_method_39_code
def yX11_isWeek : MethodName := ⟨RX11, "isWeek", "(I)Z"⟩
abbrev cX11_isSheet : ByteArray := prog_1_method_40_code
def yX11_isSheet : MethodName := ⟨RX11, "isSheet", "(I)Z"⟩
def RX12 : String := "NotBothInAugustModel"
def TX12 : u_T := fun k => match k with
  | 0 => ("NotBothInAugustModel", "thrown", "I", false)
  | 1 => ("NotBothInAugustModel", "texts", "[I", true)
  | 2 => ("NotBothInAugustModel", "textSize", "[I", true)
  | 3 => ("NotBothInAugustModel", "textCount", "I", false)
  | 4 => ("NotBothInAugustModel", "rule", "I", false)
  | 5 => ("NotBothInAugustModel", "tape", "[I", true)
  | 6 => ("NotBothInAugustModel", "taped", "I", false)
  | 7 => ("NotBothInAugustModel", "shop", "[I", true)
  | 8 => ("NotBothInAugustModel", "kinds", "[I", true)
  | 9 => ("NotBothInAugustModel", "rows", "[I", true)
  | 10 => ("NotBothInAugustModel", "aparts", "[I", true)
  | 11 => ("NotBothInAugustModel", "many", "I", false)
  | 12 => ("NotBothInAugustModel", "ofWeek", "I", false)
  | 13 => ("NotBothInAugustModel", "ofWished", "I", false)
  | 14 => ("NotBothInAugustModel", "ofNumber", "I", false)
  | 15 => ("NotBothInAugustModel", "ofLength", "I", false)
  | 16 => ("NotBothInAugustModel", "ofPoints", "I", false)
  | 17 => ("NotBothInAugustModel", "ofAway", "I", false)
  | 18 => ("NotBothInAugustModel", "from", "I", false)
  | 19 => ("NotBothInAugustModel", "size", "I", false)
  | 20 => ("NotBothInAugustModel", "here", "I", false)
  | 21 => ("NotBothInAugustModel", "token", "I", false)
  | 22 => ("NotBothInAugustModel", "tokenAt", "I", false)
  | 23 => ("NotBothInAugustModel", "tokenWorth", "J", false)
  | 24 => ("NotBothInAugustModel", "open", "I", false)
  | 25 => ("NotBothInAugustModel", "bad", "Z", false)
  | 26 => ("NotBothInAugustModel", "fault", "I", false)
  | 27 => ("NotBothInAugustModel", "cans", "[Z", true)
  | 28 => ("NotBothInAugustModel", "hases", "[I", true)
  | 29 => ("NotBothInAugustModel", "aways", "[I", true)
  | 30 => ("NotBothInAugustModel", "blocks", "[I", true)
  | 31 => ("NotBothInAugustModel", "isFound", "Z", false)
  | 32 => ("NotBothInAugustModel", "bestDigits", "I", false)
  | 33 => ("NotBothInAugustModel", "bestValue", "I", false)
  | 34 => ("NotBothInAugustModel", "wishesWas", "[I", true)
  | 35 => ("NotBothInAugustModel", "shopKept", "[I", true)
  | 36 => ("NotBothInAugustModel", "rowsKept", "[I", true)
  | 37 => ("NotBothInAugustModel", "apartsKept", "[I", true)
  | 38 => ("NotBothInAugustModel", "manyKept", "I", false)
  | 39 => ("NotBothInAugustModel", "ruleKept", "I", false)
  | 40 => ("NotBothInAugustModel", "isThere", "[Z", true)
  | 41 => ("NotBothInAugustModel", "sorts", "[I", true)
  | 42 => ("NotBothInAugustModel", "sheetSize", "[I", true)
  | _ => ("NotBothInAugustModel", "items", "[I", true)
def tyX12 : Nat → FieldType := fun k => match k with
  | 0 => .int
  | 1 => .array .int
  | 2 => .array .int
  | 3 => .int
  | 4 => .int
  | 5 => .array .int
  | 6 => .int
  | 7 => .array .int
  | 8 => .array .int
  | 9 => .array .int
  | 10 => .array .int
  | 11 => .int
  | 12 => .int
  | 13 => .int
  | 14 => .int
  | 15 => .int
  | 16 => .int
  | 17 => .int
  | 18 => .int
  | 19 => .int
  | 20 => .int
  | 21 => .int
  | 22 => .int
  | 23 => .long
  | 24 => .int
  | 25 => .boolean
  | 26 => .int
  | 27 => .array .boolean
  | 28 => .array .int
  | 29 => .array .int
  | 30 => .array .int
  | 31 => .boolean
  | 32 => .int
  | 33 => .int
  | 34 => .array .int
  | 35 => .array .int
  | 36 => .array .int
  | 37 => .array .int
  | 38 => .int
  | 39 => .int
  | 40 => .array .boolean
  | 41 => .array .int
  | 42 => .array .int
  | _ => .array .int
theorem nmX12 : ∀ a, a < 44 → ∀ b, b < 44 → a ≠ b → (TX12 a).2.1 ≠ (TX12 b).2.1 := by decide +kernel
theorem tyX12_ok : ∀ k, k < 44 → parseFieldDescriptor (TX12 k).2.2.1 = some (tyX12 k) := by decide +kernel
abbrev cX12_in : ByteArray := prog_14_method_2_code
def yX12_in : MethodName := ⟨RX12, "in", "(JJJ)Z"⟩
abbrev cX12_within : ByteArray := prog_14_method_3_code
def yX12_within : MethodName := ⟨RX12, "within", "(III)I"⟩
abbrev cX12_init : ByteArray := prog_14_method_4_code
def yX12_init : MethodName := ⟨RX12, "<init>", "()V"⟩
abbrev cX12_spell : ByteArray := prog_14_method_5_code
def yX12_spell : MethodName := ⟨RX12, "spell", "(IIIIIIIII)V"⟩
abbrev cX12_isOne : ByteArray := prog_14_method_6_code
def yX12_isOne : MethodName := ⟨RX12, "isOne", "(I)Z"⟩
abbrev cX12_isWeek : ByteArray := prog_14_method_7_code
def yX12_isWeek : MethodName := ⟨RX12, "isWeek", "(I)Z"⟩
abbrev cX12_mostOf : ByteArray := prog_14_method_8_code
def yX12_mostOf : MethodName := ⟨RX12, "mostOf", "(I)I"⟩
abbrev cX12_set : ByteArray := prog_14_method_9_code
def yX12_set : MethodName := ⟨RX12, "set", "(III)I"⟩
abbrev cX12_lays : ByteArray := prog_14_method_10_code
def yX12_lays : MethodName := ⟨RX12, "lays", "(III)V"⟩
abbrev cX12_clerk : ByteArray := prog_14_method_11_code
def yX12_clerk : MethodName := ⟨RX12, "clerk", "(III)I"⟩
abbrev cX12_parts : ByteArray := prog_14_method_12_code
def yX12_parts : MethodName := ⟨RX12, "parts", "(III)V"⟩
abbrev cX12_apart : ByteArray := prog_14_method_13_code
def yX12_apart : MethodName := ⟨RX12, "apart", "(III)I"⟩
abbrev cX12_book : ByteArray := prog_14_method_14_code
def yX12_book : MethodName := ⟨RX12, "book", "(II)I"⟩
abbrev cX12_told : ByteArray := prog_14_method_15_code
def yX12_told : MethodName := ⟨RX12, "told", "(II)I"⟩
abbrev cX12_feed : ByteArray := prog_14_method_16_code
def yX12_feed : MethodName := ⟨RX12, "feed", "(I)I"⟩
abbrev cX12_byteAt : ByteArray := prog_14_method_17_code
def yX12_byteAt : MethodName := ⟨RX12, "byteAt", "(I)I"⟩
abbrev cX12_next : ByteArray := prog_14_method_18_code
def yX12_next : MethodName := ⟨RX12, "next", "()V"⟩
abbrev cX12_fail : ByteArray := prog_14_method_19_code
def yX12_fail : MethodName := ⟨RX12, "fail", "()V"⟩
abbrev cX12_isLetter : ByteArray := prog_14_method_20_code
def yX12_isLetter : MethodName := ⟨RX12, "isLetter", "(II)Z"⟩
abbrev cX12_isWord : ByteArray := prog_14_method_21_code
def yX12_isWord : MethodName := ⟨RX12, "isWord", "(IIIIIIII)Z"⟩
abbrev cX12_isSign : ByteArray := prog_14_method_22_code
def yX12_isSign : MethodName := ⟨RX12, "isSign", "(I)Z"⟩
abbrev cX12_opens : ByteArray := prog_14_method_23_code
def yX12_opens : MethodName := ⟨RX12, "opens", "()Z"⟩
abbrev cX12_name : ByteArray := prog_14_method_24_code
def yX12_name : MethodName := ⟨RX12, "name", "()I"⟩
abbrev cX12_atom : ByteArray := prog_14_method_25_code
def yX12_atom : MethodName := ⟨RX12, "atom", "()I"⟩
abbrev cX12_term : ByteArray := prog_14_method_26_code
def yX12_term : MethodName := ⟨RX12, "term", "()I"⟩
abbrev cX12_added : ByteArray := prog_14_method_27_code
def yX12_added : MethodName := ⟨RX12, "added", "()I"⟩
abbrev cX12_not : ByteArray := prog_14_method_28_code
def yX12_not : MethodName := ⟨RX12, "not", "()I"⟩
abbrev cX12_both : ByteArray := prog_14_method_29_code
def yX12_both : MethodName := ⟨RX12, "both", "()I"⟩
abbrev cX12_either : ByteArray := prog_14_method_30_code
def yX12_either : MethodName := ⟨RX12, "either", "()I"⟩
abbrev cX12_part : ByteArray := prog_14_method_31_code
def yX12_part : MethodName := ⟨RX12, "part", "(Z)I"⟩
abbrev cX12_read : ByteArray := prog_14_method_32_code
def yX12_read : MethodName := ⟨RX12, "read", "(II)I"⟩
abbrev cX12_text : ByteArray := prog_14_method_33_code
def yX12_text : MethodName := ⟨RX12, "text", "()I"⟩
abbrev cX12_force : ByteArray := prog_14_method_34_code
def yX12_force : MethodName := ⟨RX12, "force", "(I)I"⟩
abbrev cX12_isWished : ByteArray := prog_14_method_35_code
def yX12_isWished : MethodName := ⟨RX12, "isWished", "(II)Z"⟩
abbrev cX12_asks : ByteArray := prog_14_method_36_code
def yX12_asks : MethodName := ⟨RX12, "asks", "(III)I"⟩
abbrev cX12_gladOf : ByteArray := prog_14_method_37_code
def yX12_gladOf : MethodName := ⟨RX12, "gladOf", "(II)I"⟩
abbrev cX12_earnsOf : ByteArray := prog_14_method_38_code
def yX12_earnsOf : MethodName := ⟨RX12, "earnsOf", "(I)I"⟩
abbrev cX12_wants : ByteArray := prog_14_method_39_code
def yX12_wants : MethodName := ⟨RX12, "wants", "(II)Z"⟩
abbrev cX12_weeksOf : ByteArray := prog_14_method_40_code
def yX12_weeksOf : MethodName := ⟨RX12, "weeksOf", "(II)I"⟩
abbrev cX12_canBe : ByteArray := prog_14_method_41_code
def yX12_canBe : MethodName := ⟨RX12, "canBe", "(II)Z"⟩
abbrev cX12_hasOf : ByteArray := prog_14_method_42_code
def yX12_hasOf : MethodName := ⟨RX12, "hasOf", "(II)I"⟩
abbrev cX12_tables : ByteArray := prog_14_method_43_code
def yX12_tables : MethodName := ⟨RX12, "tables", "()V"⟩
abbrev cX12_booked : ByteArray := prog_14_method_44_code
def yX12_booked : MethodName := ⟨RX12, "booked", "()V"⟩
abbrev cX12_bitsOf : ByteArray := prog_14_method_45_code
def yX12_bitsOf : MethodName := ⟨RX12, "bitsOf", "(I)I"⟩
abbrev cX12_awayIn : ByteArray := prog_14_method_46_code
def yX12_awayIn : MethodName := ⟨RX12, "awayIn", "(I)I"⟩
abbrev cX12_isRight : ByteArray := prog_14_method_47_code
def yX12_isRight : MethodName := ⟨RX12, "isRight", "(I)Z"⟩
abbrev cX12_firstWrong : ByteArray := prog_14_method_48_code
def yX12_firstWrong : MethodName := ⟨RX12, "firstWrong", "()I"⟩
abbrev cX12_holds : ByteArray := prog_14_method_49_code
def yX12_holds : MethodName := ⟨RX12, "holds", "()Z"⟩
abbrev cX12_allOf : ByteArray := prog_14_method_50_code
def yX12_allOf : MethodName := ⟨RX12, "allOf", "()I"⟩
abbrev cX12_leastOf : ByteArray := prog_14_method_51_code
def yX12_leastOf : MethodName := ⟨RX12, "leastOf", "()I"⟩
abbrev cX12_digits : ByteArray := prog_14_method_52_code
def yX12_digits : MethodName := ⟨RX12, "digits", "()I"⟩
abbrev cX12_plan : ByteArray := prog_14_method_53_code
def yX12_plan : MethodName := ⟨RX12, "plan", "(I)I"⟩
abbrev cX12_year : ByteArray := prog_14_method_54_code
def yX12_year : MethodName := ⟨RX12, "year", "()I"⟩
abbrev cX12_seeks : ByteArray := prog_14_method_55_code
def yX12_seeks : MethodName := ⟨RX12, "seeks", "(IZ)V"⟩
abbrev cX12_best : ByteArray := prog_14_method_56_code
def yX12_best : MethodName := ⟨RX12, "best", "(I)I"⟩
abbrev cX12_nextTurn : ByteArray := prog_14_method_57_code
def yX12_nextTurn : MethodName := ⟨RX12, "nextTurn", "(I)I"⟩
abbrev cX12_takes : ByteArray := prog_14_method_58_code
def yX12_takes : MethodName := ⟨RX12, "takes", "(I)V"⟩
abbrev cX12_turnsAll : ByteArray := prog_14_method_59_code
def yX12_turnsAll : MethodName := ⟨RX12, "turnsAll", "()V"⟩
abbrev cX12_noneMany : ByteArray := prog_14_method_60_code
def yX12_noneMany : MethodName := ⟨RX12, "noneMany", "()I"⟩
abbrev cX12_inTurn : ByteArray := prog_14_method_61_code
def yX12_inTurn : MethodName := ⟨RX12, "inTurn", "(I)I"⟩
abbrev cX12_settle : ByteArray := prog_14_method_62_code
def yX12_settle : MethodName := ⟨RX12, "settle", "()I"⟩
abbrev cX12_change : ByteArray := prog_14_method_63_code
def yX12_change : MethodName := ⟨RX12, "change", "(I)I"⟩
abbrev cX12_bars : ByteArray := prog_14_method_64_code
def yX12_bars : MethodName := ⟨RX12, "bars", "(II)I"⟩
abbrev cX12_firstOther : ByteArray := prog_14_method_65_code
def yX12_firstOther : MethodName := ⟨RX12, "firstOther", "(II)I"⟩
abbrev cX12_tells : ByteArray := prog_14_method_66_code
def yX12_tells : MethodName := ⟨RX12, "tells", "(III)I"⟩
abbrev cX12_film : ByteArray := prog_14_method_67_code
def yX12_film : MethodName := ⟨RX12, "film", "(II)I"⟩
abbrev cX12_draws : ByteArray := prog_14_method_68_code
def yX12_draws : MethodName := ⟨RX12, "draws", "(I)V"⟩
abbrev cX12_drawn : ByteArray := prog_14_method_69_code
def yX12_drawn : MethodName := ⟨RX12, "drawn", "(I)I"⟩
abbrev cX12_chance : ByteArray := prog_14_method_70_code
def yX12_chance : MethodName := ⟨RX12, "chance", "(III)J"⟩
abbrev cX12_image : ByteArray := prog_14_method_71_code
def yX12_image : MethodName := ⟨RX12, "image", "()I"⟩
abbrev cX12_back : ByteArray := prog_14_method_72_code
def yX12_back : MethodName := ⟨RX12, "back", "()I"⟩
abbrev cX12_count : ByteArray := prog_14_method_73_code
def yX12_count : MethodName := ⟨RX12, "count", "(I)I"⟩
abbrev cX12_isSheet : ByteArray := prog_14_method_74_code
def yX12_isSheet : MethodName := ⟨RX12, "isSheet", "(I)Z"⟩
abbrev cX12_sheet : ByteArray := prog_14_method_75_code
def yX12_sheet : MethodName := ⟨RX12, "sheet", "(III)I"⟩
abbrev cX12_cell : ByteArray := prog_14_method_76_code
def yX12_cell : MethodName := ⟨RX12, "cell", "(III)I"⟩
abbrev cX12_copy : ByteArray := prog_14_method_77_code
def yX12_copy : MethodName := ⟨RX12, "copy", "(IIIII)I"⟩
abbrev cX12_clerks : ByteArray := prog_14_method_78_code
def yX12_clerks : MethodName := ⟨RX12, "clerks", "(IIII)I"⟩
abbrev cX12_over : ByteArray := prog_14_method_79_code
def yX12_over : MethodName := ⟨RX12, "over", "(I)I"⟩
abbrev cX12_taken : ByteArray := prog_14_method_80_code
def yX12_taken : MethodName := ⟨RX12, "taken", "(II)I"⟩
def RJ6 : String := "java/lang/Integer"
abbrev cJ6_bitCount_0f7a4 : ByteArray := prog_15_method_49_code
def yJ6_bitCount_0f7a4 : MethodName := ⟨RJ6, "bitCount", "(I)I"⟩
def RJ9 : String := "java/lang/Math"
abbrev cJ9_max_7cf53 : ByteArray := prog_16_method_65_code
def yJ9_max_7cf53 : MethodName := ⟨RJ9, "max", "(II)I"⟩
abbrev cJ9_min_7cf53 : ByteArray := prog_16_method_69_code
def yJ9_min_7cf53 : MethodName := ⟨RJ9, "min", "(II)I"⟩
def RJ0 : String := "java/lang/String"
abbrev cJ0_length_8abf5 : ByteArray := prog_17_method_54_code
def yJ0_length_8abf5 : MethodName := ⟨RJ0, "length", "()I"⟩
abbrev cJ0_charAt_5068e : ByteArray := prog_17_method_56_code
def yJ0_charAt_5068e : MethodName := ⟨RJ0, "charAt", "(I)C"⟩
abbrev cJ0_coder_7d493 : ByteArray := prog_17_method_152_code
def yJ0_coder_7d493 : MethodName := ⟨RJ0, "coder", "()B"⟩
abbrev cJ0_isLatin1_aae02 : ByteArray := prog_17_method_154_code
def yJ0_isLatin1_aae02 : MethodName := ⟨RJ0, "isLatin1", "()Z"⟩
abbrev cJ0_checkIndex_df160 : ByteArray := prog_17_method_155_code
def yJ0_checkIndex_df160 : MethodName := ⟨RJ0, "checkIndex", "(II)V"⟩
def RJ1 : String := "java/lang/StringLatin1"
abbrev cJ1_charAt_3b067 : ByteArray := prog_18_method_2_code
def yJ1_charAt_3b067 : MethodName := ⟨RJ1, "charAt", "([BI)C"⟩
def RJ2 : String := "java/lang/StringUTF16"
abbrev cJ2_getChar_3b067 : ByteArray := prog_19_method_5_code
def yJ2_getChar_3b067 : MethodName := ⟨RJ2, "getChar", "([BI)C"⟩
abbrev cJ2_length_9d52b : ByteArray := prog_19_method_6_code
def yJ2_length_9d52b : MethodName := ⟨RJ2, "length", "([B)I"⟩
abbrev cJ2_charAt_3b067 : ByteArray := prog_19_method_83_code
def yJ2_charAt_3b067 : MethodName := ⟨RJ2, "charAt", "([BI)C"⟩
abbrev cJ2_checkIndex_2214a : ByteArray := prog_19_method_91_code
def yJ2_checkIndex_2214a : MethodName := ⟨RJ2, "checkIndex", "(I[B)V"⟩
def RJ10 : String := "java/lang/System"
def RJ3 : String := "jdk/internal/util/Preconditions"
abbrev cJ3_checkIndex_8e157 : ByteArray := prog_21_method_11_code
def yJ3_checkIndex_8e157 : MethodName := ⟨RJ3, "checkIndex", "(IILjava/util/function/BiFunction;)I"⟩
def RL : String := "NotBothInAugustLaw"
abbrev cL_law : ByteArray := code
def yL_law : MethodName := ⟨RL, "law", "([I)Z"⟩
abbrev vwCl : List vw_C := [(RX0, TX0, 0), (RX1, TX1, 0), (RX2, TX2, 0), (RX3, TX3, 0), (RX4, TX4, 0), (RX5, TX5, 12), (RX6, TX6, 5), (RX7, TX7, 3), (RX8, TX8, 12), (RX9, TX9, 0), (RX10, TX10, 12), (RX11, TX11, 9), (RX12, TX12, 44)]
end
section
/-! THE SMALL MACHINE: a program of its own words over a heap of its own words, which later is shown to be what the bytecode does. -/
/-- what an instruction's entry of the constant pool comes to -/
abbrev ak_X : Type := Nat × Nat × Nat × Int
abbrev ak_I : Type := Option (Instr × Nat × ak_X)
abbrev ak_Q : Type := MethodName × ByteArray × Nat × Option FieldType × List ak_I × Nat
/-- a cell's kind: an object of a class, or an array of a type and a length -/
abbrev ak_K : Type := Nat ⊕ (Nat × Nat)
/-- the heap: kinds, whole numbers, long numbers, references -/
abbrev ak_H : Type := List ak_K × (Nat → Nat → Int32) × (Nat → Nat → Int64) × (Nat → Nat → Option Nat)
abbrev ak_L : Type := List (Option Value)
/-- a step comes to: the next place; an answer; a call -/
abbrev ak_O : Type := (Nat × ak_L × List Value × ak_H) ⊕ (Option Value) ⊕ (Nat × List Value × List Value)
def ak_up {α : Type} (f : Nat → Nat → α) (i j : Nat) (v : α) : Nat → Nat → α := fun a b => if a = i ∧ b = j then v else f a b
def ak_cpy (f : Nat → Nat → Int32) (src sp dst dp n : Nat) : Nat → Nat → Int32 := fun a k => if a = dst ∧ dp ≤ k ∧ k < dp + n then f src (sp + (k - dp)) else f a k
def ak_inb (i : Int32) (n : Nat) : Bool := !(decide (i < 0)) && decide (i.toNatClampNeg < n)
/-- static arrays: what stands at the places from 1000000 on: type, length, contents; the script is (L, xs) -/
abbrev ak_Z : Type := Nat × (Nat → Int32)
def ak_strs : List (List Int32) := [[106, 111, 121, 115], [101, 97, 114, 110, 115], [109, 97, 121], [111, 114], [97, 110, 100], [110, 111, 116], [119, 101, 101, 107], [119, 105, 115, 104, 101, 100], [110, 117, 109, 98, 101, 114], [108, 101, 110, 103, 116, 104], [112, 111, 105, 110, 116, 115], [97, 119, 97, 121]]
def ak_from : List Int32 := [0, 0, 0, 0, 1, 0, 0]
def ak_to : List Int32 := [999, 4, 15, 9, 4, 255, 999]
/-- a read-only array of whole numbers: whether of bytes, its length, what it holds -/
def ak_sa (Z : ak_Z) (r : Nat) : Option (Bool × Nat × (Nat → Int32)) :=
  if r = 2000000 then some (false, 7, fun j => ak_from.getD j 0)
  else if r = 2000001 then some (false, 7, fun j => ak_to.getD j 0)
  else if r = 4000000 then some (false, Z.1, Z.2)
  else if 1000100 ≤ r ∧ r < 1000112 then some (true, (ak_strs.getD (r - 1000100) []).length, fun j => (ak_strs.getD (r - 1000100) []).getD j 0)
  else none
/-- widths of the instructions that are told of -/
def ak_wd : Instr → Nat → Bool
  | .tableswitch .., _ => true
  | .bipush _, w => w == 2
  | .sipush _, w => w == 3
  | .iload _, w => w == 2
  | .lload _, w => w == 2
  | .aload _, w => w == 2
  | .istore _, w => w == 2
  | .lstore _, w => w == 2
  | .astore _, w => w == 2
  | .ldc _, w => w == 2
  | .ldc_w _, w => w == 3
  | .ldc2_w _, w => w == 3
  | .iinc .., w => w == 3
  | .goto _, w => w == 3
  | .ifCond .., w => w == 3
  | .if_icmp .., w => w == 3
  | .getfield _, w => w == 3
  | .putfield _, w => w == 3
  | .getstatic _, w => w == 3
  | .new _, w => w == 3
  | .newarray _, w => w == 2
  | .anewarray _, w => w == 3
  | .instanceof _, w => w == 3
  | .invokevirtual _, w => w == 3
  | .invokespecial _, w => w == 3
  | .invokestatic _, w => w == 3
  | _, w => w == 1
/-- instructions of the stack alone -/
def ak_stk (ins : Instr) (x : ak_X) (S : List Value) : Option (List Value) := match ins with
  | .iconst n => some (.int (Int32.ofInt n) :: S)
  | .bipush n => some (.int (Int8.ofInt n).toInt32 :: S)
  | .sipush n => some (.int (Int16.ofInt n).toInt32 :: S)
  | .lconst n => some (.long (Int64.ofNat (n : Nat)) :: S)
  | .ldc _ => match x with
    | (4, _, _, v) => some (.int (Int32.ofInt v) :: S)
    | (5, k, _, _) => some (.ref (1000000 + k) :: S)
    | _ => none
  | .ldc_w _ => match x with
    | (4, _, _, v) => some (.int (Int32.ofInt v) :: S)
    | _ => none
  | .ldc2_w _ => match x with
    | (6, _, _, v) => some (.long (Int64.ofInt v) :: S)
    | _ => none
  | .iadd => match S with | .int b :: .int a :: r => some (.int (a + b) :: r) | _ => none
  | .isub => match S with | .int b :: .int a :: r => some (.int (a - b) :: r) | _ => none
  | .imul => match S with | .int b :: .int a :: r => some (.int (a * b) :: r) | _ => none
  | .iand => match S with | .int b :: .int a :: r => some (.int (a &&& b) :: r) | _ => none
  | .ior => match S with | .int b :: .int a :: r => some (.int (a ||| b) :: r) | _ => none
  | .ixor => match S with | .int b :: .int a :: r => some (.int (a ^^^ b) :: r) | _ => none
  | .idiv => match S with | .int b :: .int a :: r => if b = 0 then none else some (.int (a / b) :: r) | _ => none
  | .irem => match S with | .int b :: .int a :: r => if b = 0 then none else some (.int (a - a / b * b) :: r) | _ => none
  | .ineg => match S with | .int a :: r => some (.int (-a) :: r) | _ => none
  | .ishl => match S with | .int b :: .int a :: r => some (.int (a <<< (b &&& 31)) :: r) | _ => none
  | .ishr => match S with | .int b :: .int a :: r => some (.int (a >>> (b &&& 31)) :: r) | _ => none
  | .iushr => match S with | .int b :: .int a :: r => some (.int (a.toUInt32 >>> (b.toUInt32 &&& Int32.toUInt32 31)).toInt32 :: r) | _ => none
  | .ladd => match S with | .long b :: .long a :: r => some (.long (a + b) :: r) | _ => none
  | .lsub => match S with | .long b :: .long a :: r => some (.long (a - b) :: r) | _ => none
  | .lmul => match S with | .long b :: .long a :: r => some (.long (a * b) :: r) | _ => none
  | .ldiv => match S with | .long b :: .long a :: r => if b = 0 then none else some (.long (a / b) :: r) | _ => none
  | .lrem => match S with | .long b :: .long a :: r => if b = 0 then none else some (.long (a - a / b * b) :: r) | _ => none
  | .lcmp => match S with | .long b :: .long a :: r => some (.int (lg_cmp a b) :: r) | _ => none
  | .i2l => match S with | .int a :: r => some (.long a.toInt64 :: r) | _ => none
  | .l2i => match S with | .long a :: r => some (.int a.toInt32 :: r) | _ => none
  | .i2b => match S with | .int a :: r => some (.int a.toInt8.toInt32 :: r) | _ => none
  | .i2s => match S with | .int a :: r => some (.int a.toInt16.toInt32 :: r) | _ => none
  | .i2c => match S with | .int a :: r => some (.int (a.toUInt32 % 65536).toInt32 :: r) | _ => none
  | .dup => match S with
    | .int a :: r => some (.int a :: .int a :: r)
    | .ref a :: r => some (.ref a :: .ref a :: r)
    | _ => none
  | .pop => match S with | .int _ :: r => some r | _ => none
  | .dup2 => match S with | .int a :: .ref b :: r => some (.int a :: .ref b :: .int a :: .ref b :: r) | _ => none
  | _ => none
/-- reading a local -/
def ak_ldi (L : ak_L) (k : Nat) (S : List Value) : Option (List Value) := match L[k]? with
  | some (some (.int v)) => some (.int v :: S)
  | _ => none
def ak_ldl (L : ak_L) (k : Nat) (S : List Value) : Option (List Value) := match L[k]? with
  | some (some (.long v)) => some (.long v :: S)
  | _ => none
def ak_lda (L : ak_L) (k : Nat) (S : List Value) : Option (List Value) := match L[k]? with
  | some (some (.ref v)) => some (.ref v :: S)
  | _ => none
def ak_load (ins : Instr) (L : ak_L) (S : List Value) : Option (List Value) := match ins with
  | .iload_n k => ak_ldi L k S
  | .iload k => ak_ldi L k S
  | .lload_n k => ak_ldl L k S
  | .lload k => ak_ldl L k S
  | .aload_n k => ak_lda L k S
  | .aload k => ak_lda L k S
  | _ => none
/-- whether no long stands one place before -/
def ak_free1 (L : ak_L) (k : Nat) : Bool := match k with
  | 0 => true
  | k + 1 => match L[k]? with
    | some (some u) => u.category != 2
    | _ => true
def ak_st1 (L : ak_L) (k : Nat) (v : Value) : Option ak_L := if k < L.length ∧ ak_free1 L k = true then some (L.set k (some v)) else none
def ak_st2 (L : ak_L) (k : Nat) (v : Value) : Option ak_L := if k + 1 < L.length ∧ ak_free1 L k = true then some ((L.set k (some v)).set (k + 1) none) else none
def ak_stoi (L : ak_L) (k : Nat) (S : List Value) : Option (ak_L × List Value) := match S with
  | .int v :: r => (ak_st1 L k (.int v)).map (fun l => (l, r))
  | _ => none
def ak_stol (L : ak_L) (k : Nat) (S : List Value) : Option (ak_L × List Value) := match S with
  | .long v :: r => (ak_st2 L k (.long v)).map (fun l => (l, r))
  | _ => none
def ak_stoa (L : ak_L) (k : Nat) (S : List Value) : Option (ak_L × List Value) := match S with
  | .ref v :: r => (ak_st1 L k (.ref v)).map (fun l => (l, r))
  | _ => none
def ak_store (ins : Instr) (L : ak_L) (S : List Value) : Option (ak_L × List Value) := match ins with
  | .istore_n k => ak_stoi L k S
  | .istore k => ak_stoi L k S
  | .lstore_n k => ak_stol L k S
  | .lstore k => ak_stol L k S
  | .astore_n k => ak_stoa L k S
  | .astore k => ak_stoa L k S
  | .iinc k n => match L[k]? with
    | some (some (.int v)) => (ak_st1 L k (.int (v + Int32.ofInt n))).map (fun l => (l, S))
    | _ => none
  | _ => none
def ak_cnd (c : Jvm.ClassFile.Cond) (a b : Int32) : Bool := match c with
  | .eq => decide (a = b)
  | .ne => !decide (a = b)
  | .lt => decide (a < b)
  | .ge => decide (b ≤ a)
  | .gt => decide (b < a)
  | .le => decide (a ≤ b)
/-- branches: the place (as a whole number) and the stack -/
def ak_jump (ins : Instr) (w pc : Nat) (S : List Value) : Option (Int × List Value) := match ins with
  | .goto off => some ((pc : Int) + off, S)
  | .ifCond c off => match S with
    | .int a :: r => some (if ak_cnd c a 0 then (pc : Int) + off else ((pc + w : Nat) : Int), r)
    | _ => none
  | .if_icmp c off => match S with
    | .int b :: .int a :: r => some (if ak_cnd c a b then (pc : Int) + off else ((pc + w : Nat) : Int), r)
    | _ => none
  | .tableswitch dflt lo hi offs => match S with
    | .int a :: r => if a.toInt < lo ∨ hi < a.toInt then some ((pc : Int) + dflt, r) else (offs[(a.toInt - lo).toNat]?).map (fun o => ((pc : Int) + o, r))
    | _ => none
  | _ => none
/-- the fields of our classes: 0 int, 1 boolean, 2 long, 3 reference -/
def ak_F : List (List Nat) := [[], [], [], [], [], [3, 3, 3, 3, 3, 3, 3, 3, 3, 3, 1, 0], [0, 3, 3, 3, 3], [0, 0, 3], [0, 0, 0, 0, 0, 3, 3, 3, 3, 3, 3, 3], [], [3, 3, 0, 0, 3, 0, 0, 0, 0, 0, 0, 0], [3, 3, 3, 1, 3, 0, 3, 3, 3], [0, 3, 3, 0, 0, 3, 0, 3, 3, 3, 3, 0, 0, 0, 0, 0, 0, 0, 0, 0, 0, 0, 0, 2, 0, 1, 0, 3, 3, 3, 3, 1, 0, 0, 3, 3, 3, 3, 0, 0, 3, 3, 3, 3]]
/-- a field's value -/
def ak_fv (h : ak_H) (ci r k : Nat) : Option Value := match (ak_F.getD ci []).getD k 9 with
  | 0 => some (.int (h.2.1 r k))
  | 1 => some (.int (h.2.1 r k))
  | 2 => some (.long (h.2.2.1 r k))
  | 3 => some (va_rf (h.2.2.2 r k))
  | _ => none
/-- a field laid -/
def ak_fp (h : ak_H) (ci r k : Nat) (v : Value) : Option ak_H := match (ak_F.getD ci []).getD k 9, v with
  | 0, .int a => some (h.1, ak_up h.2.1 r k a, h.2.2.1, h.2.2.2)
  | 1, .int a => if a = 0 ∨ a = 1 then some (h.1, ak_up h.2.1 r k a, h.2.2.1, h.2.2.2) else none
  | 2, .long a => some (h.1, h.2.1, ak_up h.2.2.1 r k a, h.2.2.2)
  | 3, .ref a => some (h.1, h.2.1, h.2.2.1, ak_up h.2.2.2 r k (some a))
  | _, _ => none
/-- whether a class is under another (its name's number): 0 apprentice, 1 boss, 2 bride, 3 clerk, 4 parent, 9 single -/
def ak_sub (c j : Nat) : Bool := c == j || (j == 3 && (c == 0 || c == 1 || c == 2 || c == 4 || c == 9)) || (j == 4 && c == 2) || (j == 9 && c == 1)
/-- a cell's room -/
def ak_sz (k : ak_K) : Nat := match k with
  | .inl ci => (ak_F.getD ci []).length
  | .inr q => q.2
def ak_nS (h : ak_H) : Nat := (h.1.map ak_sz).sum
def ak_arr (t : Nat) : Bool := t == 2 || t == 3 || t == 4
/-- the class of what an array of references holds -/
def ak_el (t : Nat) : Nat := if t = 2 then 10 else if t = 3 then 3 else 7
/-- instructions of the heap; d: how many calls deep one may still go -/
def ak_mem (Z : ak_Z) (d : Nat) (own : Nat) (isInit : Bool) (ins : Instr) (x : ak_X) (S : List Value) (h : ak_H) : Option (List Value × ak_H) := match ins with
  | .getfield _ => match x, S with
    | (1, ci, k, _), .ref r :: st => if h.1[r]? = some (.inl ci) then (ak_fv h ci r k).map (fun v => (v :: st, h)) else none
    | (2, f, _, _), .ref r :: st => if 1000000 ≤ r ∧ r < 1000012 then (if f = 0 then some (.ref (r + 100) :: st, h) else some (.int 0 :: st, h)) else none
    | _, _ => none
  | .putfield _ => match x, S with
    | (1, ci, k, fin), v :: .ref r :: st => if h.1[r]? = some (.inl ci) ∧ (fin = 0 ∨ (isInit = true ∧ own = ci)) then (ak_fp h ci r k v).map (fun h' => (st, h')) else none
    | _, _ => none
  | .getstatic _ => match x with
    | (3, 0, _, _) => some (.ref 2000000 :: S, h)
    | (3, 1, _, _) => some (.ref 2000001 :: S, h)
    | (3, 2, _, _) => some (.int 1 :: S, h)
    | (3, 3, _, _) => some (.retAddr 0 :: S, h)
    | _ => none
  | .iaload => match S with
    | .int i :: .ref r :: st => match h.1[r]? with
      | some (.inr (0, n)) => if ak_inb i n = true then some (.int (h.2.1 r i.toNatClampNeg) :: st, h) else none
      | some _ => none
      | none => match ak_sa Z r with
        | some (false, n, f) => if ak_inb i n = true then some (.int (f i.toNatClampNeg) :: st, h) else none
        | _ => none
    | _ => none
  | .baload => match S with
    | .int i :: .ref r :: st => match h.1[r]? with
      | some (.inr (1, n)) => if ak_inb i n = true then some (.int (h.2.1 r i.toNatClampNeg) :: st, h) else none
      | some _ => none
      | none => match ak_sa Z r with
        | some (true, n, f) => if ak_inb i n = true then some (.int (f i.toNatClampNeg) :: st, h) else none
        | _ => none
    | _ => none
  | .aaload => match S with
    | .int i :: .ref r :: st => match h.1[r]? with
      | some (.inr (t, n)) => if ak_arr t = true ∧ ak_inb i n = true then some (va_rf (h.2.2.2 r i.toNatClampNeg) :: st, h) else none
      | _ => none
    | _ => none
  | .arraylength => match S with
    | .ref r :: st => match h.1[r]? with
      | some (.inr (t, n)) => if t < 5 then some (.int (Int32.ofNat n) :: st, h) else none
      | some _ => none
      | none => match ak_sa Z r with
        | some (_, n, _) => some (.int (Int32.ofNat n) :: st, h)
        | _ => none
    | _ => none
  | .iastore => match S with
    | .int v :: .int i :: .ref r :: st => match h.1[r]? with
      | some (.inr (0, n)) => if ak_inb i n = true then some (st, (h.1, ak_up h.2.1 r i.toNatClampNeg v, h.2.2.1, h.2.2.2)) else none
      | _ => none
    | _ => none
  | .bastore => match S with
    | .int v :: .int i :: .ref r :: st => match h.1[r]? with
      | some (.inr (1, n)) => if ak_inb i n = true ∧ (v = 0 ∨ v = 1) then some (st, (h.1, ak_up h.2.1 r i.toNatClampNeg v, h.2.2.1, h.2.2.2)) else none
      | _ => none
    | _ => none
  | .aastore => match S with
    | .ref v :: .int i :: .ref r :: st => match h.1[r]?, h.1[v]? with
      | some (.inr (t, n)), some (.inl c) => if ak_arr t = true ∧ ak_sub c (ak_el t) = true ∧ ak_inb i n = true then some (st, (h.1, h.2.1, h.2.2.1, ak_up h.2.2.2 r i.toNatClampNeg (some v))) else none
      | _, _ => none
    | _ => none
  | .new _ => match x with
    | (7, ci, _, _) => if ci < 13 ∧ h.1.length < 1000000 then some (.ref h.1.length :: S, (h.1 ++ [.inl ci], fun a k => if a = h.1.length then 0 else h.2.1 a k, fun a k => if a = h.1.length then 0 else h.2.2.1 a k, fun a k => if a = h.1.length then none else h.2.2.2 a k)) else none
    | _ => none
  | .newarray at_ => match S with
    | .int n :: st => if (at_ = .int ∨ at_ = .boolean) ∧ ¬ n < 0 ∧ n.toNatClampNeg ≤ 10000 ∧ h.1.length < 1000000 then some (.ref h.1.length :: st, (h.1 ++ [.inr (if at_ = .int then 0 else 1, n.toNatClampNeg)], fun a k => if a = h.1.length then 0 else h.2.1 a k, h.2.2.1, h.2.2.2)) else none
    | _ => none
  | .anewarray _ => match x, S with
    | (7, ci, t, _), .int n :: st => if ak_arr t = true ∧ ci = ak_el t ∧ ¬ n < 0 ∧ n.toNatClampNeg ≤ 10000 ∧ h.1.length < 1000000 then some (.ref h.1.length :: st, (h.1 ++ [.inr (t, n.toNatClampNeg)], h.2.1, h.2.2.1, fun a k => if a = h.1.length then none else h.2.2.2 a k)) else none
    | _, _ => none
  | .instanceof _ => match x, S with
    | (7, j, _, _), .ref r :: st => match h.1[r]? with
      | some (.inl c) => if (c = 0 ∨ c = 1 ∨ c = 2 ∨ c = 3 ∨ c = 4 ∨ c = 9) ∧ (j = 0 ∨ j = 1 ∨ j = 2 ∨ j = 4 ∨ j = 9) then some (.int (if ak_sub c j = true then 1 else 0) :: st, h) else none
      | _ => none
    | _, _ => none
  | .invokespecial _ => match x, S with
    | (16, _, _, _), .ref _ :: st => if d ≠ 0 ∧ (st.map fun v => v.category).sum ≤ 8 then some (st, h) else none
    | _, _ => none
  | .invokestatic _ => match x, S with
    | (17, _, _, _), .int n :: .int dp :: .ref b :: .int sp :: .ref a :: st => match h.1[a]?, h.1[b]? with
      | some (.inr (0, n0)), some (.inr (0, n1)) => if d ≠ 0 ∧ (st.map fun v => v.category).sum ≤ 8 ∧ ¬ sp < 0 ∧ ¬ dp < 0 ∧ ¬ n < 0 ∧ sp.toNatClampNeg + n.toNatClampNeg ≤ n0 ∧ dp.toNatClampNeg + n.toNatClampNeg ≤ n1 then some (st, (h.1, ak_cpy h.2.1 a sp.toNatClampNeg b dp.toNatClampNeg n.toNatClampNeg, h.2.2.1, h.2.2.2)) else none
      | _, _ => none
    | _, _ => none
  | _ => none
/-- which method an object of a class has by a name: 0 glad, 1 earns, 2 wants (KFAM) -/
def ak_fam (f c : Nat) : Option Nat := if f = 0 then (match c with | 0 => some 51 | 1 => some 52 | 2 => some 54 | 3 => some 56 | 4 => some 55 | 9 => some 53 | _ => none) else if f = 1 then (match c with | 0 => some 58 | 1 => some 59 | 2 => some 60 | 3 => some 62 | 4 => some 60 | 9 => some 61 | _ => none) else (match c with | 0 => some 41 | 1 => some 42 | 2 => some 43 | 3 => some 46 | 4 => some 46 | 9 => some 44 | _ => none)
/-- calls: of which method, with what, and what stays on the stack -/
def ak_call (ins : Instr) (x : ak_X) (S : List Value) (h : ak_H) : Option (Nat × List Value × List Value) := match ins with
  | .invokevirtual _ => match x, S.drop x.2.2.1 with
    | (8, mi, n, ci), .ref r :: st => if h.1[r]? = some (.inl ci.toNat) ∧ (S.take n).length = n ∧ (st.map fun v => v.category).sum ≤ 8 then some (mi, .ref r :: (S.take n).reverse, st) else none
    | (9, mi, n, _), .ref r :: st => if (1000000 ≤ r ∧ r < 1000012) ∧ (S.take n).length = n ∧ (st.map fun v => v.category).sum ≤ 8 then some (mi, .ref r :: (S.take n).reverse, st) else none
    | (10, f, n, _), .ref r :: st => match h.1[r]? with
      | some (.inl c) => match ak_fam f c with
        | some mi => if (S.take n).length = n ∧ (st.map fun v => v.category).sum ≤ 8 then some (mi, .ref r :: (S.take n).reverse, st) else none
        | none => none
      | _ => none
    | _, _ => none
  | .invokespecial _ => match x, S.drop x.2.2.1 with
    | (14, mi, n, ci), .ref r :: st => if h.1[r]? = some (.inl ci.toNat) ∧ (S.take n).length = n ∧ (st.map fun v => v.category).sum ≤ 8 then some (mi, .ref r :: (S.take n).reverse, st) else none
    | (15, mi, n, _), .ref r :: st => match h.1[r]? with
      | some (.inl _) => if (S.take n).length = n ∧ (st.map fun v => v.category).sum ≤ 8 then some (mi, .ref r :: (S.take n).reverse, st) else none
      | _ => none
    | _, _ => none
  | .invokestatic _ => match x with
    | (11, mi, n, _) => if (S.take n).length = n ∧ ((S.drop n).map fun v => v.category).sum ≤ 8 then some (mi, (S.take n).reverse, S.drop n) else none
    | (12, mi, n, _) => if (S.take n).length = n ∧ ((S.drop n).map fun v => v.category).sum ≤ 8 then some (mi, (S.take n).reverse, S.drop n) else none
    | (13, mi, n, _) => if (S.take n).length = n ∧ ((S.drop n).map fun v => v.category).sum ≤ 8 then some (mi, (S.take n).reverse, S.drop n) else none
    | _ => none
  | _ => none
/-- answers -/
def ak_ret (ins : Instr) (S : List Value) : Option (Option Value) := match ins, S with
  | .ireturn, [.int v] => some (some (.int v))
  | .lreturn, [.long v] => some (some (.long v))
  | .areturn, [.ref v] => some (some (.ref v))
  | .return_, [] => some none
  | _, _ => none
/-- which instruction is of which sort -/
def ak_sort (ins : Instr) : Nat := match ins with
  | .iload_n _ => 1
  | .iload _ => 1
  | .lload_n _ => 1
  | .lload _ => 1
  | .aload_n _ => 1
  | .aload _ => 1
  | .istore_n _ => 2
  | .istore _ => 2
  | .lstore_n _ => 2
  | .lstore _ => 2
  | .astore_n _ => 2
  | .astore _ => 2
  | .iinc _ _ => 2
  | .goto _ => 3
  | .ifCond _ _ => 3
  | .if_icmp _ _ => 3
  | .tableswitch _ _ _ _ => 3
  | .getfield _ => 4
  | .putfield _ => 4
  | .getstatic _ => 4
  | .iaload => 4
  | .baload => 4
  | .aaload => 4
  | .arraylength => 4
  | .iastore => 4
  | .bastore => 4
  | .aastore => 4
  | .new _ => 4
  | .newarray _ => 4
  | .anewarray _ => 4
  | .instanceof _ => 4
  | .invokevirtual _ => 5
  | .invokespecial _ => 5
  | .invokestatic _ => 5
  | .ireturn => 6
  | .lreturn => 6
  | .areturn => 6
  | .return_ => 6
  | _ => 0
/-- one step -/
def ak_step (Z : ak_Z) (d own : Nat) (isInit : Bool) (ins : Instr) (w : Nat) (x : ak_X) (pc : Nat) (L : ak_L) (S : List Value) (h : ak_H) : Option ak_O := match ak_sort ins with
  | 0 => (ak_stk ins x S).map (fun S' => .inl (pc + w, L, S', h))
  | 1 => (ak_load ins L S).map (fun S' => .inl (pc + w, L, S', h))
  | 2 => (ak_store ins L S).map (fun q => .inl (pc + w, q.1, q.2, h))
  | 3 => match ak_jump ins w pc S with
    | some (.ofNat t, S') => some (.inl (t, L, S', h))
    | _ => none
  | 4 => (ak_mem Z d own isInit ins x S h).map (fun q => .inl (pc + w, L, q.1, q.2))
  | 5 => match ak_mem Z d own isInit ins x S h with
    | some q => some (.inl (pc + w, L, q.1, q.2))
    | none => (ak_call ins x S h).map (fun q => .inr (.inr q))
  | 6 => (ak_ret ins S).map (fun r => .inr (.inl r))
  | _ => none
/-- a method's locals as it begins -/
def ak_ent (n : Nat) (args : List Value) : ak_L := match args with
  | [] => List.replicate n none
  | .long v :: r => some (.long v) :: none :: ak_ent (n - 2) r
  | v :: r => some v :: ak_ent (n - 1) r
end
section
/-! what the small machine's heap is in the machine's own -/
/-- the classes' numbers and slots; the array classes; where our cells begin; where the others stand; what the one static of the JDK holds -/
abbrev ak_E : Type := va_G × (Nat → ClassId) × Nat × (Nat → Nat) × Value
def ak_ad (E : ak_E) (i : Nat) : Nat := if i < 1000000 then E.2.2.1 + i else E.2.2.2.1 i
def ak_cv (E : ak_E) (v : Value) : Value := match v with
  | .ref i => .ref (ak_ad E i)
  | .retAddr _ => E.2.2.2.2
  | v => v
def ak_fvc (E : ak_E) (h : ak_H) (ci i j : Nat) : Value := match ak_fv h ci i j with
  | some v => ak_cv E v
  | none => .null
def ak_fs (E : ak_E) (h : ak_H) (ci i : Nat) : List Value := (List.range (ak_F.getD ci []).length).map (fun j => ak_fvc E h ci i j)
def ak_as (E : ak_E) (h : ak_H) (i t n : Nat) : vp_A := if ak_arr t = true then (n, .inr (.inr (.inr (.inr (fun j => (h.2.2.2 i j).map (ak_ad E)))))) else (n, .inl (h.2.1 i))
def ak_cell (E : ak_E) (h : ak_H) (i : Nat) (k : ak_K) : va_E := match k with
  | .inl ci => .inr (ci, ak_fs E h ci i)
  | .inr q => .inl (E.2.1 q.1, ak_as E h i q.1 q.2)
def ak_ws (E : ak_E) (h : ak_H) : va_W := h.1.mapIdx (fun i k => (ak_ad E i, ak_cell E h i k))
theorem ak_ws_at (E : ak_E) (h : ak_H) (i : Nat) : (ak_ws E h)[i]? = (h.1[i]?).map (fun k => (ak_ad E i, ak_cell E h i k)) := by
  unfold ak_ws
  rw [List.getElem?_mapIdx]
theorem ak_ws_obj {E : ak_E} {h : ak_H} {i ci : Nat} (hi : h.1[i]? = some (.inl ci)) : (ak_ws E h)[i]? = some (ak_ad E i, .inr (ci, ak_fs E h ci i)) := by
  rw [ak_ws_at, hi]; rfl
theorem ak_ws_arr {E : ak_E} {h : ak_H} {i t n : Nat} (hi : h.1[i]? = some (.inr (t, n))) : (ak_ws E h)[i]? = some (ak_ad E i, .inl (E.2.1 t, ak_as E h i t n)) := by
  rw [ak_ws_at, hi]; rfl
theorem ak_ws_len (E : ak_E) (h : ak_H) : (ak_ws E h).length = h.1.length := by
  unfold ak_ws
  simp
theorem ak_fs_at {E : ak_E} {h : ak_H} {ci i k : Nat} {v : Value} (hv : ak_fv h ci i k = some v) (hk : k < (ak_F.getD ci []).length) : (ak_fs E h ci i)[k]? = some (ak_cv E v) := by
  unfold ak_fs
  rw [List.getElem?_map, List.getElem?_range hk]
  show some (ak_fvc E h ci i k) = _
  unfold ak_fvc
  rw [hv]
theorem ak_fs_len (E : ak_E) (h : ak_H) (ci i : Nat) : (ak_fs E h ci i).length = (ak_F.getD ci []).length := by
  unfold ak_fs
  simp
/-- the addresses are apart, and ours -/
theorem ak_D (E : ak_E) (h : ak_H) (hl : h.1.length ≤ 1000000) : va_D (fun a => E.2.2.1 ≤ a) (ak_ws E h) := by
  have key : ∀ (k : Nat) (q : Nat × va_E), (ak_ws E h)[k]? = some q → k < h.1.length ∧ q.1 = E.2.2.1 + k := by
    intro k q hq
    rw [ak_ws_at] at hq
    cases hk : h.1[k]? with
    | none => rw [hk] at hq; cases hq
    | some x =>
      rw [hk] at hq
      have hlt := (List.getElem?_eq_some_iff.mp hk).1
      cases hq
      refine ⟨hlt, ?_⟩
      show ak_ad E k = _
      unfold ak_ad
      rw [if_pos (by omega)]
  refine ⟨fun i j p q hp hq he => ?_, fun k q hq => ?_⟩
  · have h1 := key i p hp
    have h2 := key j q hq
    have h3 := h1.2
    have h4 := h2.2
    omega
  · have h1 := (key k q hq).2
    show E.2.2.1 ≤ q.1
    omega
/-- a heap that differs in one cell alone -/
theorem ak_ws_set {E : ak_E} {h h' : ak_H} {r : Nat} {e : va_E} (h1 : h'.1 = h.1) (hr : ∀ k, h.1[r]? = some k → ak_cell E h' r k = e) (ho : ∀ i k, i ≠ r → ak_cell E h' i k = ak_cell E h i k) : (ak_ws E h).set r (ak_ad E r, e) = ak_ws E h' := by
  apply List.ext_getElem?
  intro i
  by_cases hi : i = r
  · subst hi
    rw [List.getElem?_set_self', ak_ws_at, ak_ws_at, h1]
    cases hk : h.1[i]? with
    | none => rfl
    | some k => simp [hr k hk]
  · rw [List.getElem?_set_ne (Ne.symm hi), ak_ws_at, ak_ws_at, h1]
    cases hk : h.1[i]? with
    | none => rfl
    | some k => simp [ho i k hi]
theorem ak_fvc_eq {E : ak_E} {h h' : ak_H} {ci i j : Nat} (e1 : h'.2.1 i j = h.2.1 i j) (e2 : h'.2.2.1 i j = h.2.2.1 i j) (e3 : h'.2.2.2 i j = h.2.2.2 i j) : ak_fvc E h' ci i j = ak_fvc E h ci i j := by
  unfold ak_fvc ak_fv
  rw [e1, e2, e3]
theorem ak_cell_eq {E : ak_E} {h h' : ak_H} {i : Nat} {k : ak_K} (e1 : h'.2.1 i = h.2.1 i) (e2 : h'.2.2.1 i = h.2.2.1 i) (e3 : h'.2.2.2 i = h.2.2.2 i) : ak_cell E h' i k = ak_cell E h i k := by
  cases k with
  | inl ci =>
    show Sum.inr (ci, ak_fs E h' ci i) = Sum.inr (ci, ak_fs E h ci i)
    unfold ak_fs
    congr 2
    refine List.map_congr_left fun j _ => ak_fvc_eq (by rw [e1]) (by rw [e2]) (by rw [e3])
  | inr q =>
    show Sum.inl (E.2.1 q.1, ak_as E h' i q.1 q.2) = Sum.inl (E.2.1 q.1, ak_as E h i q.1 q.2)
    unfold ak_as
    rw [e1, e3]
theorem ak_up_ne {α : Type} {f : Nat → Nat → α} {i j a : Nat} {v : α} (h : a ≠ i) : ak_up f i j v a = f a := by
  funext b
  unfold ak_up
  rw [if_neg (fun z => h z.1)]
theorem ak_up_row {f : Nat → Nat → Int32} {i j : Nat} {v : Int32} : ak_up f i j v i = upd (f i) j v := by
  funext b
  unfold ak_up upd
  by_cases hb : b = j
  · rw [if_pos ⟨rfl, hb⟩, if_pos hb]
  · rw [if_neg (fun z => hb z.2), if_neg hb]
theorem ak_up_same {α : Type} {f : Nat → Nat → α} {i j : Nat} {v : α} : ak_up f i j v i j = v := by
  unfold ak_up
  rw [if_pos ⟨rfl, rfl⟩]
theorem ak_up_oth {α : Type} {f : Nat → Nat → α} {i j a b : Nat} {v : α} (h : b ≠ j) : ak_up f i j v a b = f a b := by
  unfold ak_up
  rw [if_neg (fun z => h z.2)]
theorem ak_fp_1 {h h' : ak_H} {ci r k : Nat} {v : Value} (hp : ak_fp h ci r k v = some h') : h'.1 = h.1 := by
  unfold ak_fp at hp
  split at hp
  · cases hp; rfl
  · split at hp
    · cases hp; rfl
    · cases hp
  · cases hp; rfl
  · cases hp; rfl
  · cases hp
/-- a field laid is the field's place in the cell set -/
theorem ak_ws_fp {E : ak_E} {h h' : ak_H} {ci r k : Nat} {v : Value} (hp : ak_fp h ci r k v = some h') (hr : h.1[r]? = some (.inl ci)) (hk : k < (ak_F.getD ci []).length) : (ak_ws E h).set r (ak_ad E r, .inr (ci, (ak_fs E h ci r).set k (ak_cv E v))) = ak_ws E h' := by
  have key : h'.1 = h.1 ∧ ak_fvc E h' ci r k = ak_cv E v ∧ (∀ j, j ≠ k → ak_fvc E h' ci r j = ak_fvc E h ci r j) ∧ ∀ i kk, i ≠ r → ak_cell E h' i kk = ak_cell E h i kk := by
    unfold ak_fp at hp
    split at hp
    · rename_i e
      cases hp
      refine ⟨rfl, ?_, fun j hj => ak_fvc_eq (ak_up_oth hj) rfl rfl, fun i kk hi => ak_cell_eq (ak_up_ne hi) rfl rfl⟩
      unfold ak_fvc ak_fv
      rw [e]
      show ak_cv E (.int (ak_up _ r k _ r k)) = _
      rw [ak_up_same]
    · rename_i e
      split at hp
      · cases hp
        refine ⟨rfl, ?_, fun j hj => ak_fvc_eq (ak_up_oth hj) rfl rfl, fun i kk hi => ak_cell_eq (ak_up_ne hi) rfl rfl⟩
        unfold ak_fvc ak_fv
        rw [e]
        show ak_cv E (.int (ak_up _ r k _ r k)) = _
        rw [ak_up_same]
      · cases hp
    · rename_i e
      cases hp
      refine ⟨rfl, ?_, fun j hj => ak_fvc_eq rfl (ak_up_oth hj) rfl, fun i kk hi => ak_cell_eq rfl (ak_up_ne hi) rfl⟩
      unfold ak_fvc ak_fv
      rw [e]
      show ak_cv E (.long (ak_up _ r k _ r k)) = _
      rw [ak_up_same]
    · rename_i e
      cases hp
      refine ⟨rfl, ?_, fun j hj => ak_fvc_eq rfl rfl (ak_up_oth hj), fun i kk hi => ak_cell_eq rfl rfl (ak_up_ne hi)⟩
      unfold ak_fvc ak_fv
      rw [e]
      show ak_cv E (va_rf (ak_up _ r k _ r k)) = _
      rw [ak_up_same]
      rfl
    · cases hp
  obtain ⟨k1, k2, k3, k4⟩ := key
  refine ak_ws_set k1 (fun kk hkk => ?_) k4
  cases hr.symm.trans hkk
  show Sum.inr (ci, ak_fs E h' ci r) = Sum.inr (ci, _)
  congr 2
  apply List.ext_getElem?
  intro j
  by_cases hj : j = k
  · subst hj
    rw [List.getElem?_set_self (by rw [ak_fs_len]; exact hk)]
    unfold ak_fs
    rw [List.getElem?_map, List.getElem?_range hk]
    exact congrArg some k2
  · rw [List.getElem?_set_ne (Ne.symm hj)]
    unfold ak_fs
    rw [List.getElem?_map, List.getElem?_map]
    by_cases hl : j < (ak_F.getD ci []).length
    · rw [List.getElem?_range hl]
      exact congrArg some (k3 j hj)
    · rw [List.getElem?_eq_none (by simpa using hl)]
      rfl
/-- locals -/
def ak_fl (E : ak_E) : Nat → ak_L → List (Nat × Value)
  | _, [] => []
  | i, none :: t => ak_fl E (i + 1) t
  | i, some v :: t => (i, ak_cv E v) :: ak_fl E (i + 1) t
theorem ak_fl_of {E : ak_E} : ∀ {L : ak_L} {i : Nat} {q : Nat × Value}, q ∈ ak_fl E i L → ∃ (j : Nat) (u : Value), q = (i + j, ak_cv E u) ∧ L[j]? = some (some u)
  | none :: t, i, q, h => by
    obtain ⟨j, u, h1, h2⟩ := ak_fl_of (L := t) (i := i + 1) h
    exact ⟨j + 1, u, by rw [h1]; congr 1; omega, by rw [List.getElem?_cons_succ]; exact h2⟩
  | some v :: t, i, q, h => by
    rcases List.mem_cons.mp h with h | h
    · exact ⟨0, v, by rw [h]; rfl, rfl⟩
    · obtain ⟨j, u, h1, h2⟩ := ak_fl_of (L := t) (i := i + 1) h
      exact ⟨j + 1, u, by rw [h1]; congr 1; omega, by rw [List.getElem?_cons_succ]; exact h2⟩
theorem ak_fl_in {E : ak_E} : ∀ {L : ak_L} {i j : Nat} {u : Value}, L[j]? = some (some u) → (i + j, ak_cv E u) ∈ ak_fl E i L
  | a :: t, i, 0, u, h => by
    rw [List.getElem?_cons_zero] at h
    cases h
    exact List.mem_cons_self
  | none :: t, i, j + 1, u, h => by
    rw [List.getElem?_cons_succ] at h
    have := ak_fl_in (E := E) (i := i + 1) h
    rw [show i + 1 + j = i + (j + 1) by omega] at this
    exact this
  | some v :: t, i, j + 1, u, h => by
    rw [List.getElem?_cons_succ] at h
    have := ak_fl_in (E := E) (i := i + 1) h
    rw [show i + 1 + j = i + (j + 1) by omega] at this
    exact List.mem_cons_of_mem _ this
/-- the machine's locals hold L -/
def ak_ls (E : ak_E) (ls : Array Slot) (n : Nat) (L : ak_L) : Prop := lv_has ls n (ak_fl E 0 L) ∧ L.length = n
theorem ak_ls_at {E : ak_E} {ls : Array Slot} {n : Nat} {L : ak_L} {k : Nat} {u : Value} (h : ak_ls E ls n L) (hk : L[k]? = some (some u)) : ls[k]? = some (.val (ak_cv E u)) := by
  have := ak_fl_in (E := E) (i := 0) hk
  rw [Nat.zero_add] at this
  exact h.1.2.2 _ this
theorem ak_cat {E : ak_E} (hz : E.2.2.2.2.category = 1) (u : Value) : (ak_cv E u).category = u.category := by
  cases u <;> first | rfl | exact hz
theorem ak_ls_of {E : ak_E} {ls : Array Slot} {n : Nat} {l : List (Nat × Value)} {L : ak_L} (h : lv_has ls n l) (hl : L.length = n) (hm : ∀ j u, L[j]? = some (some u) → (j, ak_cv E u) ∈ l) : ak_ls E ls n L := by
  refine ⟨⟨h.1, h.2.1, fun q hq => ?_⟩, hl⟩
  obtain ⟨j, u, h1, h2⟩ := ak_fl_of hq
  rw [Nat.zero_add] at h1
  rw [h1]
  exact h.2.2 _ (hm j u h2)
theorem ak_st1_ok {E : ak_E} (hz : E.2.2.2.2.category = 1) {L L' : ak_L} {k : Nat} {v : Value} (h : ak_st1 L k v = some L') : k < L.length ∧ L'.length = L.length ∧ ∀ j u, L'[j]? = some (some u) → (j, ak_cv E u) ∈ (k, ak_cv E v) :: (ak_fl E 0 L).filter (fun q => !(q.1 == k) && !(q.1 + 1 == k && q.2.category == 2)) := by
  unfold ak_st1 at h
  split at h
  · rename_i hc
    cases h
    refine ⟨hc.1, by simp, fun j u hj => ?_⟩
    by_cases hjk : j = k
    · subst hjk
      rw [List.getElem?_set_self hc.1] at hj
      cases hj
      exact List.mem_cons_self
    · rw [List.getElem?_set_ne (Ne.symm hjk)] at hj
      refine List.mem_cons_of_mem _ (List.mem_filter.mpr ⟨by have := ak_fl_in (E := E) (i := 0) hj; rwa [Nat.zero_add] at this, ?_⟩)
      have h2 : ¬ (j + 1 = k ∧ (ak_cv E u).category = 2) := by
        rintro ⟨h3, h4⟩
        subst h3
        have h5 := hc.2
        simp only [ak_free1, hj] at h5
        rw [ak_cat hz] at h4
        simp [h4] at h5
      simp only [Bool.and_eq_true, Bool.not_eq_true', beq_eq_false_iff_ne, ne_eq, Bool.and_eq_false_iff]
      refine ⟨hjk, ?_⟩
      by_cases h3 : j + 1 = k
      · exact Or.inr (fun h4 => h2 ⟨h3, h4⟩)
      · exact Or.inl h3
  · cases h
theorem ak_st2_ok {E : ak_E} (hz : E.2.2.2.2.category = 1) {L L' : ak_L} {k : Nat} {v : Value} (h : ak_st2 L k v = some L') : k + 1 < L.length ∧ L'.length = L.length ∧ ∀ j u, L'[j]? = some (some u) → (j, ak_cv E u) ∈ (k, ak_cv E v) :: (ak_fl E 0 L).filter (fun q => !(q.1 == k) && (!(q.1 == k + 1) && !(q.1 + 1 == k && q.2.category == 2))) := by
  unfold ak_st2 at h
  split at h
  · rename_i hc
    cases h
    refine ⟨hc.1, by simp, fun j u hj => ?_⟩
    by_cases hj2 : j = k + 1
    · subst hj2
      rw [List.getElem?_set_self (by simpa using hc.1)] at hj
      cases hj
    rw [List.getElem?_set_ne (Ne.symm hj2)] at hj
    by_cases hjk : j = k
    · subst hjk
      rw [List.getElem?_set_self (by omega)] at hj
      cases hj
      exact List.mem_cons_self
    · rw [List.getElem?_set_ne (Ne.symm hjk)] at hj
      refine List.mem_cons_of_mem _ (List.mem_filter.mpr ⟨by have := ak_fl_in (E := E) (i := 0) hj; rwa [Nat.zero_add] at this, ?_⟩)
      have h2 : ¬ (j + 1 = k ∧ (ak_cv E u).category = 2) := by
        rintro ⟨h3, h4⟩
        subst h3
        have h5 := hc.2
        simp only [ak_free1, hj] at h5
        rw [ak_cat hz] at h4
        simp [h4] at h5
      simp only [Bool.and_eq_true, Bool.not_eq_true', beq_eq_false_iff_ne, ne_eq, Bool.and_eq_false_iff]
      refine ⟨hjk, hj2, ?_⟩
      by_cases h3 : j + 1 = k
      · exact Or.inr (fun h4 => h2 ⟨h3, h4⟩)
      · exact Or.inl h3
  · cases h
end

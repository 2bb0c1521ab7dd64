section
-- ===== PART A: goes FIRST, ahead of the names: the tables' words, and 'selects' of the private methods out of them =====
/-- a private method of a class that the tables say can be made, by its rows of tables_1 -/
def lw_okq (q : MethodName × Nat) : Prop := (q.1.cls ≠ "java/lang/invoke/MethodHandle" ∧ q.1.cls ≠ "java/lang/invoke/VarHandle") ∧ Cond.instantiable q.1.cls q.2 ∈ tables_1 ∧ Cond.privateMethod q.1 ∈ tables_1 ∧ Cond.instanceMethod q.1 ∈ tables_1
theorem lw_p0 : lw_okq (⟨"KinInTheHeap", "setWeek", "(I)I"⟩, 9) := ⟨⟨by decide +kernel, by decide +kernel⟩, List.mem_of_getElem? (i := 17) (by decide +kernel), List.mem_of_getElem? (i := 200) (by decide +kernel), List.mem_of_getElem? (i := 201) (by decide +kernel)⟩
theorem lw_p1 : lw_okq (⟨"KinInTheHeap", "setForce", "(I)I"⟩, 9) := ⟨⟨by decide +kernel, by decide +kernel⟩, List.mem_of_getElem? (i := 17) (by decide +kernel), List.mem_of_getElem? (i := 207) (by decide +kernel), List.mem_of_getElem? (i := 208) (by decide +kernel)⟩
theorem lw_p2 : lw_okq (⟨"KinInTheHeap", "setCrack", "(II)I"⟩, 9) := ⟨⟨by decide +kernel, by decide +kernel⟩, List.mem_of_getElem? (i := 17) (by decide +kernel), List.mem_of_getElem? (i := 211) (by decide +kernel), List.mem_of_getElem? (i := 212) (by decide +kernel)⟩
theorem lw_p3 : lw_okq (⟨"KinInTheHeap", "setNumber", "(II)I"⟩, 9) := ⟨⟨by decide +kernel, by decide +kernel⟩, List.mem_of_getElem? (i := 17) (by decide +kernel), List.mem_of_getElem? (i := 223) (by decide +kernel), List.mem_of_getElem? (i := 224) (by decide +kernel)⟩
theorem lw_p4 : lw_okq (⟨"KinInTheHeap", "setPlace", "(II)I"⟩, 9) := ⟨⟨by decide +kernel, by decide +kernel⟩, List.mem_of_getElem? (i := 17) (by decide +kernel), List.mem_of_getElem? (i := 232) (by decide +kernel), List.mem_of_getElem? (i := 233) (by decide +kernel)⟩
theorem lw_p5 : lw_okq (⟨"KinInTheHeap", "toldOfCell", "(II)I"⟩, 9) := ⟨⟨by decide +kernel, by decide +kernel⟩, List.mem_of_getElem? (i := 17) (by decide +kernel), List.mem_of_getElem? (i := 251) (by decide +kernel), List.mem_of_getElem? (i := 252) (by decide +kernel)⟩
theorem lw_p6 : lw_okq (⟨"KinInTheHeap", "toldOfDust", "(II)I"⟩, 9) := ⟨⟨by decide +kernel, by decide +kernel⟩, List.mem_of_getElem? (i := 17) (by decide +kernel), List.mem_of_getElem? (i := 259) (by decide +kernel), List.mem_of_getElem? (i := 260) (by decide +kernel)⟩
theorem lw_p7 : lw_okq (⟨"KinInTheHeap", "toldOfGoing", "(II)I"⟩, 9) := ⟨⟨by decide +kernel, by decide +kernel⟩, List.mem_of_getElem? (i := 17) (by decide +kernel), List.mem_of_getElem? (i := 263) (by decide +kernel), List.mem_of_getElem? (i := 264) (by decide +kernel)⟩
theorem lw_p8 : lw_okq (⟨"KinInTheHeap$Floor", "telling", "(II)I"⟩, 11) := ⟨⟨by decide +kernel, by decide +kernel⟩, List.mem_of_getElem? (i := 120) (by decide +kernel), List.mem_of_getElem? (i := 276) (by decide +kernel), List.mem_of_getElem? (i := 277) (by decide +kernel)⟩
theorem lw_p9 : lw_okq (⟨"KinInTheHeap$Reader", "findTokens", "()V"⟩, 9) := ⟨⟨by decide +kernel, by decide +kernel⟩, List.mem_of_getElem? (i := 29) (by decide +kernel), List.mem_of_getElem? (i := 327) (by decide +kernel), List.mem_of_getElem? (i := 328) (by decide +kernel)⟩
theorem lw_p10 : lw_okq (⟨"KinInTheHeap$Reader", "endOfToken", "(I)I"⟩, 9) := ⟨⟨by decide +kernel, by decide +kernel⟩, List.mem_of_getElem? (i := 29) (by decide +kernel), List.mem_of_getElem? (i := 331) (by decide +kernel), List.mem_of_getElem? (i := 332) (by decide +kernel)⟩
theorem lw_p11 : lw_okq (⟨"KinInTheHeap$Reader", "tokenOf", "(II)I"⟩, 9) := ⟨⟨by decide +kernel, by decide +kernel⟩, List.mem_of_getElem? (i := 29) (by decide +kernel), List.mem_of_getElem? (i := 342) (by decide +kernel), List.mem_of_getElem? (i := 343) (by decide +kernel)⟩
theorem lw_p12 : lw_okq (⟨"KinInTheHeap$Reader", "wordToken", "(II)I"⟩, 9) := ⟨⟨by decide +kernel, by decide +kernel⟩, List.mem_of_getElem? (i := 29) (by decide +kernel), List.mem_of_getElem? (i := 346) (by decide +kernel), List.mem_of_getElem? (i := 347) (by decide +kernel)⟩
theorem lw_p13 : lw_okq (⟨"KinInTheHeap$Reader", "isWord", "(Ljava/lang/String;II)Z"⟩, 9) := ⟨⟨by decide +kernel, by decide +kernel⟩, List.mem_of_getElem? (i := 29) (by decide +kernel), List.mem_of_getElem? (i := 365) (by decide +kernel), List.mem_of_getElem? (i := 366) (by decide +kernel)⟩
theorem lw_p14 : lw_okq (⟨"KinInTheHeap$Reader", "numberToken", "(II)I"⟩, 9) := ⟨⟨by decide +kernel, by decide +kernel⟩, List.mem_of_getElem? (i := 29) (by decide +kernel), List.mem_of_getElem? (i := 417) (by decide +kernel), List.mem_of_getElem? (i := 418) (by decide +kernel)⟩
theorem lw_p15 : lw_okq (⟨"KinInTheHeap$Reader", "addToken", "(II)V"⟩, 9) := ⟨⟨by decide +kernel, by decide +kernel⟩, List.mem_of_getElem? (i := 29) (by decide +kernel), List.mem_of_getElem? (i := 477) (by decide +kernel), List.mem_of_getElem? (i := 478) (by decide +kernel)⟩
def lw_privs_1 : List (MethodName × Nat) := [(⟨"KinInTheHeap", "setWeek", "(I)I"⟩, 9), (⟨"KinInTheHeap", "setForce", "(I)I"⟩, 9), (⟨"KinInTheHeap", "setCrack", "(II)I"⟩, 9), (⟨"KinInTheHeap", "setNumber", "(II)I"⟩, 9), (⟨"KinInTheHeap", "setPlace", "(II)I"⟩, 9), (⟨"KinInTheHeap", "toldOfCell", "(II)I"⟩, 9), (⟨"KinInTheHeap", "toldOfDust", "(II)I"⟩, 9), (⟨"KinInTheHeap", "toldOfGoing", "(II)I"⟩, 9), (⟨"KinInTheHeap$Floor", "telling", "(II)I"⟩, 11), (⟨"KinInTheHeap$Reader", "findTokens", "()V"⟩, 9), (⟨"KinInTheHeap$Reader", "endOfToken", "(I)I"⟩, 9), (⟨"KinInTheHeap$Reader", "tokenOf", "(II)I"⟩, 9), (⟨"KinInTheHeap$Reader", "wordToken", "(II)I"⟩, 9), (⟨"KinInTheHeap$Reader", "isWord", "(Ljava/lang/String;II)Z"⟩, 9), (⟨"KinInTheHeap$Reader", "numberToken", "(II)I"⟩, 9), (⟨"KinInTheHeap$Reader", "addToken", "(II)V"⟩, 9)]
theorem lw_r1 : ∀ q ∈ lw_privs_1, lw_okq q := List.forall_mem_cons.mpr ⟨lw_p0, List.forall_mem_cons.mpr ⟨lw_p1, List.forall_mem_cons.mpr ⟨lw_p2, List.forall_mem_cons.mpr ⟨lw_p3, List.forall_mem_cons.mpr ⟨lw_p4, List.forall_mem_cons.mpr ⟨lw_p5, List.forall_mem_cons.mpr ⟨lw_p6, List.forall_mem_cons.mpr ⟨lw_p7, List.forall_mem_cons.mpr ⟨lw_p8, List.forall_mem_cons.mpr ⟨lw_p9, List.forall_mem_cons.mpr ⟨lw_p10, List.forall_mem_cons.mpr ⟨lw_p11, List.forall_mem_cons.mpr ⟨lw_p12, List.forall_mem_cons.mpr ⟨lw_p13, List.forall_mem_cons.mpr ⟨lw_p14, List.forall_mem_cons.mpr ⟨lw_p15, fun _ h => absurd h List.not_mem_nil⟩⟩⟩⟩⟩⟩⟩⟩⟩⟩⟩⟩⟩⟩⟩⟩
theorem lw_p16 : lw_okq (⟨"KinInTheHeap$Reader", "readPart", "(ILKinInTheHeap$Text;)Z"⟩, 9) := ⟨⟨by decide +kernel, by decide +kernel⟩, List.mem_of_getElem? (i := 29) (by decide +kernel), List.mem_of_getElem? (i := 482) (by decide +kernel), List.mem_of_getElem? (i := 483) (by decide +kernel)⟩
theorem lw_p17 : lw_okq (⟨"KinInTheHeap$Reader", "isToken", "(I)Z"⟩, 9) := ⟨⟨by decide +kernel, by decide +kernel⟩, List.mem_of_getElem? (i := 29) (by decide +kernel), List.mem_of_getElem? (i := 486) (by decide +kernel), List.mem_of_getElem? (i := 487) (by decide +kernel)⟩
theorem lw_p18 : lw_okq (⟨"KinInTheHeap$Reader", "opens", "(I)Z"⟩, 9) := ⟨⟨by decide +kernel, by decide +kernel⟩, List.mem_of_getElem? (i := 29) (by decide +kernel), List.mem_of_getElem? (i := 491) (by decide +kernel), List.mem_of_getElem? (i := 492) (by decide +kernel)⟩
theorem lw_p19 : lw_okq (⟨"KinInTheHeap$Reader", "lastRank", "()I"⟩, 9) := ⟨⟨by decide +kernel, by decide +kernel⟩, List.mem_of_getElem? (i := 29) (by decide +kernel), List.mem_of_getElem? (i := 495) (by decide +kernel), List.mem_of_getElem? (i := 496) (by decide +kernel)⟩
theorem lw_p20 : lw_okq (⟨"KinInTheHeap$Reader", "putToWait", "(I)V"⟩, 9) := ⟨⟨by decide +kernel, by decide +kernel⟩, List.mem_of_getElem? (i := 29) (by decide +kernel), List.mem_of_getElem? (i := 502) (by decide +kernel), List.mem_of_getElem? (i := 503) (by decide +kernel)⟩
theorem lw_p21 : lw_okq (⟨"KinInTheHeap$Reader", "ends", "(LKinInTheHeap$Text;)Z"⟩, 9) := ⟨⟨by decide +kernel, by decide +kernel⟩, List.mem_of_getElem? (i := 29) (by decide +kernel), List.mem_of_getElem? (i := 506) (by decide +kernel), List.mem_of_getElem? (i := 507) (by decide +kernel)⟩
theorem lw_p22 : lw_okq (⟨"KinInTheHeap$Reader", "letGo", "(ILKinInTheHeap$Text;)V"⟩, 9) := ⟨⟨by decide +kernel, by decide +kernel⟩, List.mem_of_getElem? (i := 29) (by decide +kernel), List.mem_of_getElem? (i := 510) (by decide +kernel), List.mem_of_getElem? (i := 511) (by decide +kernel)⟩
theorem lw_p23 : lw_okq (⟨"KinInTheHeap$Reader", "closes", "(LKinInTheHeap$Text;)Z"⟩, 9) := ⟨⟨by decide +kernel, by decide +kernel⟩, List.mem_of_getElem? (i := 29) (by decide +kernel), List.mem_of_getElem? (i := 515) (by decide +kernel), List.mem_of_getElem? (i := 516) (by decide +kernel)⟩
theorem lw_p24 : lw_okq (⟨"KinInTheHeap$Reader", "joins", "(ILKinInTheHeap$Text;)Z"⟩, 9) := ⟨⟨by decide +kernel, by decide +kernel⟩, List.mem_of_getElem? (i := 29) (by decide +kernel), List.mem_of_getElem? (i := 519) (by decide +kernel), List.mem_of_getElem? (i := 520) (by decide +kernel)⟩
theorem lw_p25 : lw_okq (⟨"KinInTheHeap$Reader", "placeOfToken", "()I"⟩, 9) := ⟨⟨by decide +kernel, by decide +kernel⟩, List.mem_of_getElem? (i := 29) (by decide +kernel), List.mem_of_getElem? (i := 523) (by decide +kernel), List.mem_of_getElem? (i := 524) (by decide +kernel)⟩
theorem lw_p26 : lw_okq (⟨"KinInTheHeap$Floor", "swept", "(III)I"⟩, 11) := ⟨⟨by decide +kernel, by decide +kernel⟩, List.mem_of_getElem? (i := 120) (by decide +kernel), List.mem_of_getElem? (i := 553) (by decide +kernel), List.mem_of_getElem? (i := 554) (by decide +kernel)⟩
theorem lw_p27 : lw_okq (⟨"KinInTheHeap$Floor", "settle", "()I"⟩, 11) := ⟨⟨by decide +kernel, by decide +kernel⟩, List.mem_of_getElem? (i := 120) (by decide +kernel), List.mem_of_getElem? (i := 560) (by decide +kernel), List.mem_of_getElem? (i := 561) (by decide +kernel)⟩
theorem lw_p28 : lw_okq (⟨"KinInTheHeap", "isSweepWhat", "(I)Z"⟩, 9) := ⟨⟨by decide +kernel, by decide +kernel⟩, List.mem_of_getElem? (i := 17) (by decide +kernel), List.mem_of_getElem? (i := 580) (by decide +kernel), List.mem_of_getElem? (i := 581) (by decide +kernel)⟩
theorem lw_p29 : lw_okq (⟨"KinInTheHeap", "reached", "(I)J"⟩, 9) := ⟨⟨by decide +kernel, by decide +kernel⟩, List.mem_of_getElem? (i := 17) (by decide +kernel), List.mem_of_getElem? (i := 647) (by decide +kernel), List.mem_of_getElem? (i := 648) (by decide +kernel)⟩
theorem lw_p30 : lw_okq (⟨"KinInTheHeap", "think", "(I)V"⟩, 9) := ⟨⟨by decide +kernel, by decide +kernel⟩, List.mem_of_getElem? (i := 17) (by decide +kernel), List.mem_of_getElem? (i := 651) (by decide +kernel), List.mem_of_getElem? (i := 652) (by decide +kernel)⟩
theorem lw_p31 : lw_okq (⟨"KinInTheHeap", "gathering", "(I)I"⟩, 9) := ⟨⟨by decide +kernel, by decide +kernel⟩, List.mem_of_getElem? (i := 17) (by decide +kernel), List.mem_of_getElem? (i := 659) (by decide +kernel), List.mem_of_getElem? (i := 660) (by decide +kernel)⟩
def lw_privs_2 : List (MethodName × Nat) := [(⟨"KinInTheHeap$Reader", "readPart", "(ILKinInTheHeap$Text;)Z"⟩, 9), (⟨"KinInTheHeap$Reader", "isToken", "(I)Z"⟩, 9), (⟨"KinInTheHeap$Reader", "opens", "(I)Z"⟩, 9), (⟨"KinInTheHeap$Reader", "lastRank", "()I"⟩, 9), (⟨"KinInTheHeap$Reader", "putToWait", "(I)V"⟩, 9), (⟨"KinInTheHeap$Reader", "ends", "(LKinInTheHeap$Text;)Z"⟩, 9), (⟨"KinInTheHeap$Reader", "letGo", "(ILKinInTheHeap$Text;)V"⟩, 9), (⟨"KinInTheHeap$Reader", "closes", "(LKinInTheHeap$Text;)Z"⟩, 9), (⟨"KinInTheHeap$Reader", "joins", "(ILKinInTheHeap$Text;)Z"⟩, 9), (⟨"KinInTheHeap$Reader", "placeOfToken", "()I"⟩, 9), (⟨"KinInTheHeap$Floor", "swept", "(III)I"⟩, 11), (⟨"KinInTheHeap$Floor", "settle", "()I"⟩, 11), (⟨"KinInTheHeap", "isSweepWhat", "(I)Z"⟩, 9), (⟨"KinInTheHeap", "reached", "(I)J"⟩, 9), (⟨"KinInTheHeap", "think", "(I)V"⟩, 9), (⟨"KinInTheHeap", "gathering", "(I)I"⟩, 9)]
theorem lw_r2 : ∀ q ∈ lw_privs_2, lw_okq q := List.forall_mem_cons.mpr ⟨lw_p16, List.forall_mem_cons.mpr ⟨lw_p17, List.forall_mem_cons.mpr ⟨lw_p18, List.forall_mem_cons.mpr ⟨lw_p19, List.forall_mem_cons.mpr ⟨lw_p20, List.forall_mem_cons.mpr ⟨lw_p21, List.forall_mem_cons.mpr ⟨lw_p22, List.forall_mem_cons.mpr ⟨lw_p23, List.forall_mem_cons.mpr ⟨lw_p24, List.forall_mem_cons.mpr ⟨lw_p25, List.forall_mem_cons.mpr ⟨lw_p26, List.forall_mem_cons.mpr ⟨lw_p27, List.forall_mem_cons.mpr ⟨lw_p28, List.forall_mem_cons.mpr ⟨lw_p29, List.forall_mem_cons.mpr ⟨lw_p30, List.forall_mem_cons.mpr ⟨lw_p31, fun _ h => absurd h List.not_mem_nil⟩⟩⟩⟩⟩⟩⟩⟩⟩⟩⟩⟩⟩⟩⟩⟩
theorem lw_p32 : lw_okq (⟨"KinInTheHeap", "lastGathering", "(I)I"⟩, 9) := ⟨⟨by decide +kernel, by decide +kernel⟩, List.mem_of_getElem? (i := 17) (by decide +kernel), List.mem_of_getElem? (i := 667) (by decide +kernel), List.mem_of_getElem? (i := 668) (by decide +kernel)⟩
theorem lw_p33 : lw_okq (⟨"KinInTheHeap", "mostTogether", "()I"⟩, 9) := ⟨⟨by decide +kernel, by decide +kernel⟩, List.mem_of_getElem? (i := 17) (by decide +kernel), List.mem_of_getElem? (i := 675) (by decide +kernel), List.mem_of_getElem? (i := 676) (by decide +kernel)⟩
theorem lw_p34 : lw_okq (⟨"KinInTheHeap", "leastSpread", "()I"⟩, 9) := ⟨⟨by decide +kernel, by decide +kernel⟩, List.mem_of_getElem? (i := 17) (by decide +kernel), List.mem_of_getElem? (i := 679) (by decide +kernel), List.mem_of_getElem? (i := 680) (by decide +kernel)⟩
theorem lw_p35 : lw_okq (⟨"KinInTheHeap", "fewestLost", "()I"⟩, 9) := ⟨⟨by decide +kernel, by decide +kernel⟩, List.mem_of_getElem? (i := 17) (by decide +kernel), List.mem_of_getElem? (i := 684) (by decide +kernel), List.mem_of_getElem? (i := 685) (by decide +kernel)⟩
theorem lw_p36 : lw_okq (⟨"KinInTheHeap", "saving", "(I)I"⟩, 9) := ⟨⟨by decide +kernel, by decide +kernel⟩, List.mem_of_getElem? (i := 17) (by decide +kernel), List.mem_of_getElem? (i := 707) (by decide +kernel), List.mem_of_getElem? (i := 708) (by decide +kernel)⟩
theorem lw_p37 : lw_okq (⟨"KinInTheHeap", "outWithCrack", "(II)I"⟩, 9) := ⟨⟨by decide +kernel, by decide +kernel⟩, List.mem_of_getElem? (i := 17) (by decide +kernel), List.mem_of_getElem? (i := 711) (by decide +kernel), List.mem_of_getElem? (i := 712) (by decide +kernel)⟩
theorem lw_p38 : lw_okq (⟨"KinInTheHeap", "toldBack", "(LKinInTheHeap$Sheet;II)I"⟩, 9) := ⟨⟨by decide +kernel, by decide +kernel⟩, List.mem_of_getElem? (i := 17) (by decide +kernel), List.mem_of_getElem? (i := 733) (by decide +kernel), List.mem_of_getElem? (i := 734) (by decide +kernel)⟩
theorem lw_p39 : lw_okq (⟨"KinInTheHeap", "firstOtherwise", "(LKinInTheHeap$Sheet;I)I"⟩, 9) := ⟨⟨by decide +kernel, by decide +kernel⟩, List.mem_of_getElem? (i := 17) (by decide +kernel), List.mem_of_getElem? (i := 737) (by decide +kernel), List.mem_of_getElem? (i := 738) (by decide +kernel)⟩
theorem lw_p40 : lw_okq (⟨"KinInTheHeap", "kindsTold", "(LKinInTheHeap$Sheet;I)I"⟩, 9) := ⟨⟨by decide +kernel, by decide +kernel⟩, List.mem_of_getElem? (i := 17) (by decide +kernel), List.mem_of_getElem? (i := 741) (by decide +kernel), List.mem_of_getElem? (i := 742) (by decide +kernel)⟩
theorem lw_p41 : lw_okq (⟨"KinInTheHeap", "numbersTold", "(LKinInTheHeap$Sheet;I)I"⟩, 9) := ⟨⟨by decide +kernel, by decide +kernel⟩, List.mem_of_getElem? (i := 17) (by decide +kernel), List.mem_of_getElem? (i := 745) (by decide +kernel), List.mem_of_getElem? (i := 746) (by decide +kernel)⟩
theorem lw_p42 : lw_okq (⟨"KinInTheHeap", "weeksTold", "(LKinInTheHeap$Sheet;I)I"⟩, 9) := ⟨⟨by decide +kernel, by decide +kernel⟩, List.mem_of_getElem? (i := 17) (by decide +kernel), List.mem_of_getElem? (i := 749) (by decide +kernel), List.mem_of_getElem? (i := 750) (by decide +kernel)⟩
theorem lw_p43 : lw_okq (⟨"KinInTheHeap", "leastWeekTold", "(LKinInTheHeap$Sheet;I)I"⟩, 9) := ⟨⟨by decide +kernel, by decide +kernel⟩, List.mem_of_getElem? (i := 17) (by decide +kernel), List.mem_of_getElem? (i := 753) (by decide +kernel), List.mem_of_getElem? (i := 754) (by decide +kernel)⟩
theorem lw_p44 : lw_okq (⟨"KinInTheHeap", "textsTold", "(LKinInTheHeap$Sheet;I)I"⟩, 9) := ⟨⟨by decide +kernel, by decide +kernel⟩, List.mem_of_getElem? (i := 17) (by decide +kernel), List.mem_of_getElem? (i := 757) (by decide +kernel), List.mem_of_getElem? (i := 758) (by decide +kernel)⟩
theorem lw_p45 : lw_okq (⟨"KinInTheHeap", "dustTold", "(LKinInTheHeap$Sheet;)I"⟩, 9) := ⟨⟨by decide +kernel, by decide +kernel⟩, List.mem_of_getElem? (i := 17) (by decide +kernel), List.mem_of_getElem? (i := 761) (by decide +kernel), List.mem_of_getElem? (i := 762) (by decide +kernel)⟩
theorem lw_p46 : lw_okq (⟨"KinInTheHeap", "outByDrawn", "(II)I"⟩, 9) := ⟨⟨by decide +kernel, by decide +kernel⟩, List.mem_of_getElem? (i := 17) (by decide +kernel), List.mem_of_getElem? (i := 787) (by decide +kernel), List.mem_of_getElem? (i := 788) (by decide +kernel)⟩
theorem lw_p47 : lw_okq (⟨"KinInTheHeap", "heapOf", "(LKinInTheHeap$Sheet;II)I"⟩, 9) := ⟨⟨by decide +kernel, by decide +kernel⟩, List.mem_of_getElem? (i := 17) (by decide +kernel), List.mem_of_getElem? (i := 830) (by decide +kernel), List.mem_of_getElem? (i := 831) (by decide +kernel)⟩
def lw_privs_3 : List (MethodName × Nat) := [(⟨"KinInTheHeap", "lastGathering", "(I)I"⟩, 9), (⟨"KinInTheHeap", "mostTogether", "()I"⟩, 9), (⟨"KinInTheHeap", "leastSpread", "()I"⟩, 9), (⟨"KinInTheHeap", "fewestLost", "()I"⟩, 9), (⟨"KinInTheHeap", "saving", "(I)I"⟩, 9), (⟨"KinInTheHeap", "outWithCrack", "(II)I"⟩, 9), (⟨"KinInTheHeap", "toldBack", "(LKinInTheHeap$Sheet;II)I"⟩, 9), (⟨"KinInTheHeap", "firstOtherwise", "(LKinInTheHeap$Sheet;I)I"⟩, 9), (⟨"KinInTheHeap", "kindsTold", "(LKinInTheHeap$Sheet;I)I"⟩, 9), (⟨"KinInTheHeap", "numbersTold", "(LKinInTheHeap$Sheet;I)I"⟩, 9), (⟨"KinInTheHeap", "weeksTold", "(LKinInTheHeap$Sheet;I)I"⟩, 9), (⟨"KinInTheHeap", "leastWeekTold", "(LKinInTheHeap$Sheet;I)I"⟩, 9), (⟨"KinInTheHeap", "textsTold", "(LKinInTheHeap$Sheet;I)I"⟩, 9), (⟨"KinInTheHeap", "dustTold", "(LKinInTheHeap$Sheet;)I"⟩, 9), (⟨"KinInTheHeap", "outByDrawn", "(II)I"⟩, 9), (⟨"KinInTheHeap", "heapOf", "(LKinInTheHeap$Sheet;II)I"⟩, 9)]
theorem lw_r3 : ∀ q ∈ lw_privs_3, lw_okq q := List.forall_mem_cons.mpr ⟨lw_p32, List.forall_mem_cons.mpr ⟨lw_p33, List.forall_mem_cons.mpr ⟨lw_p34, List.forall_mem_cons.mpr ⟨lw_p35, List.forall_mem_cons.mpr ⟨lw_p36, List.forall_mem_cons.mpr ⟨lw_p37, List.forall_mem_cons.mpr ⟨lw_p38, List.forall_mem_cons.mpr ⟨lw_p39, List.forall_mem_cons.mpr ⟨lw_p40, List.forall_mem_cons.mpr ⟨lw_p41, List.forall_mem_cons.mpr ⟨lw_p42, List.forall_mem_cons.mpr ⟨lw_p43, List.forall_mem_cons.mpr ⟨lw_p44, List.forall_mem_cons.mpr ⟨lw_p45, List.forall_mem_cons.mpr ⟨lw_p46, List.forall_mem_cons.mpr ⟨lw_p47, fun _ h => absurd h List.not_mem_nil⟩⟩⟩⟩⟩⟩⟩⟩⟩⟩⟩⟩⟩⟩⟩⟩
theorem lw_p48 : lw_okq (⟨"KinInTheHeapModel", "spell", "(IIIIIIIII)V"⟩, 43) := ⟨⟨by decide +kernel, by decide +kernel⟩, List.mem_of_getElem? (i := 844) (by decide +kernel), List.mem_of_getElem? (i := 850) (by decide +kernel), List.mem_of_getElem? (i := 851) (by decide +kernel)⟩
theorem lw_p49 : lw_okq (⟨"KinInTheHeapModel", "isOf", "(II)Z"⟩, 43) := ⟨⟨by decide +kernel, by decide +kernel⟩, List.mem_of_getElem? (i := 844) (by decide +kernel), List.mem_of_getElem? (i := 992) (by decide +kernel), List.mem_of_getElem? (i := 993) (by decide +kernel)⟩
theorem lw_p50 : lw_okq (⟨"KinInTheHeapModel", "isOne", "(I)Z"⟩, 43) := ⟨⟨by decide +kernel, by decide +kernel⟩, List.mem_of_getElem? (i := 844) (by decide +kernel), List.mem_of_getElem? (i := 1000) (by decide +kernel), List.mem_of_getElem? (i := 1001) (by decide +kernel)⟩
theorem lw_p51 : lw_okq (⟨"KinInTheHeapModel", "whoIn", "(I)I"⟩, 43) := ⟨⟨by decide +kernel, by decide +kernel⟩, List.mem_of_getElem? (i := 844) (by decide +kernel), List.mem_of_getElem? (i := 1013) (by decide +kernel), List.mem_of_getElem? (i := 1014) (by decide +kernel)⟩
theorem lw_p52 : lw_okq (⟨"KinInTheHeapModel", "goesOf", "(I)I"⟩, 43) := ⟨⟨by decide +kernel, by decide +kernel⟩, List.mem_of_getElem? (i := 844) (by decide +kernel), List.mem_of_getElem? (i := 1017) (by decide +kernel), List.mem_of_getElem? (i := 1018) (by decide +kernel)⟩
theorem lw_p53 : lw_okq (⟨"KinInTheHeapModel", "kinOf", "(I)I"⟩, 43) := ⟨⟨by decide +kernel, by decide +kernel⟩, List.mem_of_getElem? (i := 844) (by decide +kernel), List.mem_of_getElem? (i := 1021) (by decide +kernel), List.mem_of_getElem? (i := 1022) (by decide +kernel)⟩
theorem lw_p54 : lw_okq (⟨"KinInTheHeapModel", "says", "(II)I"⟩, 43) := ⟨⟨by decide +kernel, by decide +kernel⟩, List.mem_of_getElem? (i := 844) (by decide +kernel), List.mem_of_getElem? (i := 1028) (by decide +kernel), List.mem_of_getElem? (i := 1029) (by decide +kernel)⟩
theorem lw_p55 : lw_okq (⟨"KinInTheHeapModel", "read", "(II)I"⟩, 43) := ⟨⟨by decide +kernel, by decide +kernel⟩, List.mem_of_getElem? (i := 844) (by decide +kernel), List.mem_of_getElem? (i := 1032) (by decide +kernel), List.mem_of_getElem? (i := 1033) (by decide +kernel)⟩
theorem lw_p56 : lw_okq (⟨"KinInTheHeapModel", "next", "()V"⟩, 43) := ⟨⟨by decide +kernel, by decide +kernel⟩, List.mem_of_getElem? (i := 844) (by decide +kernel), List.mem_of_getElem? (i := 1036) (by decide +kernel), List.mem_of_getElem? (i := 1037) (by decide +kernel)⟩
theorem lw_p57 : lw_okq (⟨"KinInTheHeapModel", "byteAt", "(I)I"⟩, 43) := ⟨⟨by decide +kernel, by decide +kernel⟩, List.mem_of_getElem? (i := 844) (by decide +kernel), List.mem_of_getElem? (i := 1040) (by decide +kernel), List.mem_of_getElem? (i := 1041) (by decide +kernel)⟩
theorem lw_p58 : lw_okq (⟨"KinInTheHeapModel", "isWord", "(IIIIIIII)Z"⟩, 43) := ⟨⟨by decide +kernel, by decide +kernel⟩, List.mem_of_getElem? (i := 844) (by decide +kernel), List.mem_of_getElem? (i := 1048) (by decide +kernel), List.mem_of_getElem? (i := 1049) (by decide +kernel)⟩
theorem lw_p59 : lw_okq (⟨"KinInTheHeapModel", "isLetter", "(II)Z"⟩, 43) := ⟨⟨by decide +kernel, by decide +kernel⟩, List.mem_of_getElem? (i := 844) (by decide +kernel), List.mem_of_getElem? (i := 1052) (by decide +kernel), List.mem_of_getElem? (i := 1053) (by decide +kernel)⟩
theorem lw_p60 : lw_okq (⟨"KinInTheHeapModel", "part", "(Z)I"⟩, 43) := ⟨⟨by decide +kernel, by decide +kernel⟩, List.mem_of_getElem? (i := 844) (by decide +kernel), List.mem_of_getElem? (i := 1056) (by decide +kernel), List.mem_of_getElem? (i := 1057) (by decide +kernel)⟩
theorem lw_p61 : lw_okq (⟨"KinInTheHeapModel", "fail", "()V"⟩, 43) := ⟨⟨by decide +kernel, by decide +kernel⟩, List.mem_of_getElem? (i := 844) (by decide +kernel), List.mem_of_getElem? (i := 1060) (by decide +kernel), List.mem_of_getElem? (i := 1061) (by decide +kernel)⟩
theorem lw_p62 : lw_okq (⟨"KinInTheHeapModel", "either", "()I"⟩, 43) := ⟨⟨by decide +kernel, by decide +kernel⟩, List.mem_of_getElem? (i := 844) (by decide +kernel), List.mem_of_getElem? (i := 1064) (by decide +kernel), List.mem_of_getElem? (i := 1065) (by decide +kernel)⟩
theorem lw_p63 : lw_okq (⟨"KinInTheHeapModel", "both", "()I"⟩, 43) := ⟨⟨by decide +kernel, by decide +kernel⟩, List.mem_of_getElem? (i := 844) (by decide +kernel), List.mem_of_getElem? (i := 1068) (by decide +kernel), List.mem_of_getElem? (i := 1069) (by decide +kernel)⟩
def lw_privs_4 : List (MethodName × Nat) := [(⟨"KinInTheHeapModel", "spell", "(IIIIIIIII)V"⟩, 43), (⟨"KinInTheHeapModel", "isOf", "(II)Z"⟩, 43), (⟨"KinInTheHeapModel", "isOne", "(I)Z"⟩, 43), (⟨"KinInTheHeapModel", "whoIn", "(I)I"⟩, 43), (⟨"KinInTheHeapModel", "goesOf", "(I)I"⟩, 43), (⟨"KinInTheHeapModel", "kinOf", "(I)I"⟩, 43), (⟨"KinInTheHeapModel", "says", "(II)I"⟩, 43), (⟨"KinInTheHeapModel", "read", "(II)I"⟩, 43), (⟨"KinInTheHeapModel", "next", "()V"⟩, 43), (⟨"KinInTheHeapModel", "byteAt", "(I)I"⟩, 43), (⟨"KinInTheHeapModel", "isWord", "(IIIIIIII)Z"⟩, 43), (⟨"KinInTheHeapModel", "isLetter", "(II)Z"⟩, 43), (⟨"KinInTheHeapModel", "part", "(Z)I"⟩, 43), (⟨"KinInTheHeapModel", "fail", "()V"⟩, 43), (⟨"KinInTheHeapModel", "either", "()I"⟩, 43), (⟨"KinInTheHeapModel", "both", "()I"⟩, 43)]
theorem lw_r4 : ∀ q ∈ lw_privs_4, lw_okq q := List.forall_mem_cons.mpr ⟨lw_p48, List.forall_mem_cons.mpr ⟨lw_p49, List.forall_mem_cons.mpr ⟨lw_p50, List.forall_mem_cons.mpr ⟨lw_p51, List.forall_mem_cons.mpr ⟨lw_p52, List.forall_mem_cons.mpr ⟨lw_p53, List.forall_mem_cons.mpr ⟨lw_p54, List.forall_mem_cons.mpr ⟨lw_p55, List.forall_mem_cons.mpr ⟨lw_p56, List.forall_mem_cons.mpr ⟨lw_p57, List.forall_mem_cons.mpr ⟨lw_p58, List.forall_mem_cons.mpr ⟨lw_p59, List.forall_mem_cons.mpr ⟨lw_p60, List.forall_mem_cons.mpr ⟨lw_p61, List.forall_mem_cons.mpr ⟨lw_p62, List.forall_mem_cons.mpr ⟨lw_p63, fun _ h => absurd h List.not_mem_nil⟩⟩⟩⟩⟩⟩⟩⟩⟩⟩⟩⟩⟩⟩⟩⟩
theorem lw_p64 : lw_okq (⟨"KinInTheHeapModel", "not", "()I"⟩, 43) := ⟨⟨by decide +kernel, by decide +kernel⟩, List.mem_of_getElem? (i := 844) (by decide +kernel), List.mem_of_getElem? (i := 1072) (by decide +kernel), List.mem_of_getElem? (i := 1073) (by decide +kernel)⟩
theorem lw_p65 : lw_okq (⟨"KinInTheHeapModel", "opens", "()Z"⟩, 43) := ⟨⟨by decide +kernel, by decide +kernel⟩, List.mem_of_getElem? (i := 844) (by decide +kernel), List.mem_of_getElem? (i := 1076) (by decide +kernel), List.mem_of_getElem? (i := 1077) (by decide +kernel)⟩
theorem lw_p66 : lw_okq (⟨"KinInTheHeapModel", "added", "()I"⟩, 43) := ⟨⟨by decide +kernel, by decide +kernel⟩, List.mem_of_getElem? (i := 844) (by decide +kernel), List.mem_of_getElem? (i := 1080) (by decide +kernel), List.mem_of_getElem? (i := 1081) (by decide +kernel)⟩
theorem lw_p67 : lw_okq (⟨"KinInTheHeapModel", "term", "()I"⟩, 43) := ⟨⟨by decide +kernel, by decide +kernel⟩, List.mem_of_getElem? (i := 844) (by decide +kernel), List.mem_of_getElem? (i := 1084) (by decide +kernel), List.mem_of_getElem? (i := 1085) (by decide +kernel)⟩
theorem lw_p68 : lw_okq (⟨"KinInTheHeapModel", "atom", "()I"⟩, 43) := ⟨⟨by decide +kernel, by decide +kernel⟩, List.mem_of_getElem? (i := 844) (by decide +kernel), List.mem_of_getElem? (i := 1088) (by decide +kernel), List.mem_of_getElem? (i := 1089) (by decide +kernel)⟩
theorem lw_p69 : lw_okq (⟨"KinInTheHeapModel", "isSign", "(I)Z"⟩, 43) := ⟨⟨by decide +kernel, by decide +kernel⟩, List.mem_of_getElem? (i := 844) (by decide +kernel), List.mem_of_getElem? (i := 1092) (by decide +kernel), List.mem_of_getElem? (i := 1093) (by decide +kernel)⟩
theorem lw_p70 : lw_okq (⟨"KinInTheHeapModel", "name", "()I"⟩, 43) := ⟨⟨by decide +kernel, by decide +kernel⟩, List.mem_of_getElem? (i := 844) (by decide +kernel), List.mem_of_getElem? (i := 1096) (by decide +kernel), List.mem_of_getElem? (i := 1097) (by decide +kernel)⟩
theorem lw_p71 : lw_okq (⟨"KinInTheHeapModel", "isLoose", "(I)Z"⟩, 43) := ⟨⟨by decide +kernel, by decide +kernel⟩, List.mem_of_getElem? (i := 844) (by decide +kernel), List.mem_of_getElem? (i := 1105) (by decide +kernel), List.mem_of_getElem? (i := 1106) (by decide +kernel)⟩
theorem lw_p72 : lw_okq (⟨"KinInTheHeapModel", "blownOf", "(I)I"⟩, 43) := ⟨⟨by decide +kernel, by decide +kernel⟩, List.mem_of_getElem? (i := 844) (by decide +kernel), List.mem_of_getElem? (i := 1109) (by decide +kernel), List.mem_of_getElem? (i := 1110) (by decide +kernel)⟩
theorem lw_p73 : lw_okq (⟨"KinInTheHeapModel", "lays", "(III)V"⟩, 43) := ⟨⟨by decide +kernel, by decide +kernel⟩, List.mem_of_getElem? (i := 844) (by decide +kernel), List.mem_of_getElem? (i := 1113) (by decide +kernel), List.mem_of_getElem? (i := 1114) (by decide +kernel)⟩
theorem lw_p74 : lw_okq (⟨"KinInTheHeapModel", "strokes", "(I)I"⟩, 43) := ⟨⟨by decide +kernel, by decide +kernel⟩, List.mem_of_getElem? (i := 844) (by decide +kernel), List.mem_of_getElem? (i := 1145) (by decide +kernel), List.mem_of_getElem? (i := 1146) (by decide +kernel)⟩
theorem lw_p75 : lw_okq (⟨"KinInTheHeapModel", "isMovable", "(I)Z"⟩, 43) := ⟨⟨by decide +kernel, by decide +kernel⟩, List.mem_of_getElem? (i := 844) (by decide +kernel), List.mem_of_getElem? (i := 1149) (by decide +kernel), List.mem_of_getElem? (i := 1150) (by decide +kernel)⟩
theorem lw_p76 : lw_okq (⟨"KinInTheHeapModel", "swept", "(III)I"⟩, 43) := ⟨⟨by decide +kernel, by decide +kernel⟩, List.mem_of_getElem? (i := 844) (by decide +kernel), List.mem_of_getElem? (i := 1153) (by decide +kernel), List.mem_of_getElem? (i := 1154) (by decide +kernel)⟩
theorem lw_p77 : lw_okq (⟨"KinInTheHeapModel", "lays1", "()I"⟩, 43) := ⟨⟨by decide +kernel, by decide +kernel⟩, List.mem_of_getElem? (i := 844) (by decide +kernel), List.mem_of_getElem? (i := 1160) (by decide +kernel), List.mem_of_getElem? (i := 1161) (by decide +kernel)⟩
theorem lw_p78 : lw_okq (⟨"KinInTheHeapModel", "passes", "()I"⟩, 43) := ⟨⟨by decide +kernel, by decide +kernel⟩, List.mem_of_getElem? (i := 844) (by decide +kernel), List.mem_of_getElem? (i := 1168) (by decide +kernel), List.mem_of_getElem? (i := 1169) (by decide +kernel)⟩
theorem lw_p79 : lw_okq (⟨"KinInTheHeapModel", "sweepBad", "(I)I"⟩, 43) := ⟨⟨by decide +kernel, by decide +kernel⟩, List.mem_of_getElem? (i := 844) (by decide +kernel), List.mem_of_getElem? (i := 1181) (by decide +kernel), List.mem_of_getElem? (i := 1182) (by decide +kernel)⟩
def lw_privs_5 : List (MethodName × Nat) := [(⟨"KinInTheHeapModel", "not", "()I"⟩, 43), (⟨"KinInTheHeapModel", "opens", "()Z"⟩, 43), (⟨"KinInTheHeapModel", "added", "()I"⟩, 43), (⟨"KinInTheHeapModel", "term", "()I"⟩, 43), (⟨"KinInTheHeapModel", "atom", "()I"⟩, 43), (⟨"KinInTheHeapModel", "isSign", "(I)Z"⟩, 43), (⟨"KinInTheHeapModel", "name", "()I"⟩, 43), (⟨"KinInTheHeapModel", "isLoose", "(I)Z"⟩, 43), (⟨"KinInTheHeapModel", "blownOf", "(I)I"⟩, 43), (⟨"KinInTheHeapModel", "lays", "(III)V"⟩, 43), (⟨"KinInTheHeapModel", "strokes", "(I)I"⟩, 43), (⟨"KinInTheHeapModel", "isMovable", "(I)Z"⟩, 43), (⟨"KinInTheHeapModel", "swept", "(III)I"⟩, 43), (⟨"KinInTheHeapModel", "lays1", "()I"⟩, 43), (⟨"KinInTheHeapModel", "passes", "()I"⟩, 43), (⟨"KinInTheHeapModel", "sweepBad", "(I)I"⟩, 43)]
theorem lw_r5 : ∀ q ∈ lw_privs_5, lw_okq q := List.forall_mem_cons.mpr ⟨lw_p64, List.forall_mem_cons.mpr ⟨lw_p65, List.forall_mem_cons.mpr ⟨lw_p66, List.forall_mem_cons.mpr ⟨lw_p67, List.forall_mem_cons.mpr ⟨lw_p68, List.forall_mem_cons.mpr ⟨lw_p69, List.forall_mem_cons.mpr ⟨lw_p70, List.forall_mem_cons.mpr ⟨lw_p71, List.forall_mem_cons.mpr ⟨lw_p72, List.forall_mem_cons.mpr ⟨lw_p73, List.forall_mem_cons.mpr ⟨lw_p74, List.forall_mem_cons.mpr ⟨lw_p75, List.forall_mem_cons.mpr ⟨lw_p76, List.forall_mem_cons.mpr ⟨lw_p77, List.forall_mem_cons.mpr ⟨lw_p78, List.forall_mem_cons.mpr ⟨lw_p79, fun _ h => absurd h List.not_mem_nil⟩⟩⟩⟩⟩⟩⟩⟩⟩⟩⟩⟩⟩⟩⟩⟩
theorem lw_p80 : lw_okq (⟨"KinInTheHeapModel", "laysAside", "()V"⟩, 43) := ⟨⟨by decide +kernel, by decide +kernel⟩, List.mem_of_getElem? (i := 844) (by decide +kernel), List.mem_of_getElem? (i := 1185) (by decide +kernel), List.mem_of_getElem? (i := 1186) (by decide +kernel)⟩
theorem lw_p81 : lw_okq (⟨"KinInTheHeapModel", "sweptBy", "(I)I"⟩, 43) := ⟨⟨by decide +kernel, by decide +kernel⟩, List.mem_of_getElem? (i := 844) (by decide +kernel), List.mem_of_getElem? (i := 1189) (by decide +kernel), List.mem_of_getElem? (i := 1190) (by decide +kernel)⟩
theorem lw_p82 : lw_okq (⟨"KinInTheHeapModel", "togethers", "()I"⟩, 43) := ⟨⟨by decide +kernel, by decide +kernel⟩, List.mem_of_getElem? (i := 844) (by decide +kernel), List.mem_of_getElem? (i := 1193) (by decide +kernel), List.mem_of_getElem? (i := 1194) (by decide +kernel)⟩
theorem lw_p83 : lw_okq (⟨"KinInTheHeapModel", "heaps", "()I"⟩, 43) := ⟨⟨by decide +kernel, by decide +kernel⟩, List.mem_of_getElem? (i := 844) (by decide +kernel), List.mem_of_getElem? (i := 1197) (by decide +kernel), List.mem_of_getElem? (i := 1198) (by decide +kernel)⟩
theorem lw_p84 : lw_okq (⟨"KinInTheHeapModel", "spread", "()I"⟩, 43) := ⟨⟨by decide +kernel, by decide +kernel⟩, List.mem_of_getElem? (i := 844) (by decide +kernel), List.mem_of_getElem? (i := 1201) (by decide +kernel), List.mem_of_getElem? (i := 1202) (by decide +kernel)⟩
theorem lw_p85 : lw_okq (⟨"KinInTheHeapModel", "laysBack", "()V"⟩, 43) := ⟨⟨by decide +kernel, by decide +kernel⟩, List.mem_of_getElem? (i := 844) (by decide +kernel), List.mem_of_getElem? (i := 1208) (by decide +kernel), List.mem_of_getElem? (i := 1209) (by decide +kernel)⟩
theorem lw_p86 : lw_okq (⟨"KinInTheHeapModel", "greatest", "()I"⟩, 43) := ⟨⟨by decide +kernel, by decide +kernel⟩, List.mem_of_getElem? (i := 844) (by decide +kernel), List.mem_of_getElem? (i := 1220) (by decide +kernel), List.mem_of_getElem? (i := 1221) (by decide +kernel)⟩
theorem lw_p87 : lw_okq (⟨"KinInTheHeapModel", "comes", "(I)J"⟩, 43) := ⟨⟨by decide +kernel, by decide +kernel⟩, List.mem_of_getElem? (i := 844) (by decide +kernel), List.mem_of_getElem? (i := 1229) (by decide +kernel), List.mem_of_getElem? (i := 1230) (by decide +kernel)⟩
theorem lw_p88 : lw_okq (⟨"KinInTheHeapModel", "gathered", "(I)I"⟩, 43) := ⟨⟨by decide +kernel, by decide +kernel⟩, List.mem_of_getElem? (i := 844) (by decide +kernel), List.mem_of_getElem? (i := 1237) (by decide +kernel), List.mem_of_getElem? (i := 1238) (by decide +kernel)⟩
theorem lw_p89 : lw_okq (⟨"KinInTheHeapModel", "areTogether", "(I)Z"⟩, 43) := ⟨⟨by decide +kernel, by decide +kernel⟩, List.mem_of_getElem? (i := 844) (by decide +kernel), List.mem_of_getElem? (i := 1241) (by decide +kernel), List.mem_of_getElem? (i := 1242) (by decide +kernel)⟩
theorem lw_p90 : lw_okq (⟨"KinInTheHeapModel", "bestBy", "(I)I"⟩, 43) := ⟨⟨by decide +kernel, by decide +kernel⟩, List.mem_of_getElem? (i := 844) (by decide +kernel), List.mem_of_getElem? (i := 1249) (by decide +kernel), List.mem_of_getElem? (i := 1250) (by decide +kernel)⟩
theorem lw_p91 : lw_okq (⟨"KinInTheHeapModel", "lostFirst", "(I)I"⟩, 43) := ⟨⟨by decide +kernel, by decide +kernel⟩, List.mem_of_getElem? (i := 844) (by decide +kernel), List.mem_of_getElem? (i := 1253) (by decide +kernel), List.mem_of_getElem? (i := 1254) (by decide +kernel)⟩
theorem lw_p92 : lw_okq (⟨"KinInTheHeapModel", "outMany", "()I"⟩, 43) := ⟨⟨by decide +kernel, by decide +kernel⟩, List.mem_of_getElem? (i := 844) (by decide +kernel), List.mem_of_getElem? (i := 1257) (by decide +kernel), List.mem_of_getElem? (i := 1258) (by decide +kernel)⟩
theorem lw_p93 : lw_okq (⟨"KinInTheHeapModel", "outBy", "(I)I"⟩, 43) := ⟨⟨by decide +kernel, by decide +kernel⟩, List.mem_of_getElem? (i := 844) (by decide +kernel), List.mem_of_getElem? (i := 1265) (by decide +kernel), List.mem_of_getElem? (i := 1266) (by decide +kernel)⟩
theorem lw_p94 : lw_okq (⟨"KinInTheHeapModel", "firstOther", "(II)I"⟩, 43) := ⟨⟨by decide +kernel, by decide +kernel⟩, List.mem_of_getElem? (i := 844) (by decide +kernel), List.mem_of_getElem? (i := 1286) (by decide +kernel), List.mem_of_getElem? (i := 1287) (by decide +kernel)⟩
theorem lw_p95 : lw_okq (⟨"KinInTheHeapModel", "likeSet", "(I)I"⟩, 43) := ⟨⟨by decide +kernel, by decide +kernel⟩, List.mem_of_getElem? (i := 844) (by decide +kernel), List.mem_of_getElem? (i := 1290) (by decide +kernel), List.mem_of_getElem? (i := 1291) (by decide +kernel)⟩
def lw_privs_6 : List (MethodName × Nat) := [(⟨"KinInTheHeapModel", "laysAside", "()V"⟩, 43), (⟨"KinInTheHeapModel", "sweptBy", "(I)I"⟩, 43), (⟨"KinInTheHeapModel", "togethers", "()I"⟩, 43), (⟨"KinInTheHeapModel", "heaps", "()I"⟩, 43), (⟨"KinInTheHeapModel", "spread", "()I"⟩, 43), (⟨"KinInTheHeapModel", "laysBack", "()V"⟩, 43), (⟨"KinInTheHeapModel", "greatest", "()I"⟩, 43), (⟨"KinInTheHeapModel", "comes", "(I)J"⟩, 43), (⟨"KinInTheHeapModel", "gathered", "(I)I"⟩, 43), (⟨"KinInTheHeapModel", "areTogether", "(I)Z"⟩, 43), (⟨"KinInTheHeapModel", "bestBy", "(I)I"⟩, 43), (⟨"KinInTheHeapModel", "lostFirst", "(I)I"⟩, 43), (⟨"KinInTheHeapModel", "outMany", "()I"⟩, 43), (⟨"KinInTheHeapModel", "outBy", "(I)I"⟩, 43), (⟨"KinInTheHeapModel", "firstOther", "(II)I"⟩, 43), (⟨"KinInTheHeapModel", "likeSet", "(I)I"⟩, 43)]
theorem lw_r6 : ∀ q ∈ lw_privs_6, lw_okq q := List.forall_mem_cons.mpr ⟨lw_p80, List.forall_mem_cons.mpr ⟨lw_p81, List.forall_mem_cons.mpr ⟨lw_p82, List.forall_mem_cons.mpr ⟨lw_p83, List.forall_mem_cons.mpr ⟨lw_p84, List.forall_mem_cons.mpr ⟨lw_p85, List.forall_mem_cons.mpr ⟨lw_p86, List.forall_mem_cons.mpr ⟨lw_p87, List.forall_mem_cons.mpr ⟨lw_p88, List.forall_mem_cons.mpr ⟨lw_p89, List.forall_mem_cons.mpr ⟨lw_p90, List.forall_mem_cons.mpr ⟨lw_p91, List.forall_mem_cons.mpr ⟨lw_p92, List.forall_mem_cons.mpr ⟨lw_p93, List.forall_mem_cons.mpr ⟨lw_p94, List.forall_mem_cons.mpr ⟨lw_p95, fun _ h => absurd h List.not_mem_nil⟩⟩⟩⟩⟩⟩⟩⟩⟩⟩⟩⟩⟩⟩⟩⟩
theorem lw_p96 : lw_okq (⟨"KinInTheHeapModel", "outDrawn", "(II)I"⟩, 43) := ⟨⟨by decide +kernel, by decide +kernel⟩, List.mem_of_getElem? (i := 844) (by decide +kernel), List.mem_of_getElem? (i := 1311) (by decide +kernel), List.mem_of_getElem? (i := 1312) (by decide +kernel)⟩
def lw_privs_7 : List (MethodName × Nat) := [(⟨"KinInTheHeapModel", "outDrawn", "(II)I"⟩, 43)]
theorem lw_r7 : ∀ q ∈ lw_privs_7, lw_okq q := List.forall_mem_cons.mpr ⟨lw_p96, fun _ h => absurd h List.not_mem_nil⟩
def lw_privs : List (MethodName × Nat) := lw_privs_1 ++ (lw_privs_2 ++ (lw_privs_3 ++ (lw_privs_4 ++ (lw_privs_5 ++ (lw_privs_6 ++ (lw_privs_7))))))
def lw_tbl : List Cond := k2_sels lw_privs ++ tables_1
theorem lw_privs_ok : ∀ q ∈ lw_privs, lw_okq q := by
  show ∀ q ∈ lw_privs_1 ++ (lw_privs_2 ++ (lw_privs_3 ++ (lw_privs_4 ++ (lw_privs_5 ++ (lw_privs_6 ++ (lw_privs_7)))))), lw_okq q
  exact List.forall_mem_append.mpr ⟨lw_r1, List.forall_mem_append.mpr ⟨lw_r2, List.forall_mem_append.mpr ⟨lw_r3, List.forall_mem_append.mpr ⟨lw_r4, List.forall_mem_append.mpr ⟨lw_r5, List.forall_mem_append.mpr ⟨lw_r6, lw_r7⟩⟩⟩⟩⟩⟩
-- ===== end of PART A; then your names; then what follows =====
def TB : List Cond := lw_tbl.filter goodWord
theorem tbm {w : Cond} (h : w ∈ lw_tbl) (hg : goodWord w = true) : w ∈ TB := List.mem_filter.mpr ⟨h, hg⟩
theorem tb_sub : ∀ w ∈ TB, w ∈ lw_tbl := fun _ h => (List.mem_filter.mp h).1
theorem tb_good {w : Cond} (h : w ∈ TB) : (w.onTables && w.keeps) = true ∨ ∃ ty, w = .arrayClass ty := good_of_word (List.mem_filter.mp h).2
theorem tb_0 {w : Cond} (h : w ∈ k2_sels lw_privs) : w ∈ lw_tbl := List.mem_append_left _ h
theorem tb_r {w : Cond} (h : w ∈ tables_1) : w ∈ lw_tbl := List.mem_append_right _ h
theorem tb_1 {w : Cond} (h : w ∈ tables_1_1) : w ∈ lw_tbl := tb_r (List.mem_append_left _ h)
theorem tb_2 {w : Cond} (h : w ∈ tables_1_2) : w ∈ lw_tbl := tb_r (List.mem_append_right _ (List.mem_append_left _ h))
theorem tb_3 {w : Cond} (h : w ∈ tables_1_3) : w ∈ lw_tbl := tb_r (List.mem_append_right _ (List.mem_append_right _ (List.mem_append_left _ h)))
theorem tb_4 {w : Cond} (h : w ∈ tables_1_4) : w ∈ lw_tbl := tb_r (List.mem_append_right _ (List.mem_append_right _ (List.mem_append_right _ (List.mem_append_left _ h))))
theorem tb_5 {w : Cond} (h : w ∈ tables_1_5) : w ∈ lw_tbl := tb_r (List.mem_append_right _ (List.mem_append_right _ (List.mem_append_right _ (List.mem_append_right _ (List.mem_append_left _ h)))))
theorem tb_6 {w : Cond} (h : w ∈ tables_1_6) : w ∈ lw_tbl := tb_r (List.mem_append_right _ (List.mem_append_right _ (List.mem_append_right _ (List.mem_append_right _ (List.mem_append_right _ h)))))
theorem w0 : (Jvm.Cond.selects "KinInTheHeap" ({ cls := "KinInTheHeap", name := "setWeek", desc := "(I)I" } : Jvm.MethodName) ({ cls := "KinInTheHeap", name := "setWeek", desc := "(I)I" } : Jvm.MethodName)) ∈ TB := tbm (tb_0 (List.mem_of_getElem? (i := 0) (by decide +kernel))) rfl
theorem w1 : (Jvm.Cond.selects "KinInTheHeap" ({ cls := "KinInTheHeap", name := "setForce", desc := "(I)I" } : Jvm.MethodName) ({ cls := "KinInTheHeap", name := "setForce", desc := "(I)I" } : Jvm.MethodName)) ∈ TB := tbm (tb_0 (List.mem_of_getElem? (i := 1) (by decide +kernel))) rfl
theorem w2 : (Jvm.Cond.selects "KinInTheHeap" ({ cls := "KinInTheHeap", name := "setCrack", desc := "(II)I" } : Jvm.MethodName) ({ cls := "KinInTheHeap", name := "setCrack", desc := "(II)I" } : Jvm.MethodName)) ∈ TB := tbm (tb_0 (List.mem_of_getElem? (i := 2) (by decide +kernel))) rfl
theorem w3 : (Jvm.Cond.selects "KinInTheHeap" ({ cls := "KinInTheHeap", name := "setNumber", desc := "(II)I" } : Jvm.MethodName) ({ cls := "KinInTheHeap", name := "setNumber", desc := "(II)I" } : Jvm.MethodName)) ∈ TB := tbm (tb_0 (List.mem_of_getElem? (i := 3) (by decide +kernel))) rfl
theorem w4 : (Jvm.Cond.selects "KinInTheHeap" ({ cls := "KinInTheHeap", name := "setPlace", desc := "(II)I" } : Jvm.MethodName) ({ cls := "KinInTheHeap", name := "setPlace", desc := "(II)I" } : Jvm.MethodName)) ∈ TB := tbm (tb_0 (List.mem_of_getElem? (i := 4) (by decide +kernel))) rfl
theorem w5 : (Jvm.Cond.selects "KinInTheHeap" ({ cls := "KinInTheHeap", name := "toldOfCell", desc := "(II)I" } : Jvm.MethodName) ({ cls := "KinInTheHeap", name := "toldOfCell", desc := "(II)I" } : Jvm.MethodName)) ∈ TB := tbm (tb_0 (List.mem_of_getElem? (i := 5) (by decide +kernel))) rfl
theorem w6 : (Jvm.Cond.selects "KinInTheHeap" ({ cls := "KinInTheHeap", name := "toldOfDust", desc := "(II)I" } : Jvm.MethodName) ({ cls := "KinInTheHeap", name := "toldOfDust", desc := "(II)I" } : Jvm.MethodName)) ∈ TB := tbm (tb_0 (List.mem_of_getElem? (i := 6) (by decide +kernel))) rfl
theorem w7 : (Jvm.Cond.selects "KinInTheHeap" ({ cls := "KinInTheHeap", name := "toldOfGoing", desc := "(II)I" } : Jvm.MethodName) ({ cls := "KinInTheHeap", name := "toldOfGoing", desc := "(II)I" } : Jvm.MethodName)) ∈ TB := tbm (tb_0 (List.mem_of_getElem? (i := 7) (by decide +kernel))) rfl
theorem w8 : (Jvm.Cond.selects "KinInTheHeap$Floor" ({ cls := "KinInTheHeap$Floor", name := "telling", desc := "(II)I" } : Jvm.MethodName) ({ cls := "KinInTheHeap$Floor", name := "telling", desc := "(II)I" } : Jvm.MethodName)) ∈ TB := tbm (tb_0 (List.mem_of_getElem? (i := 8) (by decide +kernel))) rfl
theorem w9 : (Jvm.Cond.selects "KinInTheHeap$Reader" ({ cls := "KinInTheHeap$Reader", name := "findTokens", desc := "()V" } : Jvm.MethodName) ({ cls := "KinInTheHeap$Reader", name := "findTokens", desc := "()V" } : Jvm.MethodName)) ∈ TB := tbm (tb_0 (List.mem_of_getElem? (i := 9) (by decide +kernel))) rfl
theorem w10 : (Jvm.Cond.selects "KinInTheHeap$Reader" ({ cls := "KinInTheHeap$Reader", name := "endOfToken", desc := "(I)I" } : Jvm.MethodName) ({ cls := "KinInTheHeap$Reader", name := "endOfToken", desc := "(I)I" } : Jvm.MethodName)) ∈ TB := tbm (tb_0 (List.mem_of_getElem? (i := 10) (by decide +kernel))) rfl
theorem w11 : (Jvm.Cond.selects "KinInTheHeap$Reader" ({ cls := "KinInTheHeap$Reader", name := "tokenOf", desc := "(II)I" } : Jvm.MethodName) ({ cls := "KinInTheHeap$Reader", name := "tokenOf", desc := "(II)I" } : Jvm.MethodName)) ∈ TB := tbm (tb_0 (List.mem_of_getElem? (i := 11) (by decide +kernel))) rfl
theorem w12 : (Jvm.Cond.selects "KinInTheHeap$Reader" ({ cls := "KinInTheHeap$Reader", name := "wordToken", desc := "(II)I" } : Jvm.MethodName) ({ cls := "KinInTheHeap$Reader", name := "wordToken", desc := "(II)I" } : Jvm.MethodName)) ∈ TB := tbm (tb_0 (List.mem_of_getElem? (i := 12) (by decide +kernel))) rfl
theorem w13 : (Jvm.Cond.selects "KinInTheHeap$Reader" ({ cls := "KinInTheHeap$Reader", name := "isWord", desc := "(Ljava/lang/String;II)Z" } : Jvm.MethodName) ({ cls := "KinInTheHeap$Reader", name := "isWord", desc := "(Ljava/lang/String;II)Z" } : Jvm.MethodName)) ∈ TB := tbm (tb_0 (List.mem_of_getElem? (i := 13) (by decide +kernel))) rfl
theorem w14 : (Jvm.Cond.selects "KinInTheHeap$Reader" ({ cls := "KinInTheHeap$Reader", name := "numberToken", desc := "(II)I" } : Jvm.MethodName) ({ cls := "KinInTheHeap$Reader", name := "numberToken", desc := "(II)I" } : Jvm.MethodName)) ∈ TB := tbm (tb_0 (List.mem_of_getElem? (i := 14) (by decide +kernel))) rfl
theorem w15 : (Jvm.Cond.selects "KinInTheHeap$Reader" ({ cls := "KinInTheHeap$Reader", name := "addToken", desc := "(II)V" } : Jvm.MethodName) ({ cls := "KinInTheHeap$Reader", name := "addToken", desc := "(II)V" } : Jvm.MethodName)) ∈ TB := tbm (tb_0 (List.mem_of_getElem? (i := 15) (by decide +kernel))) rfl
theorem w16 : (Jvm.Cond.selects "KinInTheHeap$Reader" ({ cls := "KinInTheHeap$Reader", name := "readPart", desc := "(ILKinInTheHeap$Text;)Z" } : Jvm.MethodName) ({ cls := "KinInTheHeap$Reader", name := "readPart", desc := "(ILKinInTheHeap$Text;)Z" } : Jvm.MethodName)) ∈ TB := tbm (tb_0 (List.mem_of_getElem? (i := 16) (by decide +kernel))) rfl
theorem w17 : (Jvm.Cond.selects "KinInTheHeap$Reader" ({ cls := "KinInTheHeap$Reader", name := "isToken", desc := "(I)Z" } : Jvm.MethodName) ({ cls := "KinInTheHeap$Reader", name := "isToken", desc := "(I)Z" } : Jvm.MethodName)) ∈ TB := tbm (tb_0 (List.mem_of_getElem? (i := 17) (by decide +kernel))) rfl
theorem w18 : (Jvm.Cond.selects "KinInTheHeap$Reader" ({ cls := "KinInTheHeap$Reader", name := "opens", desc := "(I)Z" } : Jvm.MethodName) ({ cls := "KinInTheHeap$Reader", name := "opens", desc := "(I)Z" } : Jvm.MethodName)) ∈ TB := tbm (tb_0 (List.mem_of_getElem? (i := 18) (by decide +kernel))) rfl
theorem w19 : (Jvm.Cond.selects "KinInTheHeap$Reader" ({ cls := "KinInTheHeap$Reader", name := "lastRank", desc := "()I" } : Jvm.MethodName) ({ cls := "KinInTheHeap$Reader", name := "lastRank", desc := "()I" } : Jvm.MethodName)) ∈ TB := tbm (tb_0 (List.mem_of_getElem? (i := 19) (by decide +kernel))) rfl
theorem w20 : (Jvm.Cond.selects "KinInTheHeap$Reader" ({ cls := "KinInTheHeap$Reader", name := "putToWait", desc := "(I)V" } : Jvm.MethodName) ({ cls := "KinInTheHeap$Reader", name := "putToWait", desc := "(I)V" } : Jvm.MethodName)) ∈ TB := tbm (tb_0 (List.mem_of_getElem? (i := 20) (by decide +kernel))) rfl
theorem w21 : (Jvm.Cond.selects "KinInTheHeap$Reader" ({ cls := "KinInTheHeap$Reader", name := "ends", desc := "(LKinInTheHeap$Text;)Z" } : Jvm.MethodName) ({ cls := "KinInTheHeap$Reader", name := "ends", desc := "(LKinInTheHeap$Text;)Z" } : Jvm.MethodName)) ∈ TB := tbm (tb_0 (List.mem_of_getElem? (i := 21) (by decide +kernel))) rfl
theorem w22 : (Jvm.Cond.selects "KinInTheHeap$Reader" ({ cls := "KinInTheHeap$Reader", name := "letGo", desc := "(ILKinInTheHeap$Text;)V" } : Jvm.MethodName) ({ cls := "KinInTheHeap$Reader", name := "letGo", desc := "(ILKinInTheHeap$Text;)V" } : Jvm.MethodName)) ∈ TB := tbm (tb_0 (List.mem_of_getElem? (i := 22) (by decide +kernel))) rfl
theorem w23 : (Jvm.Cond.selects "KinInTheHeap$Reader" ({ cls := "KinInTheHeap$Reader", name := "closes", desc := "(LKinInTheHeap$Text;)Z" } : Jvm.MethodName) ({ cls := "KinInTheHeap$Reader", name := "closes", desc := "(LKinInTheHeap$Text;)Z" } : Jvm.MethodName)) ∈ TB := tbm (tb_0 (List.mem_of_getElem? (i := 23) (by decide +kernel))) rfl
theorem w24 : (Jvm.Cond.selects "KinInTheHeap$Reader" ({ cls := "KinInTheHeap$Reader", name := "joins", desc := "(ILKinInTheHeap$Text;)Z" } : Jvm.MethodName) ({ cls := "KinInTheHeap$Reader", name := "joins", desc := "(ILKinInTheHeap$Text;)Z" } : Jvm.MethodName)) ∈ TB := tbm (tb_0 (List.mem_of_getElem? (i := 24) (by decide +kernel))) rfl
theorem w25 : (Jvm.Cond.selects "KinInTheHeap$Reader" ({ cls := "KinInTheHeap$Reader", name := "placeOfToken", desc := "()I" } : Jvm.MethodName) ({ cls := "KinInTheHeap$Reader", name := "placeOfToken", desc := "()I" } : Jvm.MethodName)) ∈ TB := tbm (tb_0 (List.mem_of_getElem? (i := 25) (by decide +kernel))) rfl
theorem w26 : (Jvm.Cond.selects "KinInTheHeap$Floor" ({ cls := "KinInTheHeap$Floor", name := "swept", desc := "(III)I" } : Jvm.MethodName) ({ cls := "KinInTheHeap$Floor", name := "swept", desc := "(III)I" } : Jvm.MethodName)) ∈ TB := tbm (tb_0 (List.mem_of_getElem? (i := 26) (by decide +kernel))) rfl
theorem w27 : (Jvm.Cond.selects "KinInTheHeap$Floor" ({ cls := "KinInTheHeap$Floor", name := "settle", desc := "()I" } : Jvm.MethodName) ({ cls := "KinInTheHeap$Floor", name := "settle", desc := "()I" } : Jvm.MethodName)) ∈ TB := tbm (tb_0 (List.mem_of_getElem? (i := 27) (by decide +kernel))) rfl
theorem w28 : (Jvm.Cond.selects "KinInTheHeap" ({ cls := "KinInTheHeap", name := "isSweepWhat", desc := "(I)Z" } : Jvm.MethodName) ({ cls := "KinInTheHeap", name := "isSweepWhat", desc := "(I)Z" } : Jvm.MethodName)) ∈ TB := tbm (tb_0 (List.mem_of_getElem? (i := 28) (by decide +kernel))) rfl
theorem w29 : (Jvm.Cond.selects "KinInTheHeap" ({ cls := "KinInTheHeap", name := "reached", desc := "(I)J" } : Jvm.MethodName) ({ cls := "KinInTheHeap", name := "reached", desc := "(I)J" } : Jvm.MethodName)) ∈ TB := tbm (tb_0 (List.mem_of_getElem? (i := 29) (by decide +kernel))) rfl
theorem w30 : (Jvm.Cond.selects "KinInTheHeap" ({ cls := "KinInTheHeap", name := "think", desc := "(I)V" } : Jvm.MethodName) ({ cls := "KinInTheHeap", name := "think", desc := "(I)V" } : Jvm.MethodName)) ∈ TB := tbm (tb_0 (List.mem_of_getElem? (i := 30) (by decide +kernel))) rfl
theorem w31 : (Jvm.Cond.selects "KinInTheHeap" ({ cls := "KinInTheHeap", name := "gathering", desc := "(I)I" } : Jvm.MethodName) ({ cls := "KinInTheHeap", name := "gathering", desc := "(I)I" } : Jvm.MethodName)) ∈ TB := tbm (tb_0 (List.mem_of_getElem? (i := 31) (by decide +kernel))) rfl
theorem w32 : (Jvm.Cond.selects "KinInTheHeap" ({ cls := "KinInTheHeap", name := "lastGathering", desc := "(I)I" } : Jvm.MethodName) ({ cls := "KinInTheHeap", name := "lastGathering", desc := "(I)I" } : Jvm.MethodName)) ∈ TB := tbm (tb_0 (List.mem_of_getElem? (i := 32) (by decide +kernel))) rfl
theorem w33 : (Jvm.Cond.selects "KinInTheHeap" ({ cls := "KinInTheHeap", name := "mostTogether", desc := "()I" } : Jvm.MethodName) ({ cls := "KinInTheHeap", name := "mostTogether", desc := "()I" } : Jvm.MethodName)) ∈ TB := tbm (tb_0 (List.mem_of_getElem? (i := 33) (by decide +kernel))) rfl
theorem w34 : (Jvm.Cond.selects "KinInTheHeap" ({ cls := "KinInTheHeap", name := "leastSpread", desc := "()I" } : Jvm.MethodName) ({ cls := "KinInTheHeap", name := "leastSpread", desc := "()I" } : Jvm.MethodName)) ∈ TB := tbm (tb_0 (List.mem_of_getElem? (i := 34) (by decide +kernel))) rfl
theorem w35 : (Jvm.Cond.selects "KinInTheHeap" ({ cls := "KinInTheHeap", name := "fewestLost", desc := "()I" } : Jvm.MethodName) ({ cls := "KinInTheHeap", name := "fewestLost", desc := "()I" } : Jvm.MethodName)) ∈ TB := tbm (tb_0 (List.mem_of_getElem? (i := 35) (by decide +kernel))) rfl
theorem w36 : (Jvm.Cond.selects "KinInTheHeap" ({ cls := "KinInTheHeap", name := "saving", desc := "(I)I" } : Jvm.MethodName) ({ cls := "KinInTheHeap", name := "saving", desc := "(I)I" } : Jvm.MethodName)) ∈ TB := tbm (tb_0 (List.mem_of_getElem? (i := 36) (by decide +kernel))) rfl
theorem w37 : (Jvm.Cond.selects "KinInTheHeap" ({ cls := "KinInTheHeap", name := "outWithCrack", desc := "(II)I" } : Jvm.MethodName) ({ cls := "KinInTheHeap", name := "outWithCrack", desc := "(II)I" } : Jvm.MethodName)) ∈ TB := tbm (tb_0 (List.mem_of_getElem? (i := 37) (by decide +kernel))) rfl
theorem w38 : (Jvm.Cond.selects "KinInTheHeap" ({ cls := "KinInTheHeap", name := "toldBack", desc := "(LKinInTheHeap$Sheet;II)I" } : Jvm.MethodName) ({ cls := "KinInTheHeap", name := "toldBack", desc := "(LKinInTheHeap$Sheet;II)I" } : Jvm.MethodName)) ∈ TB := tbm (tb_0 (List.mem_of_getElem? (i := 38) (by decide +kernel))) rfl
theorem w39 : (Jvm.Cond.selects "KinInTheHeap" ({ cls := "KinInTheHeap", name := "firstOtherwise", desc := "(LKinInTheHeap$Sheet;I)I" } : Jvm.MethodName) ({ cls := "KinInTheHeap", name := "firstOtherwise", desc := "(LKinInTheHeap$Sheet;I)I" } : Jvm.MethodName)) ∈ TB := tbm (tb_0 (List.mem_of_getElem? (i := 39) (by decide +kernel))) rfl
theorem w40 : (Jvm.Cond.selects "KinInTheHeap" ({ cls := "KinInTheHeap", name := "kindsTold", desc := "(LKinInTheHeap$Sheet;I)I" } : Jvm.MethodName) ({ cls := "KinInTheHeap", name := "kindsTold", desc := "(LKinInTheHeap$Sheet;I)I" } : Jvm.MethodName)) ∈ TB := tbm (tb_0 (List.mem_of_getElem? (i := 40) (by decide +kernel))) rfl
theorem w41 : (Jvm.Cond.selects "KinInTheHeap" ({ cls := "KinInTheHeap", name := "numbersTold", desc := "(LKinInTheHeap$Sheet;I)I" } : Jvm.MethodName) ({ cls := "KinInTheHeap", name := "numbersTold", desc := "(LKinInTheHeap$Sheet;I)I" } : Jvm.MethodName)) ∈ TB := tbm (tb_0 (List.mem_of_getElem? (i := 41) (by decide +kernel))) rfl
theorem w42 : (Jvm.Cond.selects "KinInTheHeap" ({ cls := "KinInTheHeap", name := "weeksTold", desc := "(LKinInTheHeap$Sheet;I)I" } : Jvm.MethodName) ({ cls := "KinInTheHeap", name := "weeksTold", desc := "(LKinInTheHeap$Sheet;I)I" } : Jvm.MethodName)) ∈ TB := tbm (tb_0 (List.mem_of_getElem? (i := 42) (by decide +kernel))) rfl
theorem w43 : (Jvm.Cond.selects "KinInTheHeap" ({ cls := "KinInTheHeap", name := "leastWeekTold", desc := "(LKinInTheHeap$Sheet;I)I" } : Jvm.MethodName) ({ cls := "KinInTheHeap", name := "leastWeekTold", desc := "(LKinInTheHeap$Sheet;I)I" } : Jvm.MethodName)) ∈ TB := tbm (tb_0 (List.mem_of_getElem? (i := 43) (by decide +kernel))) rfl
theorem w44 : (Jvm.Cond.selects "KinInTheHeap" ({ cls := "KinInTheHeap", name := "textsTold", desc := "(LKinInTheHeap$Sheet;I)I" } : Jvm.MethodName) ({ cls := "KinInTheHeap", name := "textsTold", desc := "(LKinInTheHeap$Sheet;I)I" } : Jvm.MethodName)) ∈ TB := tbm (tb_0 (List.mem_of_getElem? (i := 44) (by decide +kernel))) rfl
theorem w45 : (Jvm.Cond.selects "KinInTheHeap" ({ cls := "KinInTheHeap", name := "dustTold", desc := "(LKinInTheHeap$Sheet;)I" } : Jvm.MethodName) ({ cls := "KinInTheHeap", name := "dustTold", desc := "(LKinInTheHeap$Sheet;)I" } : Jvm.MethodName)) ∈ TB := tbm (tb_0 (List.mem_of_getElem? (i := 45) (by decide +kernel))) rfl
theorem w46 : (Jvm.Cond.selects "KinInTheHeap" ({ cls := "KinInTheHeap", name := "outByDrawn", desc := "(II)I" } : Jvm.MethodName) ({ cls := "KinInTheHeap", name := "outByDrawn", desc := "(II)I" } : Jvm.MethodName)) ∈ TB := tbm (tb_0 (List.mem_of_getElem? (i := 46) (by decide +kernel))) rfl
theorem w47 : (Jvm.Cond.selects "KinInTheHeap" ({ cls := "KinInTheHeap", name := "heapOf", desc := "(LKinInTheHeap$Sheet;II)I" } : Jvm.MethodName) ({ cls := "KinInTheHeap", name := "heapOf", desc := "(LKinInTheHeap$Sheet;II)I" } : Jvm.MethodName)) ∈ TB := tbm (tb_0 (List.mem_of_getElem? (i := 47) (by decide +kernel))) rfl
theorem w48 : (Jvm.Cond.selects "KinInTheHeapModel" ({ cls := "KinInTheHeapModel", name := "spell", desc := "(IIIIIIIII)V" } : Jvm.MethodName) ({ cls := "KinInTheHeapModel", name := "spell", desc := "(IIIIIIIII)V" } : Jvm.MethodName)) ∈ TB := tbm (tb_0 (List.mem_of_getElem? (i := 48) (by decide +kernel))) rfl
theorem w49 : (Jvm.Cond.selects "KinInTheHeapModel" ({ cls := "KinInTheHeapModel", name := "isOf", desc := "(II)Z" } : Jvm.MethodName) ({ cls := "KinInTheHeapModel", name := "isOf", desc := "(II)Z" } : Jvm.MethodName)) ∈ TB := tbm (tb_0 (List.mem_of_getElem? (i := 49) (by decide +kernel))) rfl
theorem w50 : (Jvm.Cond.selects "KinInTheHeapModel" ({ cls := "KinInTheHeapModel", name := "isOne", desc := "(I)Z" } : Jvm.MethodName) ({ cls := "KinInTheHeapModel", name := "isOne", desc := "(I)Z" } : Jvm.MethodName)) ∈ TB := tbm (tb_0 (List.mem_of_getElem? (i := 50) (by decide +kernel))) rfl
theorem w51 : (Jvm.Cond.selects "KinInTheHeapModel" ({ cls := "KinInTheHeapModel", name := "whoIn", desc := "(I)I" } : Jvm.MethodName) ({ cls := "KinInTheHeapModel", name := "whoIn", desc := "(I)I" } : Jvm.MethodName)) ∈ TB := tbm (tb_0 (List.mem_of_getElem? (i := 51) (by decide +kernel))) rfl
theorem w52 : (Jvm.Cond.selects "KinInTheHeapModel" ({ cls := "KinInTheHeapModel", name := "goesOf", desc := "(I)I" } : Jvm.MethodName) ({ cls := "KinInTheHeapModel", name := "goesOf", desc := "(I)I" } : Jvm.MethodName)) ∈ TB := tbm (tb_0 (List.mem_of_getElem? (i := 52) (by decide +kernel))) rfl
theorem w53 : (Jvm.Cond.selects "KinInTheHeapModel" ({ cls := "KinInTheHeapModel", name := "kinOf", desc := "(I)I" } : Jvm.MethodName) ({ cls := "KinInTheHeapModel", name := "kinOf", desc := "(I)I" } : Jvm.MethodName)) ∈ TB := tbm (tb_0 (List.mem_of_getElem? (i := 53) (by decide +kernel))) rfl
theorem w54 : (Jvm.Cond.selects "KinInTheHeapModel" ({ cls := "KinInTheHeapModel", name := "says", desc := "(II)I" } : Jvm.MethodName) ({ cls := "KinInTheHeapModel", name := "says", desc := "(II)I" } : Jvm.MethodName)) ∈ TB := tbm (tb_0 (List.mem_of_getElem? (i := 54) (by decide +kernel))) rfl
theorem w55 : (Jvm.Cond.selects "KinInTheHeapModel" ({ cls := "KinInTheHeapModel", name := "read", desc := "(II)I" } : Jvm.MethodName) ({ cls := "KinInTheHeapModel", name := "read", desc := "(II)I" } : Jvm.MethodName)) ∈ TB := tbm (tb_0 (List.mem_of_getElem? (i := 55) (by decide +kernel))) rfl
theorem w56 : (Jvm.Cond.selects "KinInTheHeapModel" ({ cls := "KinInTheHeapModel", name := "next", desc := "()V" } : Jvm.MethodName) ({ cls := "KinInTheHeapModel", name := "next", desc := "()V" } : Jvm.MethodName)) ∈ TB := tbm (tb_0 (List.mem_of_getElem? (i := 56) (by decide +kernel))) rfl
theorem w57 : (Jvm.Cond.selects "KinInTheHeapModel" ({ cls := "KinInTheHeapModel", name := "byteAt", desc := "(I)I" } : Jvm.MethodName) ({ cls := "KinInTheHeapModel", name := "byteAt", desc := "(I)I" } : Jvm.MethodName)) ∈ TB := tbm (tb_0 (List.mem_of_getElem? (i := 57) (by decide +kernel))) rfl
theorem w58 : (Jvm.Cond.selects "KinInTheHeapModel" ({ cls := "KinInTheHeapModel", name := "isWord", desc := "(IIIIIIII)Z" } : Jvm.MethodName) ({ cls := "KinInTheHeapModel", name := "isWord", desc := "(IIIIIIII)Z" } : Jvm.MethodName)) ∈ TB := tbm (tb_0 (List.mem_of_getElem? (i := 58) (by decide +kernel))) rfl
theorem w59 : (Jvm.Cond.selects "KinInTheHeapModel" ({ cls := "KinInTheHeapModel", name := "isLetter", desc := "(II)Z" } : Jvm.MethodName) ({ cls := "KinInTheHeapModel", name := "isLetter", desc := "(II)Z" } : Jvm.MethodName)) ∈ TB := tbm (tb_0 (List.mem_of_getElem? (i := 59) (by decide +kernel))) rfl
theorem w60 : (Jvm.Cond.selects "KinInTheHeapModel" ({ cls := "KinInTheHeapModel", name := "part", desc := "(Z)I" } : Jvm.MethodName) ({ cls := "KinInTheHeapModel", name := "part", desc := "(Z)I" } : Jvm.MethodName)) ∈ TB := tbm (tb_0 (List.mem_of_getElem? (i := 60) (by decide +kernel))) rfl
theorem w61 : (Jvm.Cond.selects "KinInTheHeapModel" ({ cls := "KinInTheHeapModel", name := "fail", desc := "()V" } : Jvm.MethodName) ({ cls := "KinInTheHeapModel", name := "fail", desc := "()V" } : Jvm.MethodName)) ∈ TB := tbm (tb_0 (List.mem_of_getElem? (i := 61) (by decide +kernel))) rfl
theorem w62 : (Jvm.Cond.selects "KinInTheHeapModel" ({ cls := "KinInTheHeapModel", name := "either", desc := "()I" } : Jvm.MethodName) ({ cls := "KinInTheHeapModel", name := "either", desc := "()I" } : Jvm.MethodName)) ∈ TB := tbm (tb_0 (List.mem_of_getElem? (i := 62) (by decide +kernel))) rfl
theorem w63 : (Jvm.Cond.selects "KinInTheHeapModel" ({ cls := "KinInTheHeapModel", name := "both", desc := "()I" } : Jvm.MethodName) ({ cls := "KinInTheHeapModel", name := "both", desc := "()I" } : Jvm.MethodName)) ∈ TB := tbm (tb_0 (List.mem_of_getElem? (i := 63) (by decide +kernel))) rfl
theorem w64 : (Jvm.Cond.selects "KinInTheHeapModel" ({ cls := "KinInTheHeapModel", name := "not", desc := "()I" } : Jvm.MethodName) ({ cls := "KinInTheHeapModel", name := "not", desc := "()I" } : Jvm.MethodName)) ∈ TB := tbm (tb_0 (List.mem_of_getElem? (i := 64) (by decide +kernel))) rfl
theorem w65 : (Jvm.Cond.selects "KinInTheHeapModel" ({ cls := "KinInTheHeapModel", name := "opens", desc := "()Z" } : Jvm.MethodName) ({ cls := "KinInTheHeapModel", name := "opens", desc := "()Z" } : Jvm.MethodName)) ∈ TB := tbm (tb_0 (List.mem_of_getElem? (i := 65) (by decide +kernel))) rfl
theorem w66 : (Jvm.Cond.selects "KinInTheHeapModel" ({ cls := "KinInTheHeapModel", name := "added", desc := "()I" } : Jvm.MethodName) ({ cls := "KinInTheHeapModel", name := "added", desc := "()I" } : Jvm.MethodName)) ∈ TB := tbm (tb_0 (List.mem_of_getElem? (i := 66) (by decide +kernel))) rfl
theorem w67 : (Jvm.Cond.selects "KinInTheHeapModel" ({ cls := "KinInTheHeapModel", name := "term", desc := "()I" } : Jvm.MethodName) ({ cls := "KinInTheHeapModel", name := "term", desc := "()I" } : Jvm.MethodName)) ∈ TB := tbm (tb_0 (List.mem_of_getElem? (i := 67) (by decide +kernel))) rfl
theorem w68 : (Jvm.Cond.selects "KinInTheHeapModel" ({ cls := "KinInTheHeapModel", name := "atom", desc := "()I" } : Jvm.MethodName) ({ cls := "KinInTheHeapModel", name := "atom", desc := "()I" } : Jvm.MethodName)) ∈ TB := tbm (tb_0 (List.mem_of_getElem? (i := 68) (by decide +kernel))) rfl
theorem w69 : (Jvm.Cond.selects "KinInTheHeapModel" ({ cls := "KinInTheHeapModel", name := "isSign", desc := "(I)Z" } : Jvm.MethodName) ({ cls := "KinInTheHeapModel", name := "isSign", desc := "(I)Z" } : Jvm.MethodName)) ∈ TB := tbm (tb_0 (List.mem_of_getElem? (i := 69) (by decide +kernel))) rfl
theorem w70 : (Jvm.Cond.selects "KinInTheHeapModel" ({ cls := "KinInTheHeapModel", name := "name", desc := "()I" } : Jvm.MethodName) ({ cls := "KinInTheHeapModel", name := "name", desc := "()I" } : Jvm.MethodName)) ∈ TB := tbm (tb_0 (List.mem_of_getElem? (i := 70) (by decide +kernel))) rfl
theorem w71 : (Jvm.Cond.selects "KinInTheHeapModel" ({ cls := "KinInTheHeapModel", name := "isLoose", desc := "(I)Z" } : Jvm.MethodName) ({ cls := "KinInTheHeapModel", name := "isLoose", desc := "(I)Z" } : Jvm.MethodName)) ∈ TB := tbm (tb_0 (List.mem_of_getElem? (i := 71) (by decide +kernel))) rfl
theorem w72 : (Jvm.Cond.selects "KinInTheHeapModel" ({ cls := "KinInTheHeapModel", name := "blownOf", desc := "(I)I" } : Jvm.MethodName) ({ cls := "KinInTheHeapModel", name := "blownOf", desc := "(I)I" } : Jvm.MethodName)) ∈ TB := tbm (tb_0 (List.mem_of_getElem? (i := 72) (by decide +kernel))) rfl
theorem w73 : (Jvm.Cond.selects "KinInTheHeapModel" ({ cls := "KinInTheHeapModel", name := "lays", desc := "(III)V" } : Jvm.MethodName) ({ cls := "KinInTheHeapModel", name := "lays", desc := "(III)V" } : Jvm.MethodName)) ∈ TB := tbm (tb_0 (List.mem_of_getElem? (i := 73) (by decide +kernel))) rfl
theorem w74 : (Jvm.Cond.selects "KinInTheHeapModel" ({ cls := "KinInTheHeapModel", name := "strokes", desc := "(I)I" } : Jvm.MethodName) ({ cls := "KinInTheHeapModel", name := "strokes", desc := "(I)I" } : Jvm.MethodName)) ∈ TB := tbm (tb_0 (List.mem_of_getElem? (i := 74) (by decide +kernel))) rfl
theorem w75 : (Jvm.Cond.selects "KinInTheHeapModel" ({ cls := "KinInTheHeapModel", name := "isMovable", desc := "(I)Z" } : Jvm.MethodName) ({ cls := "KinInTheHeapModel", name := "isMovable", desc := "(I)Z" } : Jvm.MethodName)) ∈ TB := tbm (tb_0 (List.mem_of_getElem? (i := 75) (by decide +kernel))) rfl
theorem w76 : (Jvm.Cond.selects "KinInTheHeapModel" ({ cls := "KinInTheHeapModel", name := "swept", desc := "(III)I" } : Jvm.MethodName) ({ cls := "KinInTheHeapModel", name := "swept", desc := "(III)I" } : Jvm.MethodName)) ∈ TB := tbm (tb_0 (List.mem_of_getElem? (i := 76) (by decide +kernel))) rfl
theorem w77 : (Jvm.Cond.selects "KinInTheHeapModel" ({ cls := "KinInTheHeapModel", name := "lays1", desc := "()I" } : Jvm.MethodName) ({ cls := "KinInTheHeapModel", name := "lays1", desc := "()I" } : Jvm.MethodName)) ∈ TB := tbm (tb_0 (List.mem_of_getElem? (i := 77) (by decide +kernel))) rfl
theorem w78 : (Jvm.Cond.selects "KinInTheHeapModel" ({ cls := "KinInTheHeapModel", name := "passes", desc := "()I" } : Jvm.MethodName) ({ cls := "KinInTheHeapModel", name := "passes", desc := "()I" } : Jvm.MethodName)) ∈ TB := tbm (tb_0 (List.mem_of_getElem? (i := 78) (by decide +kernel))) rfl
theorem w79 : (Jvm.Cond.selects "KinInTheHeapModel" ({ cls := "KinInTheHeapModel", name := "sweepBad", desc := "(I)I" } : Jvm.MethodName) ({ cls := "KinInTheHeapModel", name := "sweepBad", desc := "(I)I" } : Jvm.MethodName)) ∈ TB := tbm (tb_0 (List.mem_of_getElem? (i := 79) (by decide +kernel))) rfl
theorem w80 : (Jvm.Cond.selects "KinInTheHeapModel" ({ cls := "KinInTheHeapModel", name := "laysAside", desc := "()V" } : Jvm.MethodName) ({ cls := "KinInTheHeapModel", name := "laysAside", desc := "()V" } : Jvm.MethodName)) ∈ TB := tbm (tb_0 (List.mem_of_getElem? (i := 80) (by decide +kernel))) rfl
theorem w81 : (Jvm.Cond.selects "KinInTheHeapModel" ({ cls := "KinInTheHeapModel", name := "sweptBy", desc := "(I)I" } : Jvm.MethodName) ({ cls := "KinInTheHeapModel", name := "sweptBy", desc := "(I)I" } : Jvm.MethodName)) ∈ TB := tbm (tb_0 (List.mem_of_getElem? (i := 81) (by decide +kernel))) rfl
theorem w82 : (Jvm.Cond.selects "KinInTheHeapModel" ({ cls := "KinInTheHeapModel", name := "togethers", desc := "()I" } : Jvm.MethodName) ({ cls := "KinInTheHeapModel", name := "togethers", desc := "()I" } : Jvm.MethodName)) ∈ TB := tbm (tb_0 (List.mem_of_getElem? (i := 82) (by decide +kernel))) rfl
theorem w83 : (Jvm.Cond.selects "KinInTheHeapModel" ({ cls := "KinInTheHeapModel", name := "heaps", desc := "()I" } : Jvm.MethodName) ({ cls := "KinInTheHeapModel", name := "heaps", desc := "()I" } : Jvm.MethodName)) ∈ TB := tbm (tb_0 (List.mem_of_getElem? (i := 83) (by decide +kernel))) rfl
theorem w84 : (Jvm.Cond.selects "KinInTheHeapModel" ({ cls := "KinInTheHeapModel", name := "spread", desc := "()I" } : Jvm.MethodName) ({ cls := "KinInTheHeapModel", name := "spread", desc := "()I" } : Jvm.MethodName)) ∈ TB := tbm (tb_0 (List.mem_of_getElem? (i := 84) (by decide +kernel))) rfl
theorem w85 : (Jvm.Cond.selects "KinInTheHeapModel" ({ cls := "KinInTheHeapModel", name := "laysBack", desc := "()V" } : Jvm.MethodName) ({ cls := "KinInTheHeapModel", name := "laysBack", desc := "()V" } : Jvm.MethodName)) ∈ TB := tbm (tb_0 (List.mem_of_getElem? (i := 85) (by decide +kernel))) rfl
theorem w86 : (Jvm.Cond.selects "KinInTheHeapModel" ({ cls := "KinInTheHeapModel", name := "greatest", desc := "()I" } : Jvm.MethodName) ({ cls := "KinInTheHeapModel", name := "greatest", desc := "()I" } : Jvm.MethodName)) ∈ TB := tbm (tb_0 (List.mem_of_getElem? (i := 86) (by decide +kernel))) rfl
theorem w87 : (Jvm.Cond.selects "KinInTheHeapModel" ({ cls := "KinInTheHeapModel", name := "comes", desc := "(I)J" } : Jvm.MethodName) ({ cls := "KinInTheHeapModel", name := "comes", desc := "(I)J" } : Jvm.MethodName)) ∈ TB := tbm (tb_0 (List.mem_of_getElem? (i := 87) (by decide +kernel))) rfl
theorem w88 : (Jvm.Cond.selects "KinInTheHeapModel" ({ cls := "KinInTheHeapModel", name := "gathered", desc := "(I)I" } : Jvm.MethodName) ({ cls := "KinInTheHeapModel", name := "gathered", desc := "(I)I" } : Jvm.MethodName)) ∈ TB := tbm (tb_0 (List.mem_of_getElem? (i := 88) (by decide +kernel))) rfl
theorem w89 : (Jvm.Cond.selects "KinInTheHeapModel" ({ cls := "KinInTheHeapModel", name := "areTogether", desc := "(I)Z" } : Jvm.MethodName) ({ cls := "KinInTheHeapModel", name := "areTogether", desc := "(I)Z" } : Jvm.MethodName)) ∈ TB := tbm (tb_0 (List.mem_of_getElem? (i := 89) (by decide +kernel))) rfl
theorem w90 : (Jvm.Cond.selects "KinInTheHeapModel" ({ cls := "KinInTheHeapModel", name := "bestBy", desc := "(I)I" } : Jvm.MethodName) ({ cls := "KinInTheHeapModel", name := "bestBy", desc := "(I)I" } : Jvm.MethodName)) ∈ TB := tbm (tb_0 (List.mem_of_getElem? (i := 90) (by decide +kernel))) rfl
theorem w91 : (Jvm.Cond.selects "KinInTheHeapModel" ({ cls := "KinInTheHeapModel", name := "lostFirst", desc := "(I)I" } : Jvm.MethodName) ({ cls := "KinInTheHeapModel", name := "lostFirst", desc := "(I)I" } : Jvm.MethodName)) ∈ TB := tbm (tb_0 (List.mem_of_getElem? (i := 91) (by decide +kernel))) rfl
theorem w92 : (Jvm.Cond.selects "KinInTheHeapModel" ({ cls := "KinInTheHeapModel", name := "outMany", desc := "()I" } : Jvm.MethodName) ({ cls := "KinInTheHeapModel", name := "outMany", desc := "()I" } : Jvm.MethodName)) ∈ TB := tbm (tb_0 (List.mem_of_getElem? (i := 92) (by decide +kernel))) rfl
theorem w93 : (Jvm.Cond.selects "KinInTheHeapModel" ({ cls := "KinInTheHeapModel", name := "outBy", desc := "(I)I" } : Jvm.MethodName) ({ cls := "KinInTheHeapModel", name := "outBy", desc := "(I)I" } : Jvm.MethodName)) ∈ TB := tbm (tb_0 (List.mem_of_getElem? (i := 93) (by decide +kernel))) rfl
theorem w94 : (Jvm.Cond.selects "KinInTheHeapModel" ({ cls := "KinInTheHeapModel", name := "firstOther", desc := "(II)I" } : Jvm.MethodName) ({ cls := "KinInTheHeapModel", name := "firstOther", desc := "(II)I" } : Jvm.MethodName)) ∈ TB := tbm (tb_0 (List.mem_of_getElem? (i := 94) (by decide +kernel))) rfl
theorem w95 : (Jvm.Cond.selects "KinInTheHeapModel" ({ cls := "KinInTheHeapModel", name := "likeSet", desc := "(I)I" } : Jvm.MethodName) ({ cls := "KinInTheHeapModel", name := "likeSet", desc := "(I)I" } : Jvm.MethodName)) ∈ TB := tbm (tb_0 (List.mem_of_getElem? (i := 95) (by decide +kernel))) rfl
theorem w96 : (Jvm.Cond.selects "KinInTheHeapModel" ({ cls := "KinInTheHeapModel", name := "outDrawn", desc := "(II)I" } : Jvm.MethodName) ({ cls := "KinInTheHeapModel", name := "outDrawn", desc := "(II)I" } : Jvm.MethodName)) ∈ TB := tbm (tb_0 (List.mem_of_getElem? (i := 96) (by decide +kernel))) rfl
theorem w97 : (Jvm.Cond.initialized "KinInTheHeapLaw") ∈ TB := tbm (tb_1 (List.mem_of_getElem? (i := 0) rfl)) rfl
theorem w98 : (Jvm.Cond.initialized "KinInTheHeap") ∈ TB := tbm (tb_1 (List.mem_of_getElem? (i := 1) rfl)) rfl
theorem w99 : (Jvm.Cond.initialized "KinInTheHeap$Reader") ∈ TB := tbm (tb_1 (List.mem_of_getElem? (i := 2) rfl)) rfl
theorem w100 : (Jvm.Cond.initialized "KinInTheHeap$Text") ∈ TB := tbm (tb_1 (List.mem_of_getElem? (i := 3) rfl)) rfl
theorem w101 : (Jvm.Cond.initialized "KinInTheHeap$Sheet") ∈ TB := tbm (tb_1 (List.mem_of_getElem? (i := 4) rfl)) rfl
theorem w102 : (Jvm.Cond.initialized "KinInTheHeap$Floor") ∈ TB := tbm (tb_1 (List.mem_of_getElem? (i := 5) rfl)) rfl
theorem w103 : (Jvm.Cond.initialized "KinInTheHeapModel") ∈ TB := tbm (tb_1 (List.mem_of_getElem? (i := 6) rfl)) rfl
theorem w104 : (Jvm.Cond.initialized "java/lang/Math") ∈ TB := tbm (tb_1 (List.mem_of_getElem? (i := 7) rfl)) rfl
theorem w105 : (Jvm.Cond.initialized "java/lang/String") ∈ TB := tbm (tb_1 (List.mem_of_getElem? (i := 8) rfl)) rfl
theorem w106 : (Jvm.Cond.initialized "java/lang/StringLatin1") ∈ TB := tbm (tb_1 (List.mem_of_getElem? (i := 9) rfl)) rfl
theorem w107 : (Jvm.Cond.initialized "jdk/internal/util/Preconditions") ∈ TB := tbm (tb_1 (List.mem_of_getElem? (i := 10) rfl)) rfl
theorem w110 : (Jvm.Cond.initialized "java/lang/System") ∈ TB := tbm (tb_1 (List.mem_of_getElem? (i := 13) rfl)) rfl
theorem w111 : (Jvm.Cond.initialized "java/lang/Long") ∈ TB := tbm (tb_1 (List.mem_of_getElem? (i := 14) rfl)) rfl
theorem w112 : (Jvm.Cond.initialized "java/lang/Integer") ∈ TB := tbm (tb_1 (List.mem_of_getElem? (i := 15) rfl)) rfl
theorem w113 : (Jvm.Cond.classLink "KinInTheHeapLaw" (7 : Nat) "KinInTheHeap") ∈ TB := tbm (tb_1 (List.mem_of_getElem? (i := 16) rfl)) rfl
theorem w114 : (Jvm.Cond.instantiable "KinInTheHeap" (9 : Nat)) ∈ TB := tbm (tb_1 (List.mem_of_getElem? (i := 17) rfl)) rfl
theorem w115 : (Jvm.Cond.methodLink "KinInTheHeapLaw" (9 : Nat) ({ cls := "KinInTheHeap", name := "<init>", desc := "()V" } : Jvm.MethodName)) ∈ TB := tbm (tb_1 (List.mem_of_getElem? (i := 18) rfl)) rfl
theorem w116 : (Jvm.Cond.instanceMethod ({ cls := "KinInTheHeap", name := "<init>", desc := "()V" } : Jvm.MethodName)) ∈ TB := tbm (tb_1 (List.mem_of_getElem? (i := 19) rfl)) rfl
theorem w117 : (Jvm.Cond.code ({ cls := "KinInTheHeap", name := "<init>", desc := "()V" } : Jvm.MethodName) prog_1_method_1_code (2 : Nat) (Option.none : Option Jvm.ClassFile.FieldType)) ∈ TB := tbm (tb_1 (List.mem_of_getElem? (i := 20) rfl)) rfl
theorem w118 : (Jvm.Cond.methodLink "KinInTheHeap" (3 : Nat) ({ cls := "java/lang/Object", name := "<init>", desc := "()V" } : Jvm.MethodName)) ∈ TB := tbm (tb_1 (List.mem_of_getElem? (i := 21) rfl)) rfl
theorem w119 : (Jvm.Cond.instanceMethod ({ cls := "java/lang/Object", name := "<init>", desc := "()V" } : Jvm.MethodName)) ∈ TB := tbm (tb_1 (List.mem_of_getElem? (i := 22) rfl)) rfl
theorem w120 : (Jvm.Cond.code ({ cls := "java/lang/Object", name := "<init>", desc := "()V" } : Jvm.MethodName) object_method_1_code (1 : Nat) (Option.none : Option Jvm.ClassFile.FieldType)) ∈ TB := tbm (tb_1 (List.mem_of_getElem? (i := 23) rfl)) rfl
theorem w121 : (Jvm.Cond.classLink "KinInTheHeap" (9 : Nat) "KinInTheHeap$Text") ∈ TB := tbm (tb_1 (List.mem_of_getElem? (i := 24) rfl)) rfl
theorem w123 : (Jvm.Cond.classLink "KinInTheHeap" (15 : Nat) "KinInTheHeap$Sheet") ∈ TB := tbm (tb_1 (List.mem_of_getElem? (i := 26) rfl)) rfl
theorem w125 : (Jvm.Cond.classLink "KinInTheHeap" (21 : Nat) "KinInTheHeap$Reader") ∈ TB := tbm (tb_1 (List.mem_of_getElem? (i := 28) rfl)) rfl
theorem w126 : (Jvm.Cond.instantiable "KinInTheHeap$Reader" (9 : Nat)) ∈ TB := tbm (tb_1 (List.mem_of_getElem? (i := 29) rfl)) rfl
theorem w128 : (Jvm.Cond.instanceMethod ({ cls := "KinInTheHeap$Reader", name := "<init>", desc := "()V" } : Jvm.MethodName)) ∈ TB := tbm (tb_1 (List.mem_of_getElem? (i := 31) rfl)) rfl
theorem w129 : (Jvm.Cond.code ({ cls := "KinInTheHeap$Reader", name := "<init>", desc := "()V" } : Jvm.MethodName) prog_3_method_1_code (1 : Nat) (Option.none : Option Jvm.ClassFile.FieldType)) ∈ TB := tbm (tb_1 (List.mem_of_getElem? (i := 32) rfl)) rfl
theorem w130 : (Jvm.Cond.methodLink "KinInTheHeap$Reader" (3 : Nat) ({ cls := "java/lang/Object", name := "<init>", desc := "()V" } : Jvm.MethodName)) ∈ TB := tbm (tb_1 (List.mem_of_getElem? (i := 33) rfl)) rfl
theorem w131 : (Jvm.Cond.fieldLink "KinInTheHeap$Reader" (24 : Nat) "KinInTheHeap$Reader" "size" "I") ∈ TB := tbm (tb_1 (List.mem_of_getElem? (i := 34) rfl)) rfl
theorem w132 : (Jvm.Cond.fieldLink "KinInTheHeap" (107 : Nat) "KinInTheHeap$Reader" "size" "I") ∈ TB := tbm (tb_1 (List.mem_of_getElem? (i := 35) rfl)) rfl
theorem w133 : (Jvm.Cond.fieldLink "KinInTheHeap$Reader" (9 : Nat) "KinInTheHeap$Reader" "letters" "[I") ∈ TB := tbm (tb_1 (List.mem_of_getElem? (i := 36) rfl)) rfl
theorem w134 : (Jvm.Cond.fieldLink "KinInTheHeap$Reader" (15 : Nat) "KinInTheHeap$Reader" "tokens" "[I") ∈ TB := tbm (tb_1 (List.mem_of_getElem? (i := 37) rfl)) rfl
theorem w135 : (Jvm.Cond.fieldLink "KinInTheHeap$Reader" (18 : Nat) "KinInTheHeap$Reader" "starts" "[I") ∈ TB := tbm (tb_1 (List.mem_of_getElem? (i := 38) rfl)) rfl
theorem w136 : (Jvm.Cond.fieldLink "KinInTheHeap$Reader" (21 : Nat) "KinInTheHeap$Reader" "waiting" "[I") ∈ TB := tbm (tb_1 (List.mem_of_getElem? (i := 39) rfl)) rfl
theorem w137 : (Jvm.Cond.fieldLink "KinInTheHeap$Reader" (51 : Nat) "KinInTheHeap$Reader" "tokenCount" "I") ∈ TB := tbm (tb_1 (List.mem_of_getElem? (i := 40) rfl)) rfl
theorem w138 : (Jvm.Cond.fieldLink "KinInTheHeap$Reader" (36 : Nat) "KinInTheHeap$Reader" "at" "I") ∈ TB := tbm (tb_1 (List.mem_of_getElem? (i := 41) rfl)) rfl
theorem w139 : (Jvm.Cond.fieldLink "KinInTheHeap$Reader" (128 : Nat) "KinInTheHeap$Reader" "waits" "I") ∈ TB := tbm (tb_1 (List.mem_of_getElem? (i := 42) rfl)) rfl
theorem w140 : (Jvm.Cond.fieldLink "KinInTheHeap$Reader" (131 : Nat) "KinInTheHeap$Reader" "open" "I") ∈ TB := tbm (tb_1 (List.mem_of_getElem? (i := 43) rfl)) rfl
theorem w141 : (Jvm.Cond.lays "KinInTheHeap$Reader" "KinInTheHeap$Reader" "size" "I") ∈ TB := tbm (tb_1 (List.mem_of_getElem? (i := 44) rfl)) rfl
theorem w142 : (Jvm.Cond.soleField "KinInTheHeap$Reader" "size") ∈ TB := tbm (tb_1 (List.mem_of_getElem? (i := 45) rfl)) rfl
theorem w143 : (Jvm.Cond.laysFinal "KinInTheHeap$Reader" "KinInTheHeap$Reader" "letters" "[I") ∈ TB := tbm (tb_1 (List.mem_of_getElem? (i := 46) rfl)) rfl
theorem w144 : (Jvm.Cond.soleField "KinInTheHeap$Reader" "letters") ∈ TB := tbm (tb_1 (List.mem_of_getElem? (i := 47) rfl)) rfl
theorem w145 : (Jvm.Cond.laysFinal "KinInTheHeap$Reader" "KinInTheHeap$Reader" "tokens" "[I") ∈ TB := tbm (tb_1 (List.mem_of_getElem? (i := 48) rfl)) rfl
theorem w146 : (Jvm.Cond.soleField "KinInTheHeap$Reader" "tokens") ∈ TB := tbm (tb_1 (List.mem_of_getElem? (i := 49) rfl)) rfl
theorem w147 : (Jvm.Cond.laysFinal "KinInTheHeap$Reader" "KinInTheHeap$Reader" "starts" "[I") ∈ TB := tbm (tb_1 (List.mem_of_getElem? (i := 50) rfl)) rfl
theorem w148 : (Jvm.Cond.soleField "KinInTheHeap$Reader" "starts") ∈ TB := tbm (tb_1 (List.mem_of_getElem? (i := 51) rfl)) rfl
theorem w149 : (Jvm.Cond.laysFinal "KinInTheHeap$Reader" "KinInTheHeap$Reader" "waiting" "[I") ∈ TB := tbm (tb_1 (List.mem_of_getElem? (i := 52) rfl)) rfl
theorem w150 : (Jvm.Cond.soleField "KinInTheHeap$Reader" "waiting") ∈ TB := tbm (tb_1 (List.mem_of_getElem? (i := 53) rfl)) rfl
theorem w151 : (Jvm.Cond.lays "KinInTheHeap$Reader" "KinInTheHeap$Reader" "tokenCount" "I") ∈ TB := tbm (tb_1 (List.mem_of_getElem? (i := 54) rfl)) rfl
theorem w152 : (Jvm.Cond.soleField "KinInTheHeap$Reader" "tokenCount") ∈ TB := tbm (tb_1 (List.mem_of_getElem? (i := 55) rfl)) rfl
theorem w153 : (Jvm.Cond.lays "KinInTheHeap$Reader" "KinInTheHeap$Reader" "at" "I") ∈ TB := tbm (tb_1 (List.mem_of_getElem? (i := 56) rfl)) rfl
theorem w154 : (Jvm.Cond.soleField "KinInTheHeap$Reader" "at") ∈ TB := tbm (tb_1 (List.mem_of_getElem? (i := 57) rfl)) rfl
theorem w155 : (Jvm.Cond.lays "KinInTheHeap$Reader" "KinInTheHeap$Reader" "waits" "I") ∈ TB := tbm (tb_1 (List.mem_of_getElem? (i := 58) rfl)) rfl
theorem w156 : (Jvm.Cond.soleField "KinInTheHeap$Reader" "waits") ∈ TB := tbm (tb_1 (List.mem_of_getElem? (i := 59) rfl)) rfl
theorem w157 : (Jvm.Cond.lays "KinInTheHeap$Reader" "KinInTheHeap$Reader" "open" "I") ∈ TB := tbm (tb_1 (List.mem_of_getElem? (i := 60) rfl)) rfl
theorem w158 : (Jvm.Cond.soleField "KinInTheHeap$Reader" "open") ∈ TB := tbm (tb_1 (List.mem_of_getElem? (i := 61) rfl)) rfl
theorem w160 : (Jvm.Cond.arrayClass Jvm.ClassFile.FieldType.int) ∈ TB := tbm (tb_1 (List.mem_of_getElem? (i := 63) rfl)) rfl
theorem w161 : (Jvm.Cond.instantiable "KinInTheHeap$Text" (5 : Nat)) ∈ TB := tbm (tb_1 (List.mem_of_getElem? (i := 64) rfl)) rfl
theorem w163 : (Jvm.Cond.instanceMethod ({ cls := "KinInTheHeap$Text", name := "<init>", desc := "()V" } : Jvm.MethodName)) ∈ TB := tbm (tb_1 (List.mem_of_getElem? (i := 66) rfl)) rfl
theorem w164 : (Jvm.Cond.code ({ cls := "KinInTheHeap$Text", name := "<init>", desc := "()V" } : Jvm.MethodName) prog_5_method_1_code (1 : Nat) (Option.none : Option Jvm.ClassFile.FieldType)) ∈ TB := tbm (tb_1 (List.mem_of_getElem? (i := 67) rfl)) rfl
theorem w165 : (Jvm.Cond.methodLink "KinInTheHeap$Text" (3 : Nat) ({ cls := "java/lang/Object", name := "<init>", desc := "()V" } : Jvm.MethodName)) ∈ TB := tbm (tb_1 (List.mem_of_getElem? (i := 68) rfl)) rfl
theorem w166 : (Jvm.Cond.fieldLink "KinInTheHeap$Text" (9 : Nat) "KinInTheHeap$Text" "codes" "[I") ∈ TB := tbm (tb_1 (List.mem_of_getElem? (i := 69) rfl)) rfl
theorem w167 : (Jvm.Cond.fieldLink "KinInTheHeap$Text" (15 : Nat) "KinInTheHeap$Text" "ends" "[I") ∈ TB := tbm (tb_1 (List.mem_of_getElem? (i := 70) rfl)) rfl
theorem w168 : (Jvm.Cond.fieldLink "KinInTheHeap$Text" (18 : Nat) "KinInTheHeap$Text" "stack" "[I") ∈ TB := tbm (tb_1 (List.mem_of_getElem? (i := 71) rfl)) rfl
theorem w169 : (Jvm.Cond.fieldLink "KinInTheHeap$Text" (21 : Nat) "KinInTheHeap$Text" "size" "I") ∈ TB := tbm (tb_1 (List.mem_of_getElem? (i := 72) rfl)) rfl
theorem w170 : (Jvm.Cond.fieldLink "KinInTheHeap$Text" (25 : Nat) "KinInTheHeap$Text" "parts" "I") ∈ TB := tbm (tb_1 (List.mem_of_getElem? (i := 73) rfl)) rfl
theorem w171 : (Jvm.Cond.laysFinal "KinInTheHeap$Text" "KinInTheHeap$Text" "codes" "[I") ∈ TB := tbm (tb_1 (List.mem_of_getElem? (i := 74) rfl)) rfl
theorem w172 : (Jvm.Cond.soleField "KinInTheHeap$Text" "codes") ∈ TB := tbm (tb_1 (List.mem_of_getElem? (i := 75) rfl)) rfl
theorem w173 : (Jvm.Cond.laysFinal "KinInTheHeap$Text" "KinInTheHeap$Text" "ends" "[I") ∈ TB := tbm (tb_1 (List.mem_of_getElem? (i := 76) rfl)) rfl
theorem w174 : (Jvm.Cond.soleField "KinInTheHeap$Text" "ends") ∈ TB := tbm (tb_1 (List.mem_of_getElem? (i := 77) rfl)) rfl
theorem w175 : (Jvm.Cond.laysFinal "KinInTheHeap$Text" "KinInTheHeap$Text" "stack" "[I") ∈ TB := tbm (tb_1 (List.mem_of_getElem? (i := 78) rfl)) rfl
theorem w176 : (Jvm.Cond.soleField "KinInTheHeap$Text" "stack") ∈ TB := tbm (tb_1 (List.mem_of_getElem? (i := 79) rfl)) rfl
theorem w177 : (Jvm.Cond.lays "KinInTheHeap$Text" "KinInTheHeap$Text" "size" "I") ∈ TB := tbm (tb_1 (List.mem_of_getElem? (i := 80) rfl)) rfl
theorem w178 : (Jvm.Cond.soleField "KinInTheHeap$Text" "size") ∈ TB := tbm (tb_1 (List.mem_of_getElem? (i := 81) rfl)) rfl
theorem w179 : (Jvm.Cond.lays "KinInTheHeap$Text" "KinInTheHeap$Text" "parts" "I") ∈ TB := tbm (tb_1 (List.mem_of_getElem? (i := 82) rfl)) rfl
theorem w180 : (Jvm.Cond.soleField "KinInTheHeap$Text" "parts") ∈ TB := tbm (tb_1 (List.mem_of_getElem? (i := 83) rfl)) rfl
theorem w182 : (Jvm.Cond.instantiable "KinInTheHeap$Sheet" (3 : Nat)) ∈ TB := tbm (tb_1 (List.mem_of_getElem? (i := 85) rfl)) rfl
theorem w184 : (Jvm.Cond.instanceMethod ({ cls := "KinInTheHeap$Sheet", name := "<init>", desc := "()V" } : Jvm.MethodName)) ∈ TB := tbm (tb_1 (List.mem_of_getElem? (i := 87) rfl)) rfl
theorem w185 : (Jvm.Cond.code ({ cls := "KinInTheHeap$Sheet", name := "<init>", desc := "()V" } : Jvm.MethodName) prog_4_method_1_code (1 : Nat) (Option.none : Option Jvm.ClassFile.FieldType)) ∈ TB := tbm (tb_1 (List.mem_of_getElem? (i := 88) rfl)) rfl
theorem w186 : (Jvm.Cond.methodLink "KinInTheHeap$Sheet" (3 : Nat) ({ cls := "java/lang/Object", name := "<init>", desc := "()V" } : Jvm.MethodName)) ∈ TB := tbm (tb_1 (List.mem_of_getElem? (i := 89) rfl)) rfl
theorem w187 : (Jvm.Cond.fieldLink "KinInTheHeap$Sheet" (9 : Nat) "KinInTheHeap$Sheet" "items" "[I") ∈ TB := tbm (tb_1 (List.mem_of_getElem? (i := 90) rfl)) rfl
theorem w188 : (Jvm.Cond.fieldLink "KinInTheHeap" (262 : Nat) "KinInTheHeap$Sheet" "items" "[I") ∈ TB := tbm (tb_1 (List.mem_of_getElem? (i := 91) rfl)) rfl
theorem w189 : (Jvm.Cond.fieldLink "KinInTheHeap$Sheet" (15 : Nat) "KinInTheHeap$Sheet" "sort" "I") ∈ TB := tbm (tb_1 (List.mem_of_getElem? (i := 92) rfl)) rfl
theorem w190 : (Jvm.Cond.fieldLink "KinInTheHeap" (256 : Nat) "KinInTheHeap$Sheet" "sort" "I") ∈ TB := tbm (tb_1 (List.mem_of_getElem? (i := 93) rfl)) rfl
theorem w191 : (Jvm.Cond.fieldLink "KinInTheHeap$Sheet" (28 : Nat) "KinInTheHeap$Sheet" "size" "I") ∈ TB := tbm (tb_1 (List.mem_of_getElem? (i := 94) rfl)) rfl
theorem w192 : (Jvm.Cond.fieldLink "KinInTheHeap" (297 : Nat) "KinInTheHeap$Sheet" "size" "I") ∈ TB := tbm (tb_1 (List.mem_of_getElem? (i := 95) rfl)) rfl
theorem w193 : (Jvm.Cond.laysFinal "KinInTheHeap$Sheet" "KinInTheHeap$Sheet" "items" "[I") ∈ TB := tbm (tb_1 (List.mem_of_getElem? (i := 96) rfl)) rfl
theorem w194 : (Jvm.Cond.soleField "KinInTheHeap$Sheet" "items") ∈ TB := tbm (tb_1 (List.mem_of_getElem? (i := 97) rfl)) rfl
theorem w195 : (Jvm.Cond.lays "KinInTheHeap$Sheet" "KinInTheHeap$Sheet" "sort" "I") ∈ TB := tbm (tb_1 (List.mem_of_getElem? (i := 98) rfl)) rfl
theorem w196 : (Jvm.Cond.soleField "KinInTheHeap$Sheet" "sort") ∈ TB := tbm (tb_1 (List.mem_of_getElem? (i := 99) rfl)) rfl
theorem w197 : (Jvm.Cond.lays "KinInTheHeap$Sheet" "KinInTheHeap$Sheet" "size" "I") ∈ TB := tbm (tb_1 (List.mem_of_getElem? (i := 100) rfl)) rfl
theorem w198 : (Jvm.Cond.soleField "KinInTheHeap$Sheet" "size") ∈ TB := tbm (tb_1 (List.mem_of_getElem? (i := 101) rfl)) rfl
theorem w200 : (Jvm.Cond.methodLink "KinInTheHeap" (30 : Nat) ({ cls := "KinInTheHeap$Text", name := "becomeFirst", desc := "()V" } : Jvm.MethodName)) ∈ TB := tbm (tb_1 (List.mem_of_getElem? (i := 103) rfl)) rfl
theorem w201 : (Jvm.Cond.instanceMethod ({ cls := "KinInTheHeap$Text", name := "becomeFirst", desc := "()V" } : Jvm.MethodName)) ∈ TB := tbm (tb_1 (List.mem_of_getElem? (i := 104) rfl)) rfl
theorem w202 : (Jvm.Cond.selects "KinInTheHeap$Text" ({ cls := "KinInTheHeap$Text", name := "becomeFirst", desc := "()V" } : Jvm.MethodName) ({ cls := "KinInTheHeap$Text", name := "becomeFirst", desc := "()V" } : Jvm.MethodName)) ∈ TB := tbm (tb_1 (List.mem_of_getElem? (i := 105) rfl)) rfl
theorem w203 : (Jvm.Cond.code ({ cls := "KinInTheHeap$Text", name := "becomeFirst", desc := "()V" } : Jvm.MethodName) prog_5_method_3_code (1 : Nat) (Option.none : Option Jvm.ClassFile.FieldType)) ∈ TB := tbm (tb_1 (List.mem_of_getElem? (i := 106) rfl)) rfl
theorem w204 : (Jvm.Cond.methodLink "KinInTheHeap$Text" (28 : Nat) ({ cls := "KinInTheHeap$Text", name := "clear", desc := "()V" } : Jvm.MethodName)) ∈ TB := tbm (tb_1 (List.mem_of_getElem? (i := 107) rfl)) rfl
theorem w205 : (Jvm.Cond.instanceMethod ({ cls := "KinInTheHeap$Text", name := "clear", desc := "()V" } : Jvm.MethodName)) ∈ TB := tbm (tb_1 (List.mem_of_getElem? (i := 108) rfl)) rfl
theorem w206 : (Jvm.Cond.selects "KinInTheHeap$Text" ({ cls := "KinInTheHeap$Text", name := "clear", desc := "()V" } : Jvm.MethodName) ({ cls := "KinInTheHeap$Text", name := "clear", desc := "()V" } : Jvm.MethodName)) ∈ TB := tbm (tb_1 (List.mem_of_getElem? (i := 109) rfl)) rfl
theorem w207 : (Jvm.Cond.code ({ cls := "KinInTheHeap$Text", name := "clear", desc := "()V" } : Jvm.MethodName) prog_5_method_2_code (1 : Nat) (Option.none : Option Jvm.ClassFile.FieldType)) ∈ TB := tbm (tb_1 (List.mem_of_getElem? (i := 110) rfl)) rfl
theorem w208 : (Jvm.Cond.methodLink "KinInTheHeap$Text" (31 : Nat) ({ cls := "KinInTheHeap$Text", name := "add", desc := "(I)V" } : Jvm.MethodName)) ∈ TB := tbm (tb_1 (List.mem_of_getElem? (i := 111) rfl)) rfl
theorem w209 : (Jvm.Cond.instanceMethod ({ cls := "KinInTheHeap$Text", name := "add", desc := "(I)V" } : Jvm.MethodName)) ∈ TB := tbm (tb_1 (List.mem_of_getElem? (i := 112) rfl)) rfl
theorem w210 : (Jvm.Cond.selects "KinInTheHeap$Text" ({ cls := "KinInTheHeap$Text", name := "add", desc := "(I)V" } : Jvm.MethodName) ({ cls := "KinInTheHeap$Text", name := "add", desc := "(I)V" } : Jvm.MethodName)) ∈ TB := tbm (tb_1 (List.mem_of_getElem? (i := 113) rfl)) rfl
theorem w211 : (Jvm.Cond.code ({ cls := "KinInTheHeap$Text", name := "add", desc := "(I)V" } : Jvm.MethodName) prog_5_method_4_code (2 : Nat) (Option.none : Option Jvm.ClassFile.FieldType)) ∈ TB := tbm (tb_1 (List.mem_of_getElem? (i := 114) rfl)) rfl
theorem w212 : (Jvm.Cond.methodLink "KinInTheHeap$Text" (35 : Nat) ({ cls := "KinInTheHeap$Text", name := "endPart", desc := "()V" } : Jvm.MethodName)) ∈ TB := tbm (tb_1 (List.mem_of_getElem? (i := 115) rfl)) rfl
theorem w213 : (Jvm.Cond.instanceMethod ({ cls := "KinInTheHeap$Text", name := "endPart", desc := "()V" } : Jvm.MethodName)) ∈ TB := tbm (tb_1 (List.mem_of_getElem? (i := 116) rfl)) rfl
theorem w214 : (Jvm.Cond.selects "KinInTheHeap$Text" ({ cls := "KinInTheHeap$Text", name := "endPart", desc := "()V" } : Jvm.MethodName) ({ cls := "KinInTheHeap$Text", name := "endPart", desc := "()V" } : Jvm.MethodName)) ∈ TB := tbm (tb_1 (List.mem_of_getElem? (i := 117) rfl)) rfl
theorem w215 : (Jvm.Cond.code ({ cls := "KinInTheHeap$Text", name := "endPart", desc := "()V" } : Jvm.MethodName) prog_5_method_5_code (1 : Nat) (Option.none : Option Jvm.ClassFile.FieldType)) ∈ TB := tbm (tb_1 (List.mem_of_getElem? (i := 118) rfl)) rfl
theorem w216 : (Jvm.Cond.classLink "KinInTheHeap" (37 : Nat) "KinInTheHeap$Floor") ∈ TB := tbm (tb_1 (List.mem_of_getElem? (i := 119) rfl)) rfl
theorem w217 : (Jvm.Cond.instantiable "KinInTheHeap$Floor" (11 : Nat)) ∈ TB := tbm (tb_1 (List.mem_of_getElem? (i := 120) rfl)) rfl
theorem w218 : (Jvm.Cond.methodLink "KinInTheHeap" (39 : Nat) ({ cls := "KinInTheHeap$Floor", name := "<init>", desc := "([LKinInTheHeap$Text;)V" } : Jvm.MethodName)) ∈ TB := tbm (tb_1 (List.mem_of_getElem? (i := 121) rfl)) rfl
theorem w219 : (Jvm.Cond.instanceMethod ({ cls := "KinInTheHeap$Floor", name := "<init>", desc := "([LKinInTheHeap$Text;)V" } : Jvm.MethodName)) ∈ TB := tbm (tb_1 (List.mem_of_getElem? (i := 122) rfl)) rfl
theorem w220 : (Jvm.Cond.code ({ cls := "KinInTheHeap$Floor", name := "<init>", desc := "([LKinInTheHeap$Text;)V" } : Jvm.MethodName) prog_2_method_1_code (2 : Nat) (Option.none : Option Jvm.ClassFile.FieldType)) ∈ TB := tbm (tb_1 (List.mem_of_getElem? (i := 123) rfl)) rfl
theorem w221 : (Jvm.Cond.methodLink "KinInTheHeap$Floor" (3 : Nat) ({ cls := "java/lang/Object", name := "<init>", desc := "()V" } : Jvm.MethodName)) ∈ TB := tbm (tb_1 (List.mem_of_getElem? (i := 124) rfl)) rfl
theorem w222 : (Jvm.Cond.fieldLink "KinInTheHeap$Floor" (9 : Nat) "KinInTheHeap$Floor" "kinds" "[I") ∈ TB := tbm (tb_1 (List.mem_of_getElem? (i := 125) rfl)) rfl
theorem w223 : (Jvm.Cond.fieldLink "KinInTheHeap" (274 : Nat) "KinInTheHeap$Floor" "kinds" "[I") ∈ TB := tbm (tb_1 (List.mem_of_getElem? (i := 126) rfl)) rfl
theorem w224 : (Jvm.Cond.fieldLink "KinInTheHeap$Floor" (15 : Nat) "KinInTheHeap$Floor" "numbers" "[I") ∈ TB := tbm (tb_1 (List.mem_of_getElem? (i := 127) rfl)) rfl
theorem w225 : (Jvm.Cond.fieldLink "KinInTheHeap" (280 : Nat) "KinInTheHeap$Floor" "numbers" "[I") ∈ TB := tbm (tb_1 (List.mem_of_getElem? (i := 128) rfl)) rfl
theorem w226 : (Jvm.Cond.fieldLink "KinInTheHeap$Floor" (18 : Nat) "KinInTheHeap$Floor" "cells" "[I") ∈ TB := tbm (tb_1 (List.mem_of_getElem? (i := 129) rfl)) rfl
theorem w227 : (Jvm.Cond.fieldLink "KinInTheHeap" (152 : Nat) "KinInTheHeap$Floor" "cells" "[I") ∈ TB := tbm (tb_1 (List.mem_of_getElem? (i := 130) rfl)) rfl
theorem w228 : (Jvm.Cond.fieldLink "KinInTheHeap$Floor" (41 : Nat) "KinInTheHeap$Floor" "cracks" "J") ∈ TB := tbm (tb_1 (List.mem_of_getElem? (i := 131) rfl)) rfl
theorem w229 : (Jvm.Cond.fieldLink "KinInTheHeap" (175 : Nat) "KinInTheHeap$Floor" "cracks" "J") ∈ TB := tbm (tb_1 (List.mem_of_getElem? (i := 132) rfl)) rfl
theorem w230 : (Jvm.Cond.fieldLink "KinInTheHeap$Floor" (45 : Nat) "KinInTheHeap$Floor" "weeks" "I") ∈ TB := tbm (tb_1 (List.mem_of_getElem? (i := 133) rfl)) rfl
theorem w231 : (Jvm.Cond.fieldLink "KinInTheHeap" (82 : Nat) "KinInTheHeap$Floor" "weeks" "I") ∈ TB := tbm (tb_1 (List.mem_of_getElem? (i := 134) rfl)) rfl
theorem w232 : (Jvm.Cond.fieldLink "KinInTheHeap$Floor" (21 : Nat) "KinInTheHeap$Floor" "strength" "I") ∈ TB := tbm (tb_1 (List.mem_of_getElem? (i := 135) rfl)) rfl
theorem w233 : (Jvm.Cond.fieldLink "KinInTheHeap" (85 : Nat) "KinInTheHeap$Floor" "strength" "I") ∈ TB := tbm (tb_1 (List.mem_of_getElem? (i := 136) rfl)) rfl
theorem w234 : (Jvm.Cond.fieldLink "KinInTheHeap$Floor" (48 : Nat) "KinInTheHeap$Floor" "rule" "I") ∈ TB := tbm (tb_1 (List.mem_of_getElem? (i := 137) rfl)) rfl
theorem w235 : (Jvm.Cond.fieldLink "KinInTheHeap" (117 : Nat) "KinInTheHeap$Floor" "rule" "I") ∈ TB := tbm (tb_1 (List.mem_of_getElem? (i := 138) rfl)) rfl
theorem w236 : (Jvm.Cond.fieldLink "KinInTheHeap$Floor" (51 : Nat) "KinInTheHeap$Floor" "dusts" "I") ∈ TB := tbm (tb_1 (List.mem_of_getElem? (i := 139) rfl)) rfl
theorem w237 : (Jvm.Cond.fieldLink "KinInTheHeap" (79 : Nat) "KinInTheHeap$Floor" "dusts" "I") ∈ TB := tbm (tb_1 (List.mem_of_getElem? (i := 140) rfl)) rfl
theorem w238 : (Jvm.Cond.fieldLink "KinInTheHeap$Floor" (31 : Nat) "KinInTheHeap$Floor" "texts" "[LKinInTheHeap$Text;") ∈ TB := tbm (tb_1 (List.mem_of_getElem? (i := 141) rfl)) rfl
theorem w239 : (Jvm.Cond.fieldLink "KinInTheHeap$Floor" (25 : Nat) "KinInTheHeap$Floor" "nexts" "[I") ∈ TB := tbm (tb_1 (List.mem_of_getElem? (i := 142) rfl)) rfl
theorem w240 : (Jvm.Cond.fieldLink "KinInTheHeap$Floor" (28 : Nat) "KinInTheHeap$Floor" "facts" "[I") ∈ TB := tbm (tb_1 (List.mem_of_getElem? (i := 143) rfl)) rfl
theorem w241 : (Jvm.Cond.laysFinal "KinInTheHeap$Floor" "KinInTheHeap$Floor" "kinds" "[I") ∈ TB := tbm (tb_1 (List.mem_of_getElem? (i := 144) rfl)) rfl
theorem w242 : (Jvm.Cond.soleField "KinInTheHeap$Floor" "kinds") ∈ TB := tbm (tb_1 (List.mem_of_getElem? (i := 145) rfl)) rfl
theorem w243 : (Jvm.Cond.laysFinal "KinInTheHeap$Floor" "KinInTheHeap$Floor" "numbers" "[I") ∈ TB := tbm (tb_1 (List.mem_of_getElem? (i := 146) rfl)) rfl
theorem w244 : (Jvm.Cond.soleField "KinInTheHeap$Floor" "numbers") ∈ TB := tbm (tb_1 (List.mem_of_getElem? (i := 147) rfl)) rfl
theorem w245 : (Jvm.Cond.laysFinal "KinInTheHeap$Floor" "KinInTheHeap$Floor" "cells" "[I") ∈ TB := tbm (tb_1 (List.mem_of_getElem? (i := 148) rfl)) rfl
theorem w246 : (Jvm.Cond.soleField "KinInTheHeap$Floor" "cells") ∈ TB := tbm (tb_1 (List.mem_of_getElem? (i := 149) rfl)) rfl
theorem w247 : (Jvm.Cond.lays "KinInTheHeap$Floor" "KinInTheHeap$Floor" "cracks" "J") ∈ TB := tbm (tb_1 (List.mem_of_getElem? (i := 150) rfl)) rfl
theorem w248 : (Jvm.Cond.soleField "KinInTheHeap$Floor" "cracks") ∈ TB := tbm (tb_1 (List.mem_of_getElem? (i := 151) rfl)) rfl
theorem w249 : (Jvm.Cond.lays "KinInTheHeap$Floor" "KinInTheHeap$Floor" "weeks" "I") ∈ TB := tbm (tb_1 (List.mem_of_getElem? (i := 152) rfl)) rfl
theorem w250 : (Jvm.Cond.soleField "KinInTheHeap$Floor" "weeks") ∈ TB := tbm (tb_1 (List.mem_of_getElem? (i := 153) rfl)) rfl
theorem w251 : (Jvm.Cond.lays "KinInTheHeap$Floor" "KinInTheHeap$Floor" "strength" "I") ∈ TB := tbm (tb_1 (List.mem_of_getElem? (i := 154) rfl)) rfl
theorem w252 : (Jvm.Cond.soleField "KinInTheHeap$Floor" "strength") ∈ TB := tbm (tb_1 (List.mem_of_getElem? (i := 155) rfl)) rfl
theorem w253 : (Jvm.Cond.lays "KinInTheHeap$Floor" "KinInTheHeap$Floor" "rule" "I") ∈ TB := tbm (tb_1 (List.mem_of_getElem? (i := 156) rfl)) rfl
theorem w254 : (Jvm.Cond.soleField "KinInTheHeap$Floor" "rule") ∈ TB := tbm (tb_1 (List.mem_of_getElem? (i := 157) rfl)) rfl
theorem w255 : (Jvm.Cond.lays "KinInTheHeap$Floor" "KinInTheHeap$Floor" "dusts" "I") ∈ TB := tbm (tb_1 (List.mem_of_getElem? (i := 158) rfl)) rfl
theorem w256 : (Jvm.Cond.soleField "KinInTheHeap$Floor" "dusts") ∈ TB := tbm (tb_1 (List.mem_of_getElem? (i := 159) rfl)) rfl
theorem w257 : (Jvm.Cond.laysFinal "KinInTheHeap$Floor" "KinInTheHeap$Floor" "texts" "[LKinInTheHeap$Text;") ∈ TB := tbm (tb_1 (List.mem_of_getElem? (i := 160) rfl)) rfl
theorem w258 : (Jvm.Cond.soleField "KinInTheHeap$Floor" "texts") ∈ TB := tbm (tb_1 (List.mem_of_getElem? (i := 161) rfl)) rfl
theorem w259 : (Jvm.Cond.laysFinal "KinInTheHeap$Floor" "KinInTheHeap$Floor" "nexts" "[I") ∈ TB := tbm (tb_1 (List.mem_of_getElem? (i := 162) rfl)) rfl
theorem w260 : (Jvm.Cond.soleField "KinInTheHeap$Floor" "nexts") ∈ TB := tbm (tb_1 (List.mem_of_getElem? (i := 163) rfl)) rfl
theorem w261 : (Jvm.Cond.laysFinal "KinInTheHeap$Floor" "KinInTheHeap$Floor" "facts" "[I") ∈ TB := tbm (tb_1 (List.mem_of_getElem? (i := 164) rfl)) rfl
theorem w262 : (Jvm.Cond.soleField "KinInTheHeap$Floor" "facts") ∈ TB := tbm (tb_1 (List.mem_of_getElem? (i := 165) rfl)) rfl
theorem w264 : (Jvm.Cond.fieldLink "KinInTheHeap" (11 : Nat) "KinInTheHeap" "texts" "[LKinInTheHeap$Text;") ∈ TB := tbm (tb_1 (List.mem_of_getElem? (i := 167) rfl)) rfl
theorem w265 : (Jvm.Cond.fieldLink "KinInTheHeap" (17 : Nat) "KinInTheHeap" "sheets" "[LKinInTheHeap$Sheet;") ∈ TB := tbm (tb_1 (List.mem_of_getElem? (i := 168) rfl)) rfl
theorem w266 : (Jvm.Cond.fieldLink "KinInTheHeap" (24 : Nat) "KinInTheHeap" "reader" "LKinInTheHeap$Reader;") ∈ TB := tbm (tb_1 (List.mem_of_getElem? (i := 169) rfl)) rfl
theorem w267 : (Jvm.Cond.fieldLink "KinInTheHeap" (42 : Nat) "KinInTheHeap" "now" "LKinInTheHeap$Floor;") ∈ TB := tbm (tb_1 (List.mem_of_getElem? (i := 170) rfl)) rfl
theorem w268 : (Jvm.Cond.fieldLink "KinInTheHeap" (46 : Nat) "KinInTheHeap" "kept" "LKinInTheHeap$Floor;") ∈ TB := tbm (tb_1 (List.mem_of_getElem? (i := 171) rfl)) rfl
theorem w269 : (Jvm.Cond.fieldLink "KinInTheHeap" (49 : Nat) "KinInTheHeap" "thought" "LKinInTheHeap$Floor;") ∈ TB := tbm (tb_1 (List.mem_of_getElem? (i := 172) rfl)) rfl
theorem w270 : (Jvm.Cond.fieldLink "KinInTheHeap" (52 : Nat) "KinInTheHeap" "further" "LKinInTheHeap$Floor;") ∈ TB := tbm (tb_1 (List.mem_of_getElem? (i := 173) rfl)) rfl
theorem w271 : (Jvm.Cond.fieldLink "KinInTheHeap" (33 : Nat) "KinInTheHeap" "textCount" "I") ∈ TB := tbm (tb_1 (List.mem_of_getElem? (i := 174) rfl)) rfl
theorem w272 : (Jvm.Cond.fieldLink "KinInTheHeap" (242 : Nat) "KinInTheHeap" "imaged" "Z") ∈ TB := tbm (tb_1 (List.mem_of_getElem? (i := 175) rfl)) rfl
theorem w273 : (Jvm.Cond.laysFinal "KinInTheHeap" "KinInTheHeap" "texts" "[LKinInTheHeap$Text;") ∈ TB := tbm (tb_1 (List.mem_of_getElem? (i := 176) rfl)) rfl
theorem w274 : (Jvm.Cond.soleField "KinInTheHeap" "texts") ∈ TB := tbm (tb_1 (List.mem_of_getElem? (i := 177) rfl)) rfl
theorem w275 : (Jvm.Cond.laysFinal "KinInTheHeap" "KinInTheHeap" "sheets" "[LKinInTheHeap$Sheet;") ∈ TB := tbm (tb_1 (List.mem_of_getElem? (i := 178) rfl)) rfl
theorem w276 : (Jvm.Cond.soleField "KinInTheHeap" "sheets") ∈ TB := tbm (tb_1 (List.mem_of_getElem? (i := 179) rfl)) rfl
theorem w277 : (Jvm.Cond.laysFinal "KinInTheHeap" "KinInTheHeap" "reader" "LKinInTheHeap$Reader;") ∈ TB := tbm (tb_1 (List.mem_of_getElem? (i := 180) rfl)) rfl
theorem w278 : (Jvm.Cond.soleField "KinInTheHeap" "reader") ∈ TB := tbm (tb_1 (List.mem_of_getElem? (i := 181) rfl)) rfl
theorem w279 : (Jvm.Cond.laysFinal "KinInTheHeap" "KinInTheHeap" "now" "LKinInTheHeap$Floor;") ∈ TB := tbm (tb_1 (List.mem_of_getElem? (i := 182) rfl)) rfl
theorem w280 : (Jvm.Cond.soleField "KinInTheHeap" "now") ∈ TB := tbm (tb_1 (List.mem_of_getElem? (i := 183) rfl)) rfl
theorem w281 : (Jvm.Cond.laysFinal "KinInTheHeap" "KinInTheHeap" "kept" "LKinInTheHeap$Floor;") ∈ TB := tbm (tb_1 (List.mem_of_getElem? (i := 184) rfl)) rfl
theorem w282 : (Jvm.Cond.soleField "KinInTheHeap" "kept") ∈ TB := tbm (tb_1 (List.mem_of_getElem? (i := 185) rfl)) rfl
theorem w283 : (Jvm.Cond.laysFinal "KinInTheHeap" "KinInTheHeap" "thought" "LKinInTheHeap$Floor;") ∈ TB := tbm (tb_1 (List.mem_of_getElem? (i := 186) rfl)) rfl
theorem w284 : (Jvm.Cond.soleField "KinInTheHeap" "thought") ∈ TB := tbm (tb_1 (List.mem_of_getElem? (i := 187) rfl)) rfl
theorem w285 : (Jvm.Cond.laysFinal "KinInTheHeap" "KinInTheHeap" "further" "LKinInTheHeap$Floor;") ∈ TB := tbm (tb_1 (List.mem_of_getElem? (i := 188) rfl)) rfl
theorem w286 : (Jvm.Cond.soleField "KinInTheHeap" "further") ∈ TB := tbm (tb_1 (List.mem_of_getElem? (i := 189) rfl)) rfl
theorem w287 : (Jvm.Cond.lays "KinInTheHeap" "KinInTheHeap" "textCount" "I") ∈ TB := tbm (tb_1 (List.mem_of_getElem? (i := 190) rfl)) rfl
theorem w288 : (Jvm.Cond.soleField "KinInTheHeap" "textCount") ∈ TB := tbm (tb_1 (List.mem_of_getElem? (i := 191) rfl)) rfl
theorem w289 : (Jvm.Cond.lays "KinInTheHeap" "KinInTheHeap" "imaged" "Z") ∈ TB := tbm (tb_1 (List.mem_of_getElem? (i := 192) rfl)) rfl
theorem w290 : (Jvm.Cond.soleField "KinInTheHeap" "imaged") ∈ TB := tbm (tb_1 (List.mem_of_getElem? (i := 193) rfl)) rfl
theorem w292 : (Jvm.Cond.methodLink "KinInTheHeapLaw" (13 : Nat) ({ cls := "KinInTheHeap", name := "set", desc := "(III)I" } : Jvm.MethodName)) ∈ TB := tbm (tb_1 (List.mem_of_getElem? (i := 195) rfl)) rfl
theorem w293 : (Jvm.Cond.instanceMethod ({ cls := "KinInTheHeap", name := "set", desc := "(III)I" } : Jvm.MethodName)) ∈ TB := tbm (tb_1 (List.mem_of_getElem? (i := 196) rfl)) rfl
theorem w294 : (Jvm.Cond.selects "KinInTheHeap" ({ cls := "KinInTheHeap", name := "set", desc := "(III)I" } : Jvm.MethodName) ({ cls := "KinInTheHeap", name := "set", desc := "(III)I" } : Jvm.MethodName)) ∈ TB := tbm (tb_1 (List.mem_of_getElem? (i := 197) rfl)) rfl
theorem w295 : (Jvm.Cond.code ({ cls := "KinInTheHeap", name := "set", desc := "(III)I" } : Jvm.MethodName) prog_1_method_2_code (4 : Nat) (Option.some Jvm.ClassFile.FieldType.int)) ∈ TB := tbm (tb_1 (List.mem_of_getElem? (i := 198) rfl)) rfl
theorem w296 : (Jvm.Cond.methodLink "KinInTheHeap" (55 : Nat) ({ cls := "KinInTheHeap", name := "setWeek", desc := "(I)I" } : Jvm.MethodName)) ∈ TB := tbm (tb_1 (List.mem_of_getElem? (i := 199) rfl)) rfl
theorem w298 : (Jvm.Cond.instanceMethod ({ cls := "KinInTheHeap", name := "setWeek", desc := "(I)I" } : Jvm.MethodName)) ∈ TB := tbm (tb_1 (List.mem_of_getElem? (i := 201) rfl)) rfl
theorem w299 : (Jvm.Cond.code ({ cls := "KinInTheHeap", name := "setWeek", desc := "(I)I" } : Jvm.MethodName) prog_1_method_38_code (3 : Nat) (Option.some Jvm.ClassFile.FieldType.int)) ∈ TB := tbm (tb_1 (List.mem_of_getElem? (i := 202) rfl)) rfl
theorem w300 : (Jvm.Cond.methodLink "KinInTheHeap" (101 : Nat) ({ cls := "KinInTheHeap", name := "within", desc := "(III)Z" } : Jvm.MethodName)) ∈ TB := tbm (tb_1 (List.mem_of_getElem? (i := 203) rfl)) rfl
theorem w301 : (Jvm.Cond.static ({ cls := "KinInTheHeap", name := "within", desc := "(III)Z" } : Jvm.MethodName)) ∈ TB := tbm (tb_1 (List.mem_of_getElem? (i := 204) rfl)) rfl
theorem w302 : (Jvm.Cond.code ({ cls := "KinInTheHeap", name := "within", desc := "(III)Z" } : Jvm.MethodName) prog_1_method_32_code (3 : Nat) (Option.some Jvm.ClassFile.FieldType.boolean)) ∈ TB := tbm (tb_1 (List.mem_of_getElem? (i := 205) rfl)) rfl
theorem w303 : (Jvm.Cond.methodLink "KinInTheHeap" (59 : Nat) ({ cls := "KinInTheHeap", name := "setForce", desc := "(I)I" } : Jvm.MethodName)) ∈ TB := tbm (tb_1 (List.mem_of_getElem? (i := 206) rfl)) rfl
theorem w305 : (Jvm.Cond.instanceMethod ({ cls := "KinInTheHeap", name := "setForce", desc := "(I)I" } : Jvm.MethodName)) ∈ TB := tbm (tb_1 (List.mem_of_getElem? (i := 208) rfl)) rfl
theorem w306 : (Jvm.Cond.code ({ cls := "KinInTheHeap", name := "setForce", desc := "(I)I" } : Jvm.MethodName) prog_1_method_39_code (3 : Nat) (Option.some Jvm.ClassFile.FieldType.int)) ∈ TB := tbm (tb_1 (List.mem_of_getElem? (i := 209) rfl)) rfl
theorem w307 : (Jvm.Cond.methodLink "KinInTheHeap" (62 : Nat) ({ cls := "KinInTheHeap", name := "setCrack", desc := "(II)I" } : Jvm.MethodName)) ∈ TB := tbm (tb_1 (List.mem_of_getElem? (i := 210) rfl)) rfl
theorem w309 : (Jvm.Cond.instanceMethod ({ cls := "KinInTheHeap", name := "setCrack", desc := "(II)I" } : Jvm.MethodName)) ∈ TB := tbm (tb_1 (List.mem_of_getElem? (i := 212) rfl)) rfl
theorem w310 : (Jvm.Cond.code ({ cls := "KinInTheHeap", name := "setCrack", desc := "(II)I" } : Jvm.MethodName) prog_1_method_40_code (4 : Nat) (Option.some Jvm.ClassFile.FieldType.int)) ∈ TB := tbm (tb_1 (List.mem_of_getElem? (i := 213) rfl)) rfl
theorem w311 : (Jvm.Cond.methodLink "KinInTheHeap" (283 : Nat) ({ cls := "KinInTheHeap", name := "isCell", desc := "(I)Z" } : Jvm.MethodName)) ∈ TB := tbm (tb_1 (List.mem_of_getElem? (i := 214) rfl)) rfl
theorem w312 : (Jvm.Cond.static ({ cls := "KinInTheHeap", name := "isCell", desc := "(I)Z" } : Jvm.MethodName)) ∈ TB := tbm (tb_1 (List.mem_of_getElem? (i := 215) rfl)) rfl
theorem w313 : (Jvm.Cond.code ({ cls := "KinInTheHeap", name := "isCell", desc := "(I)Z" } : Jvm.MethodName) prog_1_method_35_code (1 : Nat) (Option.some Jvm.ClassFile.FieldType.boolean)) ∈ TB := tbm (tb_1 (List.mem_of_getElem? (i := 216) rfl)) rfl
theorem w314 : (Jvm.Cond.methodLink "KinInTheHeap" (286 : Nat) ({ cls := "KinInTheHeap$Floor", name := "isCracked", desc := "(I)Z" } : Jvm.MethodName)) ∈ TB := tbm (tb_1 (List.mem_of_getElem? (i := 217) rfl)) rfl
theorem w315 : (Jvm.Cond.instanceMethod ({ cls := "KinInTheHeap$Floor", name := "isCracked", desc := "(I)Z" } : Jvm.MethodName)) ∈ TB := tbm (tb_1 (List.mem_of_getElem? (i := 218) rfl)) rfl
theorem w316 : (Jvm.Cond.selects "KinInTheHeap$Floor" ({ cls := "KinInTheHeap$Floor", name := "isCracked", desc := "(I)Z" } : Jvm.MethodName) ({ cls := "KinInTheHeap$Floor", name := "isCracked", desc := "(I)Z" } : Jvm.MethodName)) ∈ TB := tbm (tb_1 (List.mem_of_getElem? (i := 219) rfl)) rfl
theorem w317 : (Jvm.Cond.code ({ cls := "KinInTheHeap$Floor", name := "isCracked", desc := "(I)Z" } : Jvm.MethodName) prog_2_method_6_code (2 : Nat) (Option.some Jvm.ClassFile.FieldType.boolean)) ∈ TB := tbm (tb_1 (List.mem_of_getElem? (i := 220) rfl)) rfl
theorem w318 : (Jvm.Cond.constantLong "KinInTheHeap" (289 : Nat) (-1 : Int64)) ∈ TB := tbm (tb_1 (List.mem_of_getElem? (i := 221) rfl)) rfl
theorem w319 : (Jvm.Cond.methodLink "KinInTheHeap" (66 : Nat) ({ cls := "KinInTheHeap", name := "setNumber", desc := "(II)I" } : Jvm.MethodName)) ∈ TB := tbm (tb_1 (List.mem_of_getElem? (i := 222) rfl)) rfl
theorem w321 : (Jvm.Cond.instanceMethod ({ cls := "KinInTheHeap", name := "setNumber", desc := "(II)I" } : Jvm.MethodName)) ∈ TB := tbm (tb_1 (List.mem_of_getElem? (i := 224) rfl)) rfl
theorem w322 : (Jvm.Cond.code ({ cls := "KinInTheHeap", name := "setNumber", desc := "(II)I" } : Jvm.MethodName) prog_1_method_41_code (4 : Nat) (Option.some Jvm.ClassFile.FieldType.int)) ∈ TB := tbm (tb_1 (List.mem_of_getElem? (i := 225) rfl)) rfl
theorem w323 : (Jvm.Cond.methodLink "KinInTheHeap" (91 : Nat) ({ cls := "KinInTheHeap$Floor", name := "has", desc := "(I)Z" } : Jvm.MethodName)) ∈ TB := tbm (tb_1 (List.mem_of_getElem? (i := 226) rfl)) rfl
theorem w324 : (Jvm.Cond.instanceMethod ({ cls := "KinInTheHeap$Floor", name := "has", desc := "(I)Z" } : Jvm.MethodName)) ∈ TB := tbm (tb_1 (List.mem_of_getElem? (i := 227) rfl)) rfl
theorem w325 : (Jvm.Cond.selects "KinInTheHeap$Floor" ({ cls := "KinInTheHeap$Floor", name := "has", desc := "(I)Z" } : Jvm.MethodName) ({ cls := "KinInTheHeap$Floor", name := "has", desc := "(I)Z" } : Jvm.MethodName)) ∈ TB := tbm (tb_1 (List.mem_of_getElem? (i := 228) rfl)) rfl
theorem w326 : (Jvm.Cond.code ({ cls := "KinInTheHeap$Floor", name := "has", desc := "(I)Z" } : Jvm.MethodName) prog_2_method_4_code (2 : Nat) (Option.some Jvm.ClassFile.FieldType.boolean)) ∈ TB := tbm (tb_1 (List.mem_of_getElem? (i := 229) rfl)) rfl
theorem w328 : (Jvm.Cond.methodLink "KinInTheHeap" (69 : Nat) ({ cls := "KinInTheHeap", name := "setPlace", desc := "(II)I" } : Jvm.MethodName)) ∈ TB := tbm (tb_1 (List.mem_of_getElem? (i := 231) rfl)) rfl
theorem w330 : (Jvm.Cond.instanceMethod ({ cls := "KinInTheHeap", name := "setPlace", desc := "(II)I" } : Jvm.MethodName)) ∈ TB := tbm (tb_1 (List.mem_of_getElem? (i := 233) rfl)) rfl
theorem w331 : (Jvm.Cond.code ({ cls := "KinInTheHeap", name := "setPlace", desc := "(II)I" } : Jvm.MethodName) prog_1_method_42_code (4 : Nat) (Option.some Jvm.ClassFile.FieldType.int)) ∈ TB := tbm (tb_1 (List.mem_of_getElem? (i := 234) rfl)) rfl
theorem w332 : (Jvm.Cond.methodLink "KinInTheHeapLaw" (18 : Nat) ({ cls := "KinInTheHeap", name := "dust", desc := "(III)I" } : Jvm.MethodName)) ∈ TB := tbm (tb_1 (List.mem_of_getElem? (i := 235) rfl)) rfl
theorem w333 : (Jvm.Cond.instanceMethod ({ cls := "KinInTheHeap", name := "dust", desc := "(III)I" } : Jvm.MethodName)) ∈ TB := tbm (tb_1 (List.mem_of_getElem? (i := 236) rfl)) rfl
theorem w334 : (Jvm.Cond.selects "KinInTheHeap" ({ cls := "KinInTheHeap", name := "dust", desc := "(III)I" } : Jvm.MethodName) ({ cls := "KinInTheHeap", name := "dust", desc := "(III)I" } : Jvm.MethodName)) ∈ TB := tbm (tb_1 (List.mem_of_getElem? (i := 237) rfl)) rfl
theorem w335 : (Jvm.Cond.code ({ cls := "KinInTheHeap", name := "dust", desc := "(III)I" } : Jvm.MethodName) prog_1_method_3_code (4 : Nat) (Option.some Jvm.ClassFile.FieldType.int)) ∈ TB := tbm (tb_1 (List.mem_of_getElem? (i := 238) rfl)) rfl
theorem w336 : (Jvm.Cond.methodLink "KinInTheHeap" (72 : Nat) ({ cls := "KinInTheHeap", name := "isDust", desc := "(III)Z" } : Jvm.MethodName)) ∈ TB := tbm (tb_1 (List.mem_of_getElem? (i := 239) rfl)) rfl
theorem w337 : (Jvm.Cond.static ({ cls := "KinInTheHeap", name := "isDust", desc := "(III)Z" } : Jvm.MethodName)) ∈ TB := tbm (tb_2 (List.mem_of_getElem? (i := 0) rfl)) rfl
theorem w338 : (Jvm.Cond.code ({ cls := "KinInTheHeap", name := "isDust", desc := "(III)Z" } : Jvm.MethodName) prog_1_method_36_code (3 : Nat) (Option.some Jvm.ClassFile.FieldType.boolean)) ∈ TB := tbm (tb_2 (List.mem_of_getElem? (i := 1) rfl)) rfl
theorem w339 : (Jvm.Cond.methodLink "KinInTheHeap" (76 : Nat) ({ cls := "KinInTheHeap$Floor", name := "add", desc := "(III)Z" } : Jvm.MethodName)) ∈ TB := tbm (tb_2 (List.mem_of_getElem? (i := 2) rfl)) rfl
theorem w340 : (Jvm.Cond.instanceMethod ({ cls := "KinInTheHeap$Floor", name := "add", desc := "(III)Z" } : Jvm.MethodName)) ∈ TB := tbm (tb_2 (List.mem_of_getElem? (i := 3) rfl)) rfl
theorem w341 : (Jvm.Cond.selects "KinInTheHeap$Floor" ({ cls := "KinInTheHeap$Floor", name := "add", desc := "(III)Z" } : Jvm.MethodName) ({ cls := "KinInTheHeap$Floor", name := "add", desc := "(III)Z" } : Jvm.MethodName)) ∈ TB := tbm (tb_2 (List.mem_of_getElem? (i := 4) rfl)) rfl
theorem w342 : (Jvm.Cond.code ({ cls := "KinInTheHeap$Floor", name := "add", desc := "(III)Z" } : Jvm.MethodName) prog_2_method_3_code (4 : Nat) (Option.some Jvm.ClassFile.FieldType.boolean)) ∈ TB := tbm (tb_2 (List.mem_of_getElem? (i := 5) rfl)) rfl
theorem w343 : (Jvm.Cond.methodLink "KinInTheHeapLaw" (22 : Nat) ({ cls := "KinInTheHeap", name := "told", desc := "(II)I" } : Jvm.MethodName)) ∈ TB := tbm (tb_2 (List.mem_of_getElem? (i := 6) rfl)) rfl
theorem w344 : (Jvm.Cond.instanceMethod ({ cls := "KinInTheHeap", name := "told", desc := "(II)I" } : Jvm.MethodName)) ∈ TB := tbm (tb_2 (List.mem_of_getElem? (i := 7) rfl)) rfl
theorem w345 : (Jvm.Cond.selects "KinInTheHeap" ({ cls := "KinInTheHeap", name := "told", desc := "(II)I" } : Jvm.MethodName) ({ cls := "KinInTheHeap", name := "told", desc := "(II)I" } : Jvm.MethodName)) ∈ TB := tbm (tb_2 (List.mem_of_getElem? (i := 8) rfl)) rfl
theorem w346 : (Jvm.Cond.code ({ cls := "KinInTheHeap", name := "told", desc := "(II)I" } : Jvm.MethodName) prog_1_method_4_code (3 : Nat) (Option.some Jvm.ClassFile.FieldType.int)) ∈ TB := tbm (tb_2 (List.mem_of_getElem? (i := 9) rfl)) rfl
theorem w347 : (Jvm.Cond.methodLink "KinInTheHeap" (88 : Nat) ({ cls := "KinInTheHeap", name := "toldOfCell", desc := "(II)I" } : Jvm.MethodName)) ∈ TB := tbm (tb_2 (List.mem_of_getElem? (i := 10) rfl)) rfl
theorem w349 : (Jvm.Cond.instanceMethod ({ cls := "KinInTheHeap", name := "toldOfCell", desc := "(II)I" } : Jvm.MethodName)) ∈ TB := tbm (tb_2 (List.mem_of_getElem? (i := 12) rfl)) rfl
theorem w350 : (Jvm.Cond.code ({ cls := "KinInTheHeap", name := "toldOfCell", desc := "(II)I" } : Jvm.MethodName) prog_1_method_43_code (3 : Nat) (Option.some Jvm.ClassFile.FieldType.int)) ∈ TB := tbm (tb_2 (List.mem_of_getElem? (i := 13) rfl)) rfl
theorem w351 : (Jvm.Cond.methodLink "KinInTheHeap" (168 : Nat) ({ cls := "KinInTheHeap$Floor", name := "thoseIn", desc := "(I)I" } : Jvm.MethodName)) ∈ TB := tbm (tb_2 (List.mem_of_getElem? (i := 14) rfl)) rfl
theorem w352 : (Jvm.Cond.instanceMethod ({ cls := "KinInTheHeap$Floor", name := "thoseIn", desc := "(I)I" } : Jvm.MethodName)) ∈ TB := tbm (tb_2 (List.mem_of_getElem? (i := 15) rfl)) rfl
theorem w353 : (Jvm.Cond.selects "KinInTheHeap$Floor" ({ cls := "KinInTheHeap$Floor", name := "thoseIn", desc := "(I)I" } : Jvm.MethodName) ({ cls := "KinInTheHeap$Floor", name := "thoseIn", desc := "(I)I" } : Jvm.MethodName)) ∈ TB := tbm (tb_2 (List.mem_of_getElem? (i := 16) rfl)) rfl
theorem w354 : (Jvm.Cond.code ({ cls := "KinInTheHeap$Floor", name := "thoseIn", desc := "(I)I" } : Jvm.MethodName) prog_2_method_7_code (4 : Nat) (Option.some Jvm.ClassFile.FieldType.int)) ∈ TB := tbm (tb_2 (List.mem_of_getElem? (i := 17) rfl)) rfl
theorem w355 : (Jvm.Cond.methodLink "KinInTheHeap" (95 : Nat) ({ cls := "KinInTheHeap", name := "toldOfDust", desc := "(II)I" } : Jvm.MethodName)) ∈ TB := tbm (tb_2 (List.mem_of_getElem? (i := 18) rfl)) rfl
theorem w357 : (Jvm.Cond.instanceMethod ({ cls := "KinInTheHeap", name := "toldOfDust", desc := "(II)I" } : Jvm.MethodName)) ∈ TB := tbm (tb_2 (List.mem_of_getElem? (i := 20) rfl)) rfl
theorem w358 : (Jvm.Cond.code ({ cls := "KinInTheHeap", name := "toldOfDust", desc := "(II)I" } : Jvm.MethodName) prog_1_method_44_code (3 : Nat) (Option.some Jvm.ClassFile.FieldType.int)) ∈ TB := tbm (tb_2 (List.mem_of_getElem? (i := 21) rfl)) rfl
theorem w359 : (Jvm.Cond.methodLink "KinInTheHeap" (98 : Nat) ({ cls := "KinInTheHeap", name := "toldOfGoing", desc := "(II)I" } : Jvm.MethodName)) ∈ TB := tbm (tb_2 (List.mem_of_getElem? (i := 22) rfl)) rfl
theorem w361 : (Jvm.Cond.instanceMethod ({ cls := "KinInTheHeap", name := "toldOfGoing", desc := "(II)I" } : Jvm.MethodName)) ∈ TB := tbm (tb_2 (List.mem_of_getElem? (i := 24) rfl)) rfl
theorem w362 : (Jvm.Cond.code ({ cls := "KinInTheHeap", name := "toldOfGoing", desc := "(II)I" } : Jvm.MethodName) prog_1_method_45_code (3 : Nat) (Option.some Jvm.ClassFile.FieldType.int)) ∈ TB := tbm (tb_2 (List.mem_of_getElem? (i := 25) rfl)) rfl
theorem w363 : (Jvm.Cond.methodLink "KinInTheHeap" (210 : Nat) ({ cls := "KinInTheHeap$Floor", name := "isIn", desc := "(I)Z" } : Jvm.MethodName)) ∈ TB := tbm (tb_2 (List.mem_of_getElem? (i := 26) rfl)) rfl
theorem w364 : (Jvm.Cond.instanceMethod ({ cls := "KinInTheHeap$Floor", name := "isIn", desc := "(I)Z" } : Jvm.MethodName)) ∈ TB := tbm (tb_2 (List.mem_of_getElem? (i := 27) rfl)) rfl
theorem w365 : (Jvm.Cond.selects "KinInTheHeap$Floor" ({ cls := "KinInTheHeap$Floor", name := "isIn", desc := "(I)Z" } : Jvm.MethodName) ({ cls := "KinInTheHeap$Floor", name := "isIn", desc := "(I)Z" } : Jvm.MethodName)) ∈ TB := tbm (tb_2 (List.mem_of_getElem? (i := 28) rfl)) rfl
theorem w366 : (Jvm.Cond.code ({ cls := "KinInTheHeap$Floor", name := "isIn", desc := "(I)Z" } : Jvm.MethodName) prog_2_method_5_code (2 : Nat) (Option.some Jvm.ClassFile.FieldType.boolean)) ∈ TB := tbm (tb_2 (List.mem_of_getElem? (i := 29) rfl)) rfl
theorem w367 : (Jvm.Cond.methodLink "KinInTheHeap$Floor" (58 : Nat) ({ cls := "KinInTheHeap$Floor", name := "has", desc := "(I)Z" } : Jvm.MethodName)) ∈ TB := tbm (tb_2 (List.mem_of_getElem? (i := 30) rfl)) rfl
theorem w368 : (Jvm.Cond.methodLink "KinInTheHeap" (232 : Nat) ({ cls := "KinInTheHeap$Floor", name := "far", desc := "(I)I" } : Jvm.MethodName)) ∈ TB := tbm (tb_2 (List.mem_of_getElem? (i := 31) rfl)) rfl
theorem w369 : (Jvm.Cond.instanceMethod ({ cls := "KinInTheHeap$Floor", name := "far", desc := "(I)I" } : Jvm.MethodName)) ∈ TB := tbm (tb_2 (List.mem_of_getElem? (i := 32) rfl)) rfl
theorem w370 : (Jvm.Cond.selects "KinInTheHeap$Floor" ({ cls := "KinInTheHeap$Floor", name := "far", desc := "(I)I" } : Jvm.MethodName) ({ cls := "KinInTheHeap$Floor", name := "far", desc := "(I)I" } : Jvm.MethodName)) ∈ TB := tbm (tb_2 (List.mem_of_getElem? (i := 33) rfl)) rfl
theorem w371 : (Jvm.Cond.code ({ cls := "KinInTheHeap$Floor", name := "far", desc := "(I)I" } : Jvm.MethodName) prog_2_method_17_code (3 : Nat) (Option.some Jvm.ClassFile.FieldType.int)) ∈ TB := tbm (tb_2 (List.mem_of_getElem? (i := 34) rfl)) rfl
theorem w372 : (Jvm.Cond.methodLink "KinInTheHeap$Floor" (92 : Nat) ({ cls := "KinInTheHeap$Floor", name := "telling", desc := "(II)I" } : Jvm.MethodName)) ∈ TB := tbm (tb_2 (List.mem_of_getElem? (i := 35) rfl)) rfl
theorem w374 : (Jvm.Cond.instanceMethod ({ cls := "KinInTheHeap$Floor", name := "telling", desc := "(II)I" } : Jvm.MethodName)) ∈ TB := tbm (tb_2 (List.mem_of_getElem? (i := 37) rfl)) rfl
theorem w375 : (Jvm.Cond.code ({ cls := "KinInTheHeap$Floor", name := "telling", desc := "(II)I" } : Jvm.MethodName) prog_2_method_24_code (3 : Nat) (Option.some Jvm.ClassFile.FieldType.int)) ∈ TB := tbm (tb_2 (List.mem_of_getElem? (i := 38) rfl)) rfl
theorem w376 : (Jvm.Cond.methodLink "KinInTheHeap$Floor" (80 : Nat) ({ cls := "KinInTheHeap$Floor", name := "kin", desc := "(I)I" } : Jvm.MethodName)) ∈ TB := tbm (tb_2 (List.mem_of_getElem? (i := 39) rfl)) rfl
theorem w377 : (Jvm.Cond.instanceMethod ({ cls := "KinInTheHeap$Floor", name := "kin", desc := "(I)I" } : Jvm.MethodName)) ∈ TB := tbm (tb_2 (List.mem_of_getElem? (i := 40) rfl)) rfl
theorem w378 : (Jvm.Cond.selects "KinInTheHeap$Floor" ({ cls := "KinInTheHeap$Floor", name := "kin", desc := "(I)I" } : Jvm.MethodName) ({ cls := "KinInTheHeap$Floor", name := "kin", desc := "(I)I" } : Jvm.MethodName)) ∈ TB := tbm (tb_2 (List.mem_of_getElem? (i := 41) rfl)) rfl
theorem w379 : (Jvm.Cond.code ({ cls := "KinInTheHeap$Floor", name := "kin", desc := "(I)I" } : Jvm.MethodName) prog_2_method_16_code (4 : Nat) (Option.some Jvm.ClassFile.FieldType.int)) ∈ TB := tbm (tb_2 (List.mem_of_getElem? (i := 42) rfl)) rfl
theorem w380 : (Jvm.Cond.methodLink "KinInTheHeap$Floor" (131 : Nat) ({ cls := "KinInTheHeap$Text", name := "value", desc := "(I[I)I" } : Jvm.MethodName)) ∈ TB := tbm (tb_2 (List.mem_of_getElem? (i := 43) rfl)) rfl
theorem w381 : (Jvm.Cond.instanceMethod ({ cls := "KinInTheHeap$Text", name := "value", desc := "(I[I)I" } : Jvm.MethodName)) ∈ TB := tbm (tb_2 (List.mem_of_getElem? (i := 44) rfl)) rfl
theorem w382 : (Jvm.Cond.selects "KinInTheHeap$Text" ({ cls := "KinInTheHeap$Text", name := "value", desc := "(I[I)I" } : Jvm.MethodName) ({ cls := "KinInTheHeap$Text", name := "value", desc := "(I[I)I" } : Jvm.MethodName)) ∈ TB := tbm (tb_2 (List.mem_of_getElem? (i := 45) rfl)) rfl
theorem w383 : (Jvm.Cond.code ({ cls := "KinInTheHeap$Text", name := "value", desc := "(I[I)I" } : Jvm.MethodName) prog_5_method_6_code (8 : Nat) (Option.some Jvm.ClassFile.FieldType.int)) ∈ TB := tbm (tb_2 (List.mem_of_getElem? (i := 46) rfl)) rfl
theorem w384 : (Jvm.Cond.methodLink "KinInTheHeap$Floor" (95 : Nat) ({ cls := "KinInTheHeap$Floor", name := "bounded", desc := "(I)I" } : Jvm.MethodName)) ∈ TB := tbm (tb_2 (List.mem_of_getElem? (i := 47) rfl)) rfl
theorem w385 : (Jvm.Cond.static ({ cls := "KinInTheHeap$Floor", name := "bounded", desc := "(I)I" } : Jvm.MethodName)) ∈ TB := tbm (tb_2 (List.mem_of_getElem? (i := 48) rfl)) rfl
theorem w386 : (Jvm.Cond.code ({ cls := "KinInTheHeap$Floor", name := "bounded", desc := "(I)I" } : Jvm.MethodName) prog_2_method_25_code (1 : Nat) (Option.some Jvm.ClassFile.FieldType.int)) ∈ TB := tbm (tb_2 (List.mem_of_getElem? (i := 49) rfl)) rfl
theorem w387 : (Jvm.Cond.methodLink "KinInTheHeap$Floor" (137 : Nat) ({ cls := "java/lang/Math", name := "min", desc := "(II)I" } : Jvm.MethodName)) ∈ TB := tbm (tb_2 (List.mem_of_getElem? (i := 50) rfl)) rfl
theorem w388 : (Jvm.Cond.static ({ cls := "java/lang/Math", name := "min", desc := "(II)I" } : Jvm.MethodName)) ∈ TB := tbm (tb_2 (List.mem_of_getElem? (i := 51) rfl)) rfl
theorem w389 : (Jvm.Cond.code ({ cls := "java/lang/Math", name := "min", desc := "(II)I" } : Jvm.MethodName) prog_11_method_69_code (2 : Nat) (Option.some Jvm.ClassFile.FieldType.int)) ∈ TB := tbm (tb_2 (List.mem_of_getElem? (i := 52) rfl)) rfl
theorem w390 : (Jvm.Cond.methodLink "KinInTheHeap$Floor" (83 : Nat) ({ cls := "java/lang/Math", name := "max", desc := "(II)I" } : Jvm.MethodName)) ∈ TB := tbm (tb_2 (List.mem_of_getElem? (i := 53) rfl)) rfl
theorem w391 : (Jvm.Cond.static ({ cls := "java/lang/Math", name := "max", desc := "(II)I" } : Jvm.MethodName)) ∈ TB := tbm (tb_2 (List.mem_of_getElem? (i := 54) rfl)) rfl
theorem w392 : (Jvm.Cond.code ({ cls := "java/lang/Math", name := "max", desc := "(II)I" } : Jvm.MethodName) prog_11_method_65_code (2 : Nat) (Option.some Jvm.ClassFile.FieldType.int)) ∈ TB := tbm (tb_2 (List.mem_of_getElem? (i := 55) rfl)) rfl
theorem w393 : (Jvm.Cond.methodLink "KinInTheHeap" (291 : Nat) ({ cls := "KinInTheHeap$Floor", name := "isFree", desc := "(I)Z" } : Jvm.MethodName)) ∈ TB := tbm (tb_2 (List.mem_of_getElem? (i := 56) rfl)) rfl
theorem w394 : (Jvm.Cond.instanceMethod ({ cls := "KinInTheHeap$Floor", name := "isFree", desc := "(I)Z" } : Jvm.MethodName)) ∈ TB := tbm (tb_2 (List.mem_of_getElem? (i := 57) rfl)) rfl
theorem w395 : (Jvm.Cond.selects "KinInTheHeap$Floor" ({ cls := "KinInTheHeap$Floor", name := "isFree", desc := "(I)Z" } : Jvm.MethodName) ({ cls := "KinInTheHeap$Floor", name := "isFree", desc := "(I)Z" } : Jvm.MethodName)) ∈ TB := tbm (tb_2 (List.mem_of_getElem? (i := 58) rfl)) rfl
theorem w396 : (Jvm.Cond.code ({ cls := "KinInTheHeap$Floor", name := "isFree", desc := "(I)Z" } : Jvm.MethodName) prog_2_method_18_code (2 : Nat) (Option.some Jvm.ClassFile.FieldType.boolean)) ∈ TB := tbm (tb_2 (List.mem_of_getElem? (i := 59) rfl)) rfl
theorem w397 : (Jvm.Cond.methodLink "KinInTheHeap" (294 : Nat) ({ cls := "KinInTheHeap$Floor", name := "way", desc := "(I)I" } : Jvm.MethodName)) ∈ TB := tbm (tb_2 (List.mem_of_getElem? (i := 60) rfl)) rfl
theorem w398 : (Jvm.Cond.instanceMethod ({ cls := "KinInTheHeap$Floor", name := "way", desc := "(I)I" } : Jvm.MethodName)) ∈ TB := tbm (tb_2 (List.mem_of_getElem? (i := 61) rfl)) rfl
theorem w399 : (Jvm.Cond.selects "KinInTheHeap$Floor" ({ cls := "KinInTheHeap$Floor", name := "way", desc := "(I)I" } : Jvm.MethodName) ({ cls := "KinInTheHeap$Floor", name := "way", desc := "(I)I" } : Jvm.MethodName)) ∈ TB := tbm (tb_2 (List.mem_of_getElem? (i := 62) rfl)) rfl
theorem w400 : (Jvm.Cond.code ({ cls := "KinInTheHeap$Floor", name := "way", desc := "(I)I" } : Jvm.MethodName) prog_2_method_19_code (3 : Nat) (Option.some Jvm.ClassFile.FieldType.int)) ∈ TB := tbm (tb_2 (List.mem_of_getElem? (i := 63) rfl)) rfl
theorem w401 : (Jvm.Cond.methodLink "KinInTheHeap$Floor" (98 : Nat) ({ cls := "java/lang/Math", name := "floorMod", desc := "(II)I" } : Jvm.MethodName)) ∈ TB := tbm (tb_2 (List.mem_of_getElem? (i := 64) rfl)) rfl
theorem w402 : (Jvm.Cond.static ({ cls := "java/lang/Math", name := "floorMod", desc := "(II)I" } : Jvm.MethodName)) ∈ TB := tbm (tb_2 (List.mem_of_getElem? (i := 65) rfl)) rfl
theorem w403 : (Jvm.Cond.code ({ cls := "java/lang/Math", name := "floorMod", desc := "(II)I" } : Jvm.MethodName) prog_11_method_50_code (3 : Nat) (Option.some Jvm.ClassFile.FieldType.int)) ∈ TB := tbm (tb_2 (List.mem_of_getElem? (i := 66) rfl)) rfl
theorem w404 : (Jvm.Cond.methodLink "KinInTheHeap$Floor" (101 : Nat) ({ cls := "KinInTheHeap$Floor", name := "otherWay", desc := "(I)I" } : Jvm.MethodName)) ∈ TB := tbm (tb_2 (List.mem_of_getElem? (i := 67) rfl)) rfl
theorem w405 : (Jvm.Cond.static ({ cls := "KinInTheHeap$Floor", name := "otherWay", desc := "(I)I" } : Jvm.MethodName)) ∈ TB := tbm (tb_2 (List.mem_of_getElem? (i := 68) rfl)) rfl
theorem w406 : (Jvm.Cond.code ({ cls := "KinInTheHeap$Floor", name := "otherWay", desc := "(I)I" } : Jvm.MethodName) prog_2_method_26_code (1 : Nat) (Option.some Jvm.ClassFile.FieldType.int)) ∈ TB := tbm (tb_2 (List.mem_of_getElem? (i := 69) rfl)) rfl
theorem w407 : (Jvm.Cond.methodLink "KinInTheHeapLaw" (27 : Nat) ({ cls := "KinInTheHeap", name := "feed", desc := "(I)I" } : Jvm.MethodName)) ∈ TB := tbm (tb_2 (List.mem_of_getElem? (i := 70) rfl)) rfl
theorem w408 : (Jvm.Cond.instanceMethod ({ cls := "KinInTheHeap", name := "feed", desc := "(I)I" } : Jvm.MethodName)) ∈ TB := tbm (tb_2 (List.mem_of_getElem? (i := 71) rfl)) rfl
theorem w409 : (Jvm.Cond.selects "KinInTheHeap" ({ cls := "KinInTheHeap", name := "feed", desc := "(I)I" } : Jvm.MethodName) ({ cls := "KinInTheHeap", name := "feed", desc := "(I)I" } : Jvm.MethodName)) ∈ TB := tbm (tb_2 (List.mem_of_getElem? (i := 72) rfl)) rfl
theorem w410 : (Jvm.Cond.code ({ cls := "KinInTheHeap", name := "feed", desc := "(I)I" } : Jvm.MethodName) prog_1_method_5_code (2 : Nat) (Option.some Jvm.ClassFile.FieldType.int)) ∈ TB := tbm (tb_2 (List.mem_of_getElem? (i := 73) rfl)) rfl
theorem w411 : (Jvm.Cond.methodLink "KinInTheHeap" (104 : Nat) ({ cls := "KinInTheHeap$Reader", name := "take", desc := "(I)Z" } : Jvm.MethodName)) ∈ TB := tbm (tb_2 (List.mem_of_getElem? (i := 74) rfl)) rfl
theorem w412 : (Jvm.Cond.instanceMethod ({ cls := "KinInTheHeap$Reader", name := "take", desc := "(I)Z" } : Jvm.MethodName)) ∈ TB := tbm (tb_2 (List.mem_of_getElem? (i := 75) rfl)) rfl
theorem w413 : (Jvm.Cond.selects "KinInTheHeap$Reader" ({ cls := "KinInTheHeap$Reader", name := "take", desc := "(I)Z" } : Jvm.MethodName) ({ cls := "KinInTheHeap$Reader", name := "take", desc := "(I)Z" } : Jvm.MethodName)) ∈ TB := tbm (tb_2 (List.mem_of_getElem? (i := 76) rfl)) rfl
theorem w414 : (Jvm.Cond.code ({ cls := "KinInTheHeap$Reader", name := "take", desc := "(I)Z" } : Jvm.MethodName) prog_3_method_2_code (2 : Nat) (Option.some Jvm.ClassFile.FieldType.boolean)) ∈ TB := tbm (tb_2 (List.mem_of_getElem? (i := 77) rfl)) rfl
theorem w415 : (Jvm.Cond.methodLink "KinInTheHeapLaw" (32 : Nat) ({ cls := "KinInTheHeap", name := "text", desc := "()I" } : Jvm.MethodName)) ∈ TB := tbm (tb_2 (List.mem_of_getElem? (i := 78) rfl)) rfl
theorem w416 : (Jvm.Cond.instanceMethod ({ cls := "KinInTheHeap", name := "text", desc := "()I" } : Jvm.MethodName)) ∈ TB := tbm (tb_2 (List.mem_of_getElem? (i := 79) rfl)) rfl
theorem w417 : (Jvm.Cond.selects "KinInTheHeap" ({ cls := "KinInTheHeap", name := "text", desc := "()I" } : Jvm.MethodName) ({ cls := "KinInTheHeap", name := "text", desc := "()I" } : Jvm.MethodName)) ∈ TB := tbm (tb_2 (List.mem_of_getElem? (i := 80) rfl)) rfl
theorem w418 : (Jvm.Cond.code ({ cls := "KinInTheHeap", name := "text", desc := "()I" } : Jvm.MethodName) prog_1_method_6_code (2 : Nat) (Option.some Jvm.ClassFile.FieldType.int)) ∈ TB := tbm (tb_2 (List.mem_of_getElem? (i := 81) rfl)) rfl
theorem w419 : (Jvm.Cond.methodLink "KinInTheHeap" (110 : Nat) ({ cls := "KinInTheHeap$Reader", name := "read", desc := "(LKinInTheHeap$Text;)I" } : Jvm.MethodName)) ∈ TB := tbm (tb_2 (List.mem_of_getElem? (i := 82) rfl)) rfl
theorem w420 : (Jvm.Cond.instanceMethod ({ cls := "KinInTheHeap$Reader", name := "read", desc := "(LKinInTheHeap$Text;)I" } : Jvm.MethodName)) ∈ TB := tbm (tb_2 (List.mem_of_getElem? (i := 83) rfl)) rfl
theorem w421 : (Jvm.Cond.selects "KinInTheHeap$Reader" ({ cls := "KinInTheHeap$Reader", name := "read", desc := "(LKinInTheHeap$Text;)I" } : Jvm.MethodName) ({ cls := "KinInTheHeap$Reader", name := "read", desc := "(LKinInTheHeap$Text;)I" } : Jvm.MethodName)) ∈ TB := tbm (tb_2 (List.mem_of_getElem? (i := 84) rfl)) rfl
theorem w422 : (Jvm.Cond.code ({ cls := "KinInTheHeap$Reader", name := "read", desc := "(LKinInTheHeap$Text;)I" } : Jvm.MethodName) prog_3_method_4_code (3 : Nat) (Option.some Jvm.ClassFile.FieldType.int)) ∈ TB := tbm (tb_2 (List.mem_of_getElem? (i := 85) rfl)) rfl
theorem w423 : (Jvm.Cond.methodLink "KinInTheHeap$Reader" (28 : Nat) ({ cls := "KinInTheHeap$Reader", name := "findTokens", desc := "()V" } : Jvm.MethodName)) ∈ TB := tbm (tb_2 (List.mem_of_getElem? (i := 86) rfl)) rfl
theorem w425 : (Jvm.Cond.instanceMethod ({ cls := "KinInTheHeap$Reader", name := "findTokens", desc := "()V" } : Jvm.MethodName)) ∈ TB := tbm (tb_2 (List.mem_of_getElem? (i := 88) rfl)) rfl
theorem w426 : (Jvm.Cond.code ({ cls := "KinInTheHeap$Reader", name := "findTokens", desc := "()V" } : Jvm.MethodName) prog_3_method_5_code (4 : Nat) (Option.none : Option Jvm.ClassFile.FieldType)) ∈ TB := tbm (tb_2 (List.mem_of_getElem? (i := 89) rfl)) rfl
theorem w427 : (Jvm.Cond.methodLink "KinInTheHeap$Reader" (54 : Nat) ({ cls := "KinInTheHeap$Reader", name := "endOfToken", desc := "(I)I" } : Jvm.MethodName)) ∈ TB := tbm (tb_2 (List.mem_of_getElem? (i := 90) rfl)) rfl
theorem w429 : (Jvm.Cond.instanceMethod ({ cls := "KinInTheHeap$Reader", name := "endOfToken", desc := "(I)I" } : Jvm.MethodName)) ∈ TB := tbm (tb_2 (List.mem_of_getElem? (i := 92) rfl)) rfl
theorem w430 : (Jvm.Cond.code ({ cls := "KinInTheHeap$Reader", name := "endOfToken", desc := "(I)I" } : Jvm.MethodName) prog_3_method_7_code (3 : Nat) (Option.some Jvm.ClassFile.FieldType.int)) ∈ TB := tbm (tb_2 (List.mem_of_getElem? (i := 93) rfl)) rfl
theorem w431 : (Jvm.Cond.methodLink "KinInTheHeap$Reader" (66 : Nat) ({ cls := "KinInTheHeap$Reader", name := "isSmall", desc := "(I)Z" } : Jvm.MethodName)) ∈ TB := tbm (tb_2 (List.mem_of_getElem? (i := 94) rfl)) rfl
theorem w432 : (Jvm.Cond.static ({ cls := "KinInTheHeap$Reader", name := "isSmall", desc := "(I)Z" } : Jvm.MethodName)) ∈ TB := tbm (tb_2 (List.mem_of_getElem? (i := 95) rfl)) rfl
theorem w433 : (Jvm.Cond.code ({ cls := "KinInTheHeap$Reader", name := "isSmall", desc := "(I)Z" } : Jvm.MethodName) prog_3_method_13_code (1 : Nat) (Option.some Jvm.ClassFile.FieldType.boolean)) ∈ TB := tbm (tb_2 (List.mem_of_getElem? (i := 96) rfl)) rfl
theorem w435 : (Jvm.Cond.methodLink "KinInTheHeap$Reader" (69 : Nat) ({ cls := "KinInTheHeap$Reader", name := "isDigit", desc := "(I)Z" } : Jvm.MethodName)) ∈ TB := tbm (tb_2 (List.mem_of_getElem? (i := 98) rfl)) rfl
theorem w436 : (Jvm.Cond.static ({ cls := "KinInTheHeap$Reader", name := "isDigit", desc := "(I)Z" } : Jvm.MethodName)) ∈ TB := tbm (tb_2 (List.mem_of_getElem? (i := 99) rfl)) rfl
theorem w437 : (Jvm.Cond.code ({ cls := "KinInTheHeap$Reader", name := "isDigit", desc := "(I)Z" } : Jvm.MethodName) prog_3_method_14_code (1 : Nat) (Option.some Jvm.ClassFile.FieldType.boolean)) ∈ TB := tbm (tb_2 (List.mem_of_getElem? (i := 100) rfl)) rfl
theorem w438 : (Jvm.Cond.methodLink "KinInTheHeap$Reader" (58 : Nat) ({ cls := "KinInTheHeap$Reader", name := "tokenOf", desc := "(II)I" } : Jvm.MethodName)) ∈ TB := tbm (tb_2 (List.mem_of_getElem? (i := 101) rfl)) rfl
theorem w440 : (Jvm.Cond.instanceMethod ({ cls := "KinInTheHeap$Reader", name := "tokenOf", desc := "(II)I" } : Jvm.MethodName)) ∈ TB := tbm (tb_2 (List.mem_of_getElem? (i := 103) rfl)) rfl
theorem w441 : (Jvm.Cond.code ({ cls := "KinInTheHeap$Reader", name := "tokenOf", desc := "(II)I" } : Jvm.MethodName) prog_3_method_8_code (4 : Nat) (Option.some Jvm.ClassFile.FieldType.int)) ∈ TB := tbm (tb_2 (List.mem_of_getElem? (i := 104) rfl)) rfl
theorem w442 : (Jvm.Cond.methodLink "KinInTheHeap$Reader" (72 : Nat) ({ cls := "KinInTheHeap$Reader", name := "wordToken", desc := "(II)I" } : Jvm.MethodName)) ∈ TB := tbm (tb_2 (List.mem_of_getElem? (i := 105) rfl)) rfl
theorem w444 : (Jvm.Cond.instanceMethod ({ cls := "KinInTheHeap$Reader", name := "wordToken", desc := "(II)I" } : Jvm.MethodName)) ∈ TB := tbm (tb_2 (List.mem_of_getElem? (i := 107) rfl)) rfl
theorem w445 : (Jvm.Cond.code ({ cls := "KinInTheHeap$Reader", name := "wordToken", desc := "(II)I" } : Jvm.MethodName) prog_3_method_10_code (4 : Nat) (Option.some Jvm.ClassFile.FieldType.int)) ∈ TB := tbm (tb_2 (List.mem_of_getElem? (i := 108) rfl)) rfl
theorem w446 : (Jvm.Cond.methodLink "KinInTheHeap$Reader" (85 : Nat) ({ cls := "KinInTheHeap$Reader", name := "wordOf", desc := "(I)Ljava/lang/String;" } : Jvm.MethodName)) ∈ TB := tbm (tb_2 (List.mem_of_getElem? (i := 109) rfl)) rfl
theorem w447 : (Jvm.Cond.static ({ cls := "KinInTheHeap$Reader", name := "wordOf", desc := "(I)Ljava/lang/String;" } : Jvm.MethodName)) ∈ TB := tbm (tb_2 (List.mem_of_getElem? (i := 110) rfl)) rfl
theorem w448 : (Jvm.Cond.code ({ cls := "KinInTheHeap$Reader", name := "wordOf", desc := "(I)Ljava/lang/String;" } : Jvm.MethodName) prog_3_method_12_code (1 : Nat) (Option.some (Jvm.ClassFile.FieldType.object "java/lang/String"))) ∈ TB := tbm (tb_2 (List.mem_of_getElem? (i := 111) rfl)) rfl
theorem w461 : (Jvm.Cond.methodLink "KinInTheHeap$Reader" (89 : Nat) ({ cls := "KinInTheHeap$Reader", name := "isWord", desc := "(Ljava/lang/String;II)Z" } : Jvm.MethodName)) ∈ TB := tbm (tb_2 (List.mem_of_getElem? (i := 124) rfl)) rfl
theorem w463 : (Jvm.Cond.instanceMethod ({ cls := "KinInTheHeap$Reader", name := "isWord", desc := "(Ljava/lang/String;II)Z" } : Jvm.MethodName)) ∈ TB := tbm (tb_2 (List.mem_of_getElem? (i := 126) rfl)) rfl
theorem w464 : (Jvm.Cond.code ({ cls := "KinInTheHeap$Reader", name := "isWord", desc := "(Ljava/lang/String;II)Z" } : Jvm.MethodName) prog_3_method_11_code (5 : Nat) (Option.some Jvm.ClassFile.FieldType.boolean)) ∈ TB := tbm (tb_2 (List.mem_of_getElem? (i := 127) rfl)) rfl
theorem w465 : (Jvm.Cond.methodLink "KinInTheHeap$Reader" (93 : Nat) ({ cls := "java/lang/String", name := "length", desc := "()I" } : Jvm.MethodName)) ∈ TB := tbm (tb_2 (List.mem_of_getElem? (i := 128) rfl)) rfl
theorem w466 : (Jvm.Cond.instanceMethod ({ cls := "java/lang/String", name := "length", desc := "()I" } : Jvm.MethodName)) ∈ TB := tbm (tb_2 (List.mem_of_getElem? (i := 129) rfl)) rfl
theorem w467 : (Jvm.Cond.selects "java/lang/String" ({ cls := "java/lang/String", name := "length", desc := "()I" } : Jvm.MethodName) ({ cls := "java/lang/String", name := "length", desc := "()I" } : Jvm.MethodName)) ∈ TB := tbm (tb_2 (List.mem_of_getElem? (i := 130) rfl)) rfl
theorem w468 : (Jvm.Cond.code ({ cls := "java/lang/String", name := "length", desc := "()I" } : Jvm.MethodName) prog_12_method_54_code (1 : Nat) (Option.some Jvm.ClassFile.FieldType.int)) ∈ TB := tbm (tb_2 (List.mem_of_getElem? (i := 131) rfl)) rfl
theorem w469 : (Jvm.Cond.methodLink "java/lang/String" (335 : Nat) ({ cls := "java/lang/String", name := "coder", desc := "()B" } : Jvm.MethodName)) ∈ TB := tbm (tb_2 (List.mem_of_getElem? (i := 132) rfl)) rfl
theorem w470 : (Jvm.Cond.instanceMethod ({ cls := "java/lang/String", name := "coder", desc := "()B" } : Jvm.MethodName)) ∈ TB := tbm (tb_2 (List.mem_of_getElem? (i := 133) rfl)) rfl
theorem w471 : (Jvm.Cond.selects "java/lang/String" ({ cls := "java/lang/String", name := "coder", desc := "()B" } : Jvm.MethodName) ({ cls := "java/lang/String", name := "coder", desc := "()B" } : Jvm.MethodName)) ∈ TB := tbm (tb_2 (List.mem_of_getElem? (i := 134) rfl)) rfl
theorem w472 : (Jvm.Cond.code ({ cls := "java/lang/String", name := "coder", desc := "()B" } : Jvm.MethodName) prog_12_method_152_code (1 : Nat) (Option.some Jvm.ClassFile.FieldType.byte)) ∈ TB := tbm (tb_2 (List.mem_of_getElem? (i := 135) rfl)) rfl
theorem w473 : (Jvm.Cond.fieldLink "java/lang/String" (38 : Nat) "java/lang/String" "COMPACT_STRINGS" "Z") ∈ TB := tbm (tb_2 (List.mem_of_getElem? (i := 136) rfl)) rfl
theorem w475 : (Jvm.Cond.methodLink "KinInTheHeap$Reader" (96 : Nat) ({ cls := "java/lang/String", name := "charAt", desc := "(I)C" } : Jvm.MethodName)) ∈ TB := tbm (tb_2 (List.mem_of_getElem? (i := 138) rfl)) rfl
theorem w476 : (Jvm.Cond.instanceMethod ({ cls := "java/lang/String", name := "charAt", desc := "(I)C" } : Jvm.MethodName)) ∈ TB := tbm (tb_2 (List.mem_of_getElem? (i := 139) rfl)) rfl
theorem w477 : (Jvm.Cond.selects "java/lang/String" ({ cls := "java/lang/String", name := "charAt", desc := "(I)C" } : Jvm.MethodName) ({ cls := "java/lang/String", name := "charAt", desc := "(I)C" } : Jvm.MethodName)) ∈ TB := tbm (tb_2 (List.mem_of_getElem? (i := 140) rfl)) rfl
theorem w478 : (Jvm.Cond.code ({ cls := "java/lang/String", name := "charAt", desc := "(I)C" } : Jvm.MethodName) prog_12_method_56_code (2 : Nat) (Option.some Jvm.ClassFile.FieldType.char)) ∈ TB := tbm (tb_2 (List.mem_of_getElem? (i := 141) rfl)) rfl
theorem w479 : (Jvm.Cond.methodLink "java/lang/String" (492 : Nat) ({ cls := "java/lang/String", name := "isLatin1", desc := "()Z" } : Jvm.MethodName)) ∈ TB := tbm (tb_2 (List.mem_of_getElem? (i := 142) rfl)) rfl
theorem w480 : (Jvm.Cond.instanceMethod ({ cls := "java/lang/String", name := "isLatin1", desc := "()Z" } : Jvm.MethodName)) ∈ TB := tbm (tb_2 (List.mem_of_getElem? (i := 143) rfl)) rfl
theorem w481 : (Jvm.Cond.selects "java/lang/String" ({ cls := "java/lang/String", name := "isLatin1", desc := "()Z" } : Jvm.MethodName) ({ cls := "java/lang/String", name := "isLatin1", desc := "()Z" } : Jvm.MethodName)) ∈ TB := tbm (tb_2 (List.mem_of_getElem? (i := 144) rfl)) rfl
theorem w482 : (Jvm.Cond.code ({ cls := "java/lang/String", name := "isLatin1", desc := "()Z" } : Jvm.MethodName) prog_12_method_154_code (1 : Nat) (Option.some Jvm.ClassFile.FieldType.boolean)) ∈ TB := tbm (tb_2 (List.mem_of_getElem? (i := 145) rfl)) rfl
theorem w483 : (Jvm.Cond.methodLink "java/lang/String" (495 : Nat) ({ cls := "java/lang/StringLatin1", name := "charAt", desc := "([BI)C" } : Jvm.MethodName)) ∈ TB := tbm (tb_2 (List.mem_of_getElem? (i := 146) rfl)) rfl
theorem w484 : (Jvm.Cond.static ({ cls := "java/lang/StringLatin1", name := "charAt", desc := "([BI)C" } : Jvm.MethodName)) ∈ TB := tbm (tb_2 (List.mem_of_getElem? (i := 147) rfl)) rfl
theorem w485 : (Jvm.Cond.code ({ cls := "java/lang/StringLatin1", name := "charAt", desc := "([BI)C" } : Jvm.MethodName) prog_13_method_2_code (2 : Nat) (Option.some Jvm.ClassFile.FieldType.char)) ∈ TB := tbm (tb_2 (List.mem_of_getElem? (i := 148) rfl)) rfl
theorem w486 : (Jvm.Cond.methodLink "java/lang/StringLatin1" (9 : Nat) ({ cls := "java/lang/String", name := "checkIndex", desc := "(II)V" } : Jvm.MethodName)) ∈ TB := tbm (tb_2 (List.mem_of_getElem? (i := 149) rfl)) rfl
theorem w487 : (Jvm.Cond.static ({ cls := "java/lang/String", name := "checkIndex", desc := "(II)V" } : Jvm.MethodName)) ∈ TB := tbm (tb_2 (List.mem_of_getElem? (i := 150) rfl)) rfl
theorem w488 : (Jvm.Cond.code ({ cls := "java/lang/String", name := "checkIndex", desc := "(II)V" } : Jvm.MethodName) prog_12_method_155_code (2 : Nat) (Option.none : Option Jvm.ClassFile.FieldType)) ∈ TB := tbm (tb_2 (List.mem_of_getElem? (i := 151) rfl)) rfl
theorem w489 : (Jvm.Cond.fieldLink "java/lang/String" (1053 : Nat) "jdk/internal/util/Preconditions" "SIOOBE_FORMATTER" "Ljava/util/function/BiFunction;") ∈ TB := tbm (tb_2 (List.mem_of_getElem? (i := 152) rfl)) rfl
theorem w491 : (Jvm.Cond.methodLink "java/lang/String" (1059 : Nat) ({ cls := "jdk/internal/util/Preconditions", name := "checkIndex", desc := "(IILjava/util/function/BiFunction;)I" } : Jvm.MethodName)) ∈ TB := tbm (tb_2 (List.mem_of_getElem? (i := 154) rfl)) rfl
theorem w492 : (Jvm.Cond.static ({ cls := "jdk/internal/util/Preconditions", name := "checkIndex", desc := "(IILjava/util/function/BiFunction;)I" } : Jvm.MethodName)) ∈ TB := tbm (tb_2 (List.mem_of_getElem? (i := 155) rfl)) rfl
theorem w493 : (Jvm.Cond.code ({ cls := "jdk/internal/util/Preconditions", name := "checkIndex", desc := "(IILjava/util/function/BiFunction;)I" } : Jvm.MethodName) prog_16_method_11_code (3 : Nat) (Option.some Jvm.ClassFile.FieldType.int)) ∈ TB := tbm (tb_2 (List.mem_of_getElem? (i := 156) rfl)) rfl
theorem w513 : (Jvm.Cond.methodLink "KinInTheHeap$Reader" (75 : Nat) ({ cls := "KinInTheHeap$Reader", name := "numberToken", desc := "(II)I" } : Jvm.MethodName)) ∈ TB := tbm (tb_2 (List.mem_of_getElem? (i := 176) rfl)) rfl
theorem w515 : (Jvm.Cond.instanceMethod ({ cls := "KinInTheHeap$Reader", name := "numberToken", desc := "(II)I" } : Jvm.MethodName)) ∈ TB := tbm (tb_2 (List.mem_of_getElem? (i := 178) rfl)) rfl
theorem w516 : (Jvm.Cond.code ({ cls := "KinInTheHeap$Reader", name := "numberToken", desc := "(II)I" } : Jvm.MethodName) prog_3_method_9_code (5 : Nat) (Option.some Jvm.ClassFile.FieldType.int)) ∈ TB := tbm (tb_2 (List.mem_of_getElem? (i := 179) rfl)) rfl
theorem w518 : (Jvm.Cond.methodLink "KinInTheHeap$Reader" (80 : Nat) ({ cls := "java/lang/String", name := "indexOf", desc := "(I)I" } : Jvm.MethodName)) ∈ TB := tbm (tb_2 (List.mem_of_getElem? (i := 181) rfl)) rfl
theorem w519 : (Jvm.Cond.instanceMethod ({ cls := "java/lang/String", name := "indexOf", desc := "(I)I" } : Jvm.MethodName)) ∈ TB := tbm (tb_2 (List.mem_of_getElem? (i := 182) rfl)) rfl
theorem w520 : (Jvm.Cond.selects "java/lang/String" ({ cls := "java/lang/String", name := "indexOf", desc := "(I)I" } : Jvm.MethodName) ({ cls := "java/lang/String", name := "indexOf", desc := "(I)I" } : Jvm.MethodName)) ∈ TB := tbm (tb_2 (List.mem_of_getElem? (i := 183) rfl)) rfl
theorem w521 : (Jvm.Cond.code ({ cls := "java/lang/String", name := "indexOf", desc := "(I)I" } : Jvm.MethodName) prog_12_method_79_code (2 : Nat) (Option.some Jvm.ClassFile.FieldType.int)) ∈ TB := tbm (tb_2 (List.mem_of_getElem? (i := 184) rfl)) rfl
theorem w522 : (Jvm.Cond.methodLink "java/lang/String" (633 : Nat) ({ cls := "java/lang/String", name := "indexOf", desc := "(II)I" } : Jvm.MethodName)) ∈ TB := tbm (tb_2 (List.mem_of_getElem? (i := 185) rfl)) rfl
theorem w523 : (Jvm.Cond.instanceMethod ({ cls := "java/lang/String", name := "indexOf", desc := "(II)I" } : Jvm.MethodName)) ∈ TB := tbm (tb_2 (List.mem_of_getElem? (i := 186) rfl)) rfl
theorem w524 : (Jvm.Cond.selects "java/lang/String" ({ cls := "java/lang/String", name := "indexOf", desc := "(II)I" } : Jvm.MethodName) ({ cls := "java/lang/String", name := "indexOf", desc := "(II)I" } : Jvm.MethodName)) ∈ TB := tbm (tb_2 (List.mem_of_getElem? (i := 187) rfl)) rfl
theorem w525 : (Jvm.Cond.code ({ cls := "java/lang/String", name := "indexOf", desc := "(II)I" } : Jvm.MethodName) prog_12_method_80_code (3 : Nat) (Option.some Jvm.ClassFile.FieldType.int)) ∈ TB := tbm (tb_2 (List.mem_of_getElem? (i := 188) rfl)) rfl
theorem w526 : (Jvm.Cond.methodLink "java/lang/String" (505 : Nat) ({ cls := "java/lang/String", name := "length", desc := "()I" } : Jvm.MethodName)) ∈ TB := tbm (tb_2 (List.mem_of_getElem? (i := 189) rfl)) rfl
theorem w527 : (Jvm.Cond.methodLink "java/lang/String" (637 : Nat) ({ cls := "java/lang/StringLatin1", name := "indexOf", desc := "([BIII)I" } : Jvm.MethodName)) ∈ TB := tbm (tb_2 (List.mem_of_getElem? (i := 190) rfl)) rfl
theorem w528 : (Jvm.Cond.static ({ cls := "java/lang/StringLatin1", name := "indexOf", desc := "([BIII)I" } : Jvm.MethodName)) ∈ TB := tbm (tb_2 (List.mem_of_getElem? (i := 191) rfl)) rfl
theorem w529 : (Jvm.Cond.code ({ cls := "java/lang/StringLatin1", name := "indexOf", desc := "([BIII)I" } : Jvm.MethodName) prog_13_method_22_code (4 : Nat) (Option.some Jvm.ClassFile.FieldType.int)) ∈ TB := tbm (tb_2 (List.mem_of_getElem? (i := 192) rfl)) rfl
theorem w530 : (Jvm.Cond.methodLink "java/lang/StringLatin1" (88 : Nat) ({ cls := "java/lang/StringLatin1", name := "canEncode", desc := "(I)Z" } : Jvm.MethodName)) ∈ TB := tbm (tb_2 (List.mem_of_getElem? (i := 193) rfl)) rfl
theorem w531 : (Jvm.Cond.static ({ cls := "java/lang/StringLatin1", name := "canEncode", desc := "(I)Z" } : Jvm.MethodName)) ∈ TB := tbm (tb_2 (List.mem_of_getElem? (i := 194) rfl)) rfl
theorem w532 : (Jvm.Cond.code ({ cls := "java/lang/StringLatin1", name := "canEncode", desc := "(I)Z" } : Jvm.MethodName) prog_13_method_4_code (1 : Nat) (Option.some Jvm.ClassFile.FieldType.boolean)) ∈ TB := tbm (tb_2 (List.mem_of_getElem? (i := 195) rfl)) rfl
theorem w533 : (Jvm.Cond.methodLink "java/lang/StringLatin1" (92 : Nat) ({ cls := "java/lang/Math", name := "max", desc := "(II)I" } : Jvm.MethodName)) ∈ TB := tbm (tb_2 (List.mem_of_getElem? (i := 196) rfl)) rfl
theorem w534 : (Jvm.Cond.methodLink "java/lang/StringLatin1" (38 : Nat) ({ cls := "java/lang/Math", name := "min", desc := "(II)I" } : Jvm.MethodName)) ∈ TB := tbm (tb_2 (List.mem_of_getElem? (i := 197) rfl)) rfl
theorem w535 : (Jvm.Cond.methodLink "java/lang/StringLatin1" (95 : Nat) ({ cls := "java/lang/StringLatin1", name := "indexOfChar", desc := "([BIII)I" } : Jvm.MethodName)) ∈ TB := tbm (tb_2 (List.mem_of_getElem? (i := 198) rfl)) rfl
theorem w536 : (Jvm.Cond.static ({ cls := "java/lang/StringLatin1", name := "indexOfChar", desc := "([BIII)I" } : Jvm.MethodName)) ∈ TB := tbm (tb_2 (List.mem_of_getElem? (i := 199) rfl)) rfl
theorem w537 : (Jvm.Cond.code ({ cls := "java/lang/StringLatin1", name := "indexOfChar", desc := "([BIII)I" } : Jvm.MethodName) prog_13_method_23_code (6 : Nat) (Option.some Jvm.ClassFile.FieldType.int)) ∈ TB := tbm (tb_2 (List.mem_of_getElem? (i := 200) rfl)) rfl
theorem w551 : (Jvm.Cond.static ({ cls := "java/lang/String", name := "checkBoundsBeginEnd", desc := "(III)V" } : Jvm.MethodName)) ∈ TB := tbm (tb_2 (List.mem_of_getElem? (i := 214) rfl)) rfl
theorem w552 : (Jvm.Cond.code ({ cls := "java/lang/String", name := "checkBoundsBeginEnd", desc := "(III)V" } : Jvm.MethodName) prog_12_method_158_code (3 : Nat) (Option.none : Option Jvm.ClassFile.FieldType)) ∈ TB := tbm (tb_2 (List.mem_of_getElem? (i := 215) rfl)) rfl
theorem w553 : (Jvm.Cond.methodLink "java/lang/String" (1062 : Nat) ({ cls := "jdk/internal/util/Preconditions", name := "checkFromToIndex", desc := "(IIILjava/util/function/BiFunction;)I" } : Jvm.MethodName)) ∈ TB := tbm (tb_2 (List.mem_of_getElem? (i := 216) rfl)) rfl
theorem w554 : (Jvm.Cond.static ({ cls := "jdk/internal/util/Preconditions", name := "checkFromToIndex", desc := "(IIILjava/util/function/BiFunction;)I" } : Jvm.MethodName)) ∈ TB := tbm (tb_2 (List.mem_of_getElem? (i := 217) rfl)) rfl
theorem w555 : (Jvm.Cond.code ({ cls := "jdk/internal/util/Preconditions", name := "checkFromToIndex", desc := "(IIILjava/util/function/BiFunction;)I" } : Jvm.MethodName) prog_16_method_12_code (4 : Nat) (Option.some Jvm.ClassFile.FieldType.int)) ∈ TB := tbm (tb_2 (List.mem_of_getElem? (i := 218) rfl)) rfl
theorem w573 : (Jvm.Cond.methodLink "KinInTheHeap$Reader" (62 : Nat) ({ cls := "KinInTheHeap$Reader", name := "addToken", desc := "(II)V" } : Jvm.MethodName)) ∈ TB := tbm (tb_2 (List.mem_of_getElem? (i := 236) rfl)) rfl
theorem w575 : (Jvm.Cond.instanceMethod ({ cls := "KinInTheHeap$Reader", name := "addToken", desc := "(II)V" } : Jvm.MethodName)) ∈ TB := tbm (tb_2 (List.mem_of_getElem? (i := 238) rfl)) rfl
theorem w576 : (Jvm.Cond.code ({ cls := "KinInTheHeap$Reader", name := "addToken", desc := "(II)V" } : Jvm.MethodName) prog_3_method_6_code (3 : Nat) (Option.none : Option Jvm.ClassFile.FieldType)) ∈ TB := tbm (tb_2 (List.mem_of_getElem? (i := 239) rfl)) rfl
theorem w577 : (Jvm.Cond.methodLink "KinInTheHeap$Reader" (31 : Nat) ({ cls := "KinInTheHeap$Text", name := "clear", desc := "()V" } : Jvm.MethodName)) ∈ TB := tbm (tb_3 (List.mem_of_getElem? (i := 0) rfl)) rfl
theorem w578 : (Jvm.Cond.methodLink "KinInTheHeap$Reader" (39 : Nat) ({ cls := "KinInTheHeap$Reader", name := "readPart", desc := "(ILKinInTheHeap$Text;)Z" } : Jvm.MethodName)) ∈ TB := tbm (tb_3 (List.mem_of_getElem? (i := 1) rfl)) rfl
theorem w580 : (Jvm.Cond.instanceMethod ({ cls := "KinInTheHeap$Reader", name := "readPart", desc := "(ILKinInTheHeap$Text;)Z" } : Jvm.MethodName)) ∈ TB := tbm (tb_3 (List.mem_of_getElem? (i := 3) rfl)) rfl
theorem w581 : (Jvm.Cond.code ({ cls := "KinInTheHeap$Reader", name := "readPart", desc := "(ILKinInTheHeap$Text;)Z" } : Jvm.MethodName) prog_3_method_17_code (5 : Nat) (Option.some Jvm.ClassFile.FieldType.boolean)) ∈ TB := tbm (tb_3 (List.mem_of_getElem? (i := 4) rfl)) rfl
theorem w582 : (Jvm.Cond.methodLink "KinInTheHeap$Reader" (47 : Nat) ({ cls := "KinInTheHeap$Reader", name := "isToken", desc := "(I)Z" } : Jvm.MethodName)) ∈ TB := tbm (tb_3 (List.mem_of_getElem? (i := 5) rfl)) rfl
theorem w584 : (Jvm.Cond.instanceMethod ({ cls := "KinInTheHeap$Reader", name := "isToken", desc := "(I)Z" } : Jvm.MethodName)) ∈ TB := tbm (tb_3 (List.mem_of_getElem? (i := 7) rfl)) rfl
theorem w585 : (Jvm.Cond.code ({ cls := "KinInTheHeap$Reader", name := "isToken", desc := "(I)Z" } : Jvm.MethodName) prog_3_method_15_code (2 : Nat) (Option.some Jvm.ClassFile.FieldType.boolean)) ∈ TB := tbm (tb_3 (List.mem_of_getElem? (i := 8) rfl)) rfl
theorem w586 : (Jvm.Cond.methodLink "KinInTheHeap$Reader" (134 : Nat) ({ cls := "KinInTheHeap$Text", name := "add", desc := "(I)V" } : Jvm.MethodName)) ∈ TB := tbm (tb_3 (List.mem_of_getElem? (i := 9) rfl)) rfl
theorem w587 : (Jvm.Cond.methodLink "KinInTheHeap$Reader" (138 : Nat) ({ cls := "KinInTheHeap$Reader", name := "opens", desc := "(I)Z" } : Jvm.MethodName)) ∈ TB := tbm (tb_3 (List.mem_of_getElem? (i := 10) rfl)) rfl
theorem w589 : (Jvm.Cond.instanceMethod ({ cls := "KinInTheHeap$Reader", name := "opens", desc := "(I)Z" } : Jvm.MethodName)) ∈ TB := tbm (tb_3 (List.mem_of_getElem? (i := 12) rfl)) rfl
theorem w590 : (Jvm.Cond.code ({ cls := "KinInTheHeap$Reader", name := "opens", desc := "(I)Z" } : Jvm.MethodName) prog_3_method_18_code (3 : Nat) (Option.some Jvm.ClassFile.FieldType.boolean)) ∈ TB := tbm (tb_3 (List.mem_of_getElem? (i := 13) rfl)) rfl
theorem w591 : (Jvm.Cond.methodLink "KinInTheHeap$Reader" (151 : Nat) ({ cls := "KinInTheHeap$Reader", name := "lastRank", desc := "()I" } : Jvm.MethodName)) ∈ TB := tbm (tb_3 (List.mem_of_getElem? (i := 14) rfl)) rfl
theorem w593 : (Jvm.Cond.instanceMethod ({ cls := "KinInTheHeap$Reader", name := "lastRank", desc := "()I" } : Jvm.MethodName)) ∈ TB := tbm (tb_3 (List.mem_of_getElem? (i := 16) rfl)) rfl
theorem w594 : (Jvm.Cond.code ({ cls := "KinInTheHeap$Reader", name := "lastRank", desc := "()I" } : Jvm.MethodName) prog_3_method_24_code (1 : Nat) (Option.some Jvm.ClassFile.FieldType.int)) ∈ TB := tbm (tb_3 (List.mem_of_getElem? (i := 17) rfl)) rfl
theorem w595 : (Jvm.Cond.methodLink "KinInTheHeap$Reader" (154 : Nat) ({ cls := "KinInTheHeap$Reader", name := "rank", desc := "(I)I" } : Jvm.MethodName)) ∈ TB := tbm (tb_3 (List.mem_of_getElem? (i := 18) rfl)) rfl
theorem w596 : (Jvm.Cond.static ({ cls := "KinInTheHeap$Reader", name := "rank", desc := "(I)I" } : Jvm.MethodName)) ∈ TB := tbm (tb_3 (List.mem_of_getElem? (i := 19) rfl)) rfl
theorem w597 : (Jvm.Cond.code ({ cls := "KinInTheHeap$Reader", name := "rank", desc := "(I)I" } : Jvm.MethodName) prog_3_method_25_code (1 : Nat) (Option.some Jvm.ClassFile.FieldType.int)) ∈ TB := tbm (tb_3 (List.mem_of_getElem? (i := 20) rfl)) rfl
theorem w598 : (Jvm.Cond.methodLink "KinInTheHeap$Reader" (157 : Nat) ({ cls := "KinInTheHeap$Reader", name := "putToWait", desc := "(I)V" } : Jvm.MethodName)) ∈ TB := tbm (tb_3 (List.mem_of_getElem? (i := 21) rfl)) rfl
theorem w600 : (Jvm.Cond.instanceMethod ({ cls := "KinInTheHeap$Reader", name := "putToWait", desc := "(I)V" } : Jvm.MethodName)) ∈ TB := tbm (tb_3 (List.mem_of_getElem? (i := 23) rfl)) rfl
theorem w601 : (Jvm.Cond.code ({ cls := "KinInTheHeap$Reader", name := "putToWait", desc := "(I)V" } : Jvm.MethodName) prog_3_method_22_code (2 : Nat) (Option.none : Option Jvm.ClassFile.FieldType)) ∈ TB := tbm (tb_3 (List.mem_of_getElem? (i := 24) rfl)) rfl
theorem w602 : (Jvm.Cond.methodLink "KinInTheHeap$Reader" (141 : Nat) ({ cls := "KinInTheHeap$Reader", name := "ends", desc := "(LKinInTheHeap$Text;)Z" } : Jvm.MethodName)) ∈ TB := tbm (tb_3 (List.mem_of_getElem? (i := 25) rfl)) rfl
theorem w604 : (Jvm.Cond.instanceMethod ({ cls := "KinInTheHeap$Reader", name := "ends", desc := "(LKinInTheHeap$Text;)Z" } : Jvm.MethodName)) ∈ TB := tbm (tb_3 (List.mem_of_getElem? (i := 27) rfl)) rfl
theorem w605 : (Jvm.Cond.code ({ cls := "KinInTheHeap$Reader", name := "ends", desc := "(LKinInTheHeap$Text;)Z" } : Jvm.MethodName) prog_3_method_19_code (2 : Nat) (Option.some Jvm.ClassFile.FieldType.boolean)) ∈ TB := tbm (tb_3 (List.mem_of_getElem? (i := 28) rfl)) rfl
theorem w606 : (Jvm.Cond.methodLink "KinInTheHeap$Reader" (160 : Nat) ({ cls := "KinInTheHeap$Reader", name := "letGo", desc := "(ILKinInTheHeap$Text;)V" } : Jvm.MethodName)) ∈ TB := tbm (tb_3 (List.mem_of_getElem? (i := 29) rfl)) rfl
theorem w608 : (Jvm.Cond.instanceMethod ({ cls := "KinInTheHeap$Reader", name := "letGo", desc := "(ILKinInTheHeap$Text;)V" } : Jvm.MethodName)) ∈ TB := tbm (tb_3 (List.mem_of_getElem? (i := 31) rfl)) rfl
theorem w609 : (Jvm.Cond.code ({ cls := "KinInTheHeap$Reader", name := "letGo", desc := "(ILKinInTheHeap$Text;)V" } : Jvm.MethodName) prog_3_method_23_code (4 : Nat) (Option.none : Option Jvm.ClassFile.FieldType)) ∈ TB := tbm (tb_3 (List.mem_of_getElem? (i := 32) rfl)) rfl
theorem w610 : (Jvm.Cond.methodLink "KinInTheHeap$Reader" (164 : Nat) ({ cls := "KinInTheHeap$Text", name := "endPart", desc := "()V" } : Jvm.MethodName)) ∈ TB := tbm (tb_3 (List.mem_of_getElem? (i := 33) rfl)) rfl
theorem w611 : (Jvm.Cond.methodLink "KinInTheHeap$Reader" (145 : Nat) ({ cls := "KinInTheHeap$Reader", name := "closes", desc := "(LKinInTheHeap$Text;)Z" } : Jvm.MethodName)) ∈ TB := tbm (tb_3 (List.mem_of_getElem? (i := 34) rfl)) rfl
theorem w613 : (Jvm.Cond.instanceMethod ({ cls := "KinInTheHeap$Reader", name := "closes", desc := "(LKinInTheHeap$Text;)Z" } : Jvm.MethodName)) ∈ TB := tbm (tb_3 (List.mem_of_getElem? (i := 36) rfl)) rfl
theorem w614 : (Jvm.Cond.code ({ cls := "KinInTheHeap$Reader", name := "closes", desc := "(LKinInTheHeap$Text;)Z" } : Jvm.MethodName) prog_3_method_20_code (2 : Nat) (Option.some Jvm.ClassFile.FieldType.boolean)) ∈ TB := tbm (tb_3 (List.mem_of_getElem? (i := 37) rfl)) rfl
theorem w615 : (Jvm.Cond.methodLink "KinInTheHeap$Reader" (148 : Nat) ({ cls := "KinInTheHeap$Reader", name := "joins", desc := "(ILKinInTheHeap$Text;)Z" } : Jvm.MethodName)) ∈ TB := tbm (tb_3 (List.mem_of_getElem? (i := 38) rfl)) rfl
theorem w617 : (Jvm.Cond.instanceMethod ({ cls := "KinInTheHeap$Reader", name := "joins", desc := "(ILKinInTheHeap$Text;)Z" } : Jvm.MethodName)) ∈ TB := tbm (tb_3 (List.mem_of_getElem? (i := 40) rfl)) rfl
theorem w618 : (Jvm.Cond.code ({ cls := "KinInTheHeap$Reader", name := "joins", desc := "(ILKinInTheHeap$Text;)Z" } : Jvm.MethodName) prog_3_method_21_code (4 : Nat) (Option.some Jvm.ClassFile.FieldType.boolean)) ∈ TB := tbm (tb_3 (List.mem_of_getElem? (i := 41) rfl)) rfl
theorem w619 : (Jvm.Cond.methodLink "KinInTheHeap$Reader" (43 : Nat) ({ cls := "KinInTheHeap$Reader", name := "placeOfToken", desc := "()I" } : Jvm.MethodName)) ∈ TB := tbm (tb_3 (List.mem_of_getElem? (i := 42) rfl)) rfl
theorem w621 : (Jvm.Cond.instanceMethod ({ cls := "KinInTheHeap$Reader", name := "placeOfToken", desc := "()I" } : Jvm.MethodName)) ∈ TB := tbm (tb_3 (List.mem_of_getElem? (i := 44) rfl)) rfl
theorem w622 : (Jvm.Cond.code ({ cls := "KinInTheHeap$Reader", name := "placeOfToken", desc := "()I" } : Jvm.MethodName) prog_3_method_16_code (1 : Nat) (Option.some Jvm.ClassFile.FieldType.int)) ∈ TB := tbm (tb_3 (List.mem_of_getElem? (i := 45) rfl)) rfl
theorem w623 : (Jvm.Cond.methodLink "KinInTheHeap" (114 : Nat) ({ cls := "KinInTheHeap$Reader", name := "clear", desc := "()V" } : Jvm.MethodName)) ∈ TB := tbm (tb_3 (List.mem_of_getElem? (i := 46) rfl)) rfl
theorem w624 : (Jvm.Cond.instanceMethod ({ cls := "KinInTheHeap$Reader", name := "clear", desc := "()V" } : Jvm.MethodName)) ∈ TB := tbm (tb_3 (List.mem_of_getElem? (i := 47) rfl)) rfl
theorem w625 : (Jvm.Cond.selects "KinInTheHeap$Reader" ({ cls := "KinInTheHeap$Reader", name := "clear", desc := "()V" } : Jvm.MethodName) ({ cls := "KinInTheHeap$Reader", name := "clear", desc := "()V" } : Jvm.MethodName)) ∈ TB := tbm (tb_3 (List.mem_of_getElem? (i := 48) rfl)) rfl
theorem w626 : (Jvm.Cond.code ({ cls := "KinInTheHeap$Reader", name := "clear", desc := "()V" } : Jvm.MethodName) prog_3_method_3_code (1 : Nat) (Option.none : Option Jvm.ClassFile.FieldType)) ∈ TB := tbm (tb_3 (List.mem_of_getElem? (i := 49) rfl)) rfl
theorem w627 : (Jvm.Cond.arrayClass Jvm.ClassFile.FieldType.byte) ∈ TB := tbm (tb_3 (List.mem_of_getElem? (i := 50) rfl)) rfl
theorem w628 : (Jvm.Cond.methodLink "KinInTheHeapLaw" (37 : Nat) ({ cls := "KinInTheHeap", name := "force", desc := "(I)I" } : Jvm.MethodName)) ∈ TB := tbm (tb_3 (List.mem_of_getElem? (i := 51) rfl)) rfl
theorem w629 : (Jvm.Cond.instanceMethod ({ cls := "KinInTheHeap", name := "force", desc := "(I)I" } : Jvm.MethodName)) ∈ TB := tbm (tb_3 (List.mem_of_getElem? (i := 52) rfl)) rfl
theorem w630 : (Jvm.Cond.selects "KinInTheHeap" ({ cls := "KinInTheHeap", name := "force", desc := "(I)I" } : Jvm.MethodName) ({ cls := "KinInTheHeap", name := "force", desc := "(I)I" } : Jvm.MethodName)) ∈ TB := tbm (tb_3 (List.mem_of_getElem? (i := 53) rfl)) rfl
theorem w631 : (Jvm.Cond.code ({ cls := "KinInTheHeap", name := "force", desc := "(I)I" } : Jvm.MethodName) prog_1_method_7_code (3 : Nat) (Option.some Jvm.ClassFile.FieldType.int)) ∈ TB := tbm (tb_3 (List.mem_of_getElem? (i := 54) rfl)) rfl
theorem w632 : (Jvm.Cond.methodLink "KinInTheHeapLaw" (41 : Nat) ({ cls := "KinInTheHeap", name := "stroke", desc := "(I)I" } : Jvm.MethodName)) ∈ TB := tbm (tb_3 (List.mem_of_getElem? (i := 55) rfl)) rfl
theorem w633 : (Jvm.Cond.instanceMethod ({ cls := "KinInTheHeap", name := "stroke", desc := "(I)I" } : Jvm.MethodName)) ∈ TB := tbm (tb_3 (List.mem_of_getElem? (i := 56) rfl)) rfl
theorem w634 : (Jvm.Cond.selects "KinInTheHeap" ({ cls := "KinInTheHeap", name := "stroke", desc := "(I)I" } : Jvm.MethodName) ({ cls := "KinInTheHeap", name := "stroke", desc := "(I)I" } : Jvm.MethodName)) ∈ TB := tbm (tb_3 (List.mem_of_getElem? (i := 57) rfl)) rfl
theorem w635 : (Jvm.Cond.code ({ cls := "KinInTheHeap", name := "stroke", desc := "(I)I" } : Jvm.MethodName) prog_1_method_8_code (2 : Nat) (Option.some Jvm.ClassFile.FieldType.int)) ∈ TB := tbm (tb_3 (List.mem_of_getElem? (i := 58) rfl)) rfl
theorem w636 : (Jvm.Cond.methodLink "KinInTheHeap" (120 : Nat) ({ cls := "KinInTheHeap", name := "isStroke", desc := "(I)Z" } : Jvm.MethodName)) ∈ TB := tbm (tb_3 (List.mem_of_getElem? (i := 59) rfl)) rfl
theorem w637 : (Jvm.Cond.static ({ cls := "KinInTheHeap", name := "isStroke", desc := "(I)Z" } : Jvm.MethodName)) ∈ TB := tbm (tb_3 (List.mem_of_getElem? (i := 60) rfl)) rfl
theorem w638 : (Jvm.Cond.code ({ cls := "KinInTheHeap", name := "isStroke", desc := "(I)Z" } : Jvm.MethodName) prog_1_method_33_code (1 : Nat) (Option.some Jvm.ClassFile.FieldType.boolean)) ∈ TB := tbm (tb_3 (List.mem_of_getElem? (i := 61) rfl)) rfl
theorem w639 : (Jvm.Cond.methodLink "KinInTheHeap" (123 : Nat) ({ cls := "KinInTheHeap$Floor", name := "brush", desc := "(I)I" } : Jvm.MethodName)) ∈ TB := tbm (tb_3 (List.mem_of_getElem? (i := 62) rfl)) rfl
theorem w640 : (Jvm.Cond.instanceMethod ({ cls := "KinInTheHeap$Floor", name := "brush", desc := "(I)I" } : Jvm.MethodName)) ∈ TB := tbm (tb_3 (List.mem_of_getElem? (i := 63) rfl)) rfl
theorem w641 : (Jvm.Cond.selects "KinInTheHeap$Floor" ({ cls := "KinInTheHeap$Floor", name := "brush", desc := "(I)I" } : Jvm.MethodName) ({ cls := "KinInTheHeap$Floor", name := "brush", desc := "(I)I" } : Jvm.MethodName)) ∈ TB := tbm (tb_3 (List.mem_of_getElem? (i := 64) rfl)) rfl
theorem w642 : (Jvm.Cond.code ({ cls := "KinInTheHeap$Floor", name := "brush", desc := "(I)I" } : Jvm.MethodName) prog_2_method_20_code (4 : Nat) (Option.some Jvm.ClassFile.FieldType.int)) ∈ TB := tbm (tb_3 (List.mem_of_getElem? (i := 65) rfl)) rfl
theorem w643 : (Jvm.Cond.methodLink "KinInTheHeap$Floor" (104 : Nat) ({ cls := "KinInTheHeap$Floor", name := "isInLine", desc := "(II)Z" } : Jvm.MethodName)) ∈ TB := tbm (tb_3 (List.mem_of_getElem? (i := 66) rfl)) rfl
theorem w644 : (Jvm.Cond.static ({ cls := "KinInTheHeap$Floor", name := "isInLine", desc := "(II)Z" } : Jvm.MethodName)) ∈ TB := tbm (tb_3 (List.mem_of_getElem? (i := 67) rfl)) rfl
theorem w645 : (Jvm.Cond.code ({ cls := "KinInTheHeap$Floor", name := "isInLine", desc := "(II)Z" } : Jvm.MethodName) prog_2_method_27_code (2 : Nat) (Option.some Jvm.ClassFile.FieldType.boolean)) ∈ TB := tbm (tb_3 (List.mem_of_getElem? (i := 68) rfl)) rfl
theorem w646 : (Jvm.Cond.methodLink "KinInTheHeap$Floor" (108 : Nat) ({ cls := "KinInTheHeap$Floor", name := "isCracked", desc := "(I)Z" } : Jvm.MethodName)) ∈ TB := tbm (tb_3 (List.mem_of_getElem? (i := 69) rfl)) rfl
theorem w647 : (Jvm.Cond.methodLink "KinInTheHeap$Floor" (111 : Nat) ({ cls := "KinInTheHeap$Floor", name := "isFree", desc := "(I)Z" } : Jvm.MethodName)) ∈ TB := tbm (tb_3 (List.mem_of_getElem? (i := 70) rfl)) rfl
theorem w648 : (Jvm.Cond.methodLink "KinInTheHeap$Floor" (114 : Nat) ({ cls := "KinInTheHeap$Floor", name := "far", desc := "(I)I" } : Jvm.MethodName)) ∈ TB := tbm (tb_3 (List.mem_of_getElem? (i := 71) rfl)) rfl
theorem w649 : (Jvm.Cond.methodLink "KinInTheHeap$Floor" (117 : Nat) ({ cls := "KinInTheHeap$Floor", name := "swept", desc := "(III)I" } : Jvm.MethodName)) ∈ TB := tbm (tb_3 (List.mem_of_getElem? (i := 72) rfl)) rfl
theorem w651 : (Jvm.Cond.instanceMethod ({ cls := "KinInTheHeap$Floor", name := "swept", desc := "(III)I" } : Jvm.MethodName)) ∈ TB := tbm (tb_3 (List.mem_of_getElem? (i := 74) rfl)) rfl
theorem w652 : (Jvm.Cond.code ({ cls := "KinInTheHeap$Floor", name := "swept", desc := "(III)I" } : Jvm.MethodName) prog_2_method_22_code (6 : Nat) (Option.some Jvm.ClassFile.FieldType.int)) ∈ TB := tbm (tb_3 (List.mem_of_getElem? (i := 75) rfl)) rfl
theorem w653 : (Jvm.Cond.methodLink "KinInTheHeap$Floor" (128 : Nat) ({ cls := "KinInTheHeap$Floor", name := "stepped", desc := "(II)I" } : Jvm.MethodName)) ∈ TB := tbm (tb_3 (List.mem_of_getElem? (i := 76) rfl)) rfl
theorem w654 : (Jvm.Cond.static ({ cls := "KinInTheHeap$Floor", name := "stepped", desc := "(II)I" } : Jvm.MethodName)) ∈ TB := tbm (tb_3 (List.mem_of_getElem? (i := 77) rfl)) rfl
theorem w655 : (Jvm.Cond.code ({ cls := "KinInTheHeap$Floor", name := "stepped", desc := "(II)I" } : Jvm.MethodName) prog_2_method_28_code (2 : Nat) (Option.some Jvm.ClassFile.FieldType.int)) ∈ TB := tbm (tb_3 (List.mem_of_getElem? (i := 78) rfl)) rfl
theorem w656 : (Jvm.Cond.methodLink "KinInTheHeap$Floor" (121 : Nat) ({ cls := "KinInTheHeap$Floor", name := "settle", desc := "()I" } : Jvm.MethodName)) ∈ TB := tbm (tb_3 (List.mem_of_getElem? (i := 79) rfl)) rfl
theorem w658 : (Jvm.Cond.instanceMethod ({ cls := "KinInTheHeap$Floor", name := "settle", desc := "()I" } : Jvm.MethodName)) ∈ TB := tbm (tb_3 (List.mem_of_getElem? (i := 81) rfl)) rfl
theorem w659 : (Jvm.Cond.code ({ cls := "KinInTheHeap$Floor", name := "settle", desc := "()I" } : Jvm.MethodName) prog_2_method_23_code (3 : Nat) (Option.some Jvm.ClassFile.FieldType.int)) ∈ TB := tbm (tb_3 (List.mem_of_getElem? (i := 82) rfl)) rfl
theorem w660 : (Jvm.Cond.methodLink "KinInTheHeapLaw" (45 : Nat) ({ cls := "KinInTheHeap", name := "week", desc := "()I" } : Jvm.MethodName)) ∈ TB := tbm (tb_3 (List.mem_of_getElem? (i := 83) rfl)) rfl
theorem w661 : (Jvm.Cond.instanceMethod ({ cls := "KinInTheHeap", name := "week", desc := "()I" } : Jvm.MethodName)) ∈ TB := tbm (tb_3 (List.mem_of_getElem? (i := 84) rfl)) rfl
theorem w662 : (Jvm.Cond.selects "KinInTheHeap" ({ cls := "KinInTheHeap", name := "week", desc := "()I" } : Jvm.MethodName) ({ cls := "KinInTheHeap", name := "week", desc := "()I" } : Jvm.MethodName)) ∈ TB := tbm (tb_3 (List.mem_of_getElem? (i := 85) rfl)) rfl
theorem w663 : (Jvm.Cond.code ({ cls := "KinInTheHeap", name := "week", desc := "()I" } : Jvm.MethodName) prog_1_method_9_code (1 : Nat) (Option.some Jvm.ClassFile.FieldType.int)) ∈ TB := tbm (tb_3 (List.mem_of_getElem? (i := 86) rfl)) rfl
theorem w664 : (Jvm.Cond.methodLink "KinInTheHeap" (126 : Nat) ({ cls := "KinInTheHeap$Floor", name := "drift", desc := "()I" } : Jvm.MethodName)) ∈ TB := tbm (tb_3 (List.mem_of_getElem? (i := 87) rfl)) rfl
theorem w665 : (Jvm.Cond.instanceMethod ({ cls := "KinInTheHeap$Floor", name := "drift", desc := "()I" } : Jvm.MethodName)) ∈ TB := tbm (tb_3 (List.mem_of_getElem? (i := 88) rfl)) rfl
theorem w666 : (Jvm.Cond.selects "KinInTheHeap$Floor" ({ cls := "KinInTheHeap$Floor", name := "drift", desc := "()I" } : Jvm.MethodName) ({ cls := "KinInTheHeap$Floor", name := "drift", desc := "()I" } : Jvm.MethodName)) ∈ TB := tbm (tb_3 (List.mem_of_getElem? (i := 89) rfl)) rfl
theorem w667 : (Jvm.Cond.code ({ cls := "KinInTheHeap$Floor", name := "drift", desc := "()I" } : Jvm.MethodName) prog_2_method_21_code (2 : Nat) (Option.some Jvm.ClassFile.FieldType.int)) ∈ TB := tbm (tb_3 (List.mem_of_getElem? (i := 90) rfl)) rfl
theorem w668 : (Jvm.Cond.methodLink "KinInTheHeap$Floor" (125 : Nat) ({ cls := "KinInTheHeap$Floor", name := "way", desc := "(I)I" } : Jvm.MethodName)) ∈ TB := tbm (tb_3 (List.mem_of_getElem? (i := 91) rfl)) rfl
theorem w669 : (Jvm.Cond.methodLink "KinInTheHeapLaw" (49 : Nat) ({ cls := "KinInTheHeap", name := "sweep", desc := "(II)I" } : Jvm.MethodName)) ∈ TB := tbm (tb_3 (List.mem_of_getElem? (i := 92) rfl)) rfl
theorem w670 : (Jvm.Cond.instanceMethod ({ cls := "KinInTheHeap", name := "sweep", desc := "(II)I" } : Jvm.MethodName)) ∈ TB := tbm (tb_3 (List.mem_of_getElem? (i := 93) rfl)) rfl
theorem w671 : (Jvm.Cond.selects "KinInTheHeap" ({ cls := "KinInTheHeap", name := "sweep", desc := "(II)I" } : Jvm.MethodName) ({ cls := "KinInTheHeap", name := "sweep", desc := "(II)I" } : Jvm.MethodName)) ∈ TB := tbm (tb_3 (List.mem_of_getElem? (i := 94) rfl)) rfl
theorem w672 : (Jvm.Cond.code ({ cls := "KinInTheHeap", name := "sweep", desc := "(II)I" } : Jvm.MethodName) prog_1_method_10_code (5 : Nat) (Option.some Jvm.ClassFile.FieldType.int)) ∈ TB := tbm (tb_3 (List.mem_of_getElem? (i := 95) rfl)) rfl
theorem w673 : (Jvm.Cond.methodLink "KinInTheHeap" (130 : Nat) ({ cls := "KinInTheHeap", name := "isSheet", desc := "(I)Z" } : Jvm.MethodName)) ∈ TB := tbm (tb_3 (List.mem_of_getElem? (i := 96) rfl)) rfl
theorem w674 : (Jvm.Cond.static ({ cls := "KinInTheHeap", name := "isSheet", desc := "(I)Z" } : Jvm.MethodName)) ∈ TB := tbm (tb_3 (List.mem_of_getElem? (i := 97) rfl)) rfl
theorem w675 : (Jvm.Cond.code ({ cls := "KinInTheHeap", name := "isSheet", desc := "(I)Z" } : Jvm.MethodName) prog_1_method_34_code (1 : Nat) (Option.some Jvm.ClassFile.FieldType.boolean)) ∈ TB := tbm (tb_3 (List.mem_of_getElem? (i := 98) rfl)) rfl
theorem w676 : (Jvm.Cond.methodLink "KinInTheHeap" (133 : Nat) ({ cls := "KinInTheHeap", name := "isSweepWhat", desc := "(I)Z" } : Jvm.MethodName)) ∈ TB := tbm (tb_3 (List.mem_of_getElem? (i := 99) rfl)) rfl
theorem w678 : (Jvm.Cond.instanceMethod ({ cls := "KinInTheHeap", name := "isSweepWhat", desc := "(I)Z" } : Jvm.MethodName)) ∈ TB := tbm (tb_3 (List.mem_of_getElem? (i := 101) rfl)) rfl
theorem w679 : (Jvm.Cond.code ({ cls := "KinInTheHeap", name := "isSweepWhat", desc := "(I)Z" } : Jvm.MethodName) prog_1_method_37_code (2 : Nat) (Option.some Jvm.ClassFile.FieldType.boolean)) ∈ TB := tbm (tb_3 (List.mem_of_getElem? (i := 102) rfl)) rfl
theorem w680 : (Jvm.Cond.methodLink "KinInTheHeap" (136 : Nat) ({ cls := "KinInTheHeap", name := "strokesRefused", desc := "(LKinInTheHeap$Sheet;)I" } : Jvm.MethodName)) ∈ TB := tbm (tb_3 (List.mem_of_getElem? (i := 103) rfl)) rfl
theorem w681 : (Jvm.Cond.static ({ cls := "KinInTheHeap", name := "strokesRefused", desc := "(LKinInTheHeap$Sheet;)I" } : Jvm.MethodName)) ∈ TB := tbm (tb_3 (List.mem_of_getElem? (i := 104) rfl)) rfl
theorem w682 : (Jvm.Cond.code ({ cls := "KinInTheHeap", name := "strokesRefused", desc := "(LKinInTheHeap$Sheet;)I" } : Jvm.MethodName) prog_1_method_46_code (2 : Nat) (Option.some Jvm.ClassFile.FieldType.int)) ∈ TB := tbm (tb_3 (List.mem_of_getElem? (i := 105) rfl)) rfl
theorem w683 : (Jvm.Cond.methodLink "KinInTheHeap" (252 : Nat) ({ cls := "KinInTheHeap$Sheet", name := "isMissing", desc := "()Z" } : Jvm.MethodName)) ∈ TB := tbm (tb_3 (List.mem_of_getElem? (i := 106) rfl)) rfl
theorem w684 : (Jvm.Cond.instanceMethod ({ cls := "KinInTheHeap$Sheet", name := "isMissing", desc := "()Z" } : Jvm.MethodName)) ∈ TB := tbm (tb_3 (List.mem_of_getElem? (i := 107) rfl)) rfl
theorem w685 : (Jvm.Cond.selects "KinInTheHeap$Sheet" ({ cls := "KinInTheHeap$Sheet", name := "isMissing", desc := "()Z" } : Jvm.MethodName) ({ cls := "KinInTheHeap$Sheet", name := "isMissing", desc := "()Z" } : Jvm.MethodName)) ∈ TB := tbm (tb_3 (List.mem_of_getElem? (i := 108) rfl)) rfl
theorem w686 : (Jvm.Cond.code ({ cls := "KinInTheHeap$Sheet", name := "isMissing", desc := "()Z" } : Jvm.MethodName) prog_4_method_2_code (1 : Nat) (Option.some Jvm.ClassFile.FieldType.boolean)) ∈ TB := tbm (tb_3 (List.mem_of_getElem? (i := 109) rfl)) rfl
theorem w687 : (Jvm.Cond.methodLink "KinInTheHeap" (140 : Nat) ({ cls := "KinInTheHeap$Floor", name := "become", desc := "(LKinInTheHeap$Floor;)V" } : Jvm.MethodName)) ∈ TB := tbm (tb_3 (List.mem_of_getElem? (i := 110) rfl)) rfl
theorem w688 : (Jvm.Cond.instanceMethod ({ cls := "KinInTheHeap$Floor", name := "become", desc := "(LKinInTheHeap$Floor;)V" } : Jvm.MethodName)) ∈ TB := tbm (tb_3 (List.mem_of_getElem? (i := 111) rfl)) rfl
theorem w689 : (Jvm.Cond.selects "KinInTheHeap$Floor" ({ cls := "KinInTheHeap$Floor", name := "become", desc := "(LKinInTheHeap$Floor;)V" } : Jvm.MethodName) ({ cls := "KinInTheHeap$Floor", name := "become", desc := "(LKinInTheHeap$Floor;)V" } : Jvm.MethodName)) ∈ TB := tbm (tb_3 (List.mem_of_getElem? (i := 112) rfl)) rfl
theorem w690 : (Jvm.Cond.code ({ cls := "KinInTheHeap$Floor", name := "become", desc := "(LKinInTheHeap$Floor;)V" } : Jvm.MethodName) prog_2_method_2_code (2 : Nat) (Option.none : Option Jvm.ClassFile.FieldType)) ∈ TB := tbm (tb_3 (List.mem_of_getElem? (i := 113) rfl)) rfl
theorem w691 : (Jvm.Cond.methodLink "KinInTheHeap$Floor" (35 : Nat) ({ cls := "java/lang/System", name := "arraycopy", desc := "(Ljava/lang/Object;ILjava/lang/Object;II)V" } : Jvm.MethodName)) ∈ TB := tbm (tb_3 (List.mem_of_getElem? (i := 114) rfl)) rfl
theorem w692 : (Jvm.Cond.static ({ cls := "java/lang/System", name := "arraycopy", desc := "(Ljava/lang/Object;ILjava/lang/Object;II)V" } : Jvm.MethodName)) ∈ TB := tbm (tb_3 (List.mem_of_getElem? (i := 115) rfl)) rfl
theorem w693 : (Jvm.Cond.native ({ cls := "java/lang/System", name := "arraycopy", desc := "(Ljava/lang/Object;ILjava/lang/Object;II)V" } : Jvm.MethodName)) ∈ TB := tbm (tb_3 (List.mem_of_getElem? (i := 116) rfl)) rfl
theorem w694 : (Jvm.Cond.methodLink "KinInTheHeap" (144 : Nat) ({ cls := "KinInTheHeap", name := "brushAll", desc := "(LKinInTheHeap$Floor;LKinInTheHeap$Sheet;)I" } : Jvm.MethodName)) ∈ TB := tbm (tb_3 (List.mem_of_getElem? (i := 117) rfl)) rfl
theorem w695 : (Jvm.Cond.static ({ cls := "KinInTheHeap", name := "brushAll", desc := "(LKinInTheHeap$Floor;LKinInTheHeap$Sheet;)I" } : Jvm.MethodName)) ∈ TB := tbm (tb_3 (List.mem_of_getElem? (i := 118) rfl)) rfl
theorem w696 : (Jvm.Cond.code ({ cls := "KinInTheHeap", name := "brushAll", desc := "(LKinInTheHeap$Floor;LKinInTheHeap$Sheet;)I" } : Jvm.MethodName) prog_1_method_47_code (4 : Nat) (Option.some Jvm.ClassFile.FieldType.int)) ∈ TB := tbm (tb_3 (List.mem_of_getElem? (i := 119) rfl)) rfl
theorem w697 : (Jvm.Cond.methodLink "KinInTheHeap" (148 : Nat) ({ cls := "KinInTheHeap", name := "measure", desc := "(LKinInTheHeap$Floor;I)I" } : Jvm.MethodName)) ∈ TB := tbm (tb_3 (List.mem_of_getElem? (i := 120) rfl)) rfl
theorem w698 : (Jvm.Cond.static ({ cls := "KinInTheHeap", name := "measure", desc := "(LKinInTheHeap$Floor;I)I" } : Jvm.MethodName)) ∈ TB := tbm (tb_3 (List.mem_of_getElem? (i := 121) rfl)) rfl
theorem w699 : (Jvm.Cond.code ({ cls := "KinInTheHeap", name := "measure", desc := "(LKinInTheHeap$Floor;I)I" } : Jvm.MethodName) prog_1_method_48_code (2 : Nat) (Option.some Jvm.ClassFile.FieldType.int)) ∈ TB := tbm (tb_3 (List.mem_of_getElem? (i := 122) rfl)) rfl
theorem w700 : (Jvm.Cond.methodLink "KinInTheHeap" (162 : Nat) ({ cls := "KinInTheHeap$Floor", name := "together", desc := "()I" } : Jvm.MethodName)) ∈ TB := tbm (tb_3 (List.mem_of_getElem? (i := 123) rfl)) rfl
theorem w701 : (Jvm.Cond.instanceMethod ({ cls := "KinInTheHeap$Floor", name := "together", desc := "()I" } : Jvm.MethodName)) ∈ TB := tbm (tb_3 (List.mem_of_getElem? (i := 124) rfl)) rfl
theorem w702 : (Jvm.Cond.selects "KinInTheHeap$Floor" ({ cls := "KinInTheHeap$Floor", name := "together", desc := "()I" } : Jvm.MethodName) ({ cls := "KinInTheHeap$Floor", name := "together", desc := "()I" } : Jvm.MethodName)) ∈ TB := tbm (tb_3 (List.mem_of_getElem? (i := 125) rfl)) rfl
theorem w703 : (Jvm.Cond.code ({ cls := "KinInTheHeap$Floor", name := "together", desc := "()I" } : Jvm.MethodName) prog_2_method_14_code (4 : Nat) (Option.some Jvm.ClassFile.FieldType.int)) ∈ TB := tbm (tb_3 (List.mem_of_getElem? (i := 126) rfl)) rfl
theorem w704 : (Jvm.Cond.methodLink "KinInTheHeap" (156 : Nat) ({ cls := "KinInTheHeap$Floor", name := "heaps", desc := "()I" } : Jvm.MethodName)) ∈ TB := tbm (tb_3 (List.mem_of_getElem? (i := 127) rfl)) rfl
theorem w705 : (Jvm.Cond.instanceMethod ({ cls := "KinInTheHeap$Floor", name := "heaps", desc := "()I" } : Jvm.MethodName)) ∈ TB := tbm (tb_3 (List.mem_of_getElem? (i := 128) rfl)) rfl
theorem w706 : (Jvm.Cond.selects "KinInTheHeap$Floor" ({ cls := "KinInTheHeap$Floor", name := "heaps", desc := "()I" } : Jvm.MethodName) ({ cls := "KinInTheHeap$Floor", name := "heaps", desc := "()I" } : Jvm.MethodName)) ∈ TB := tbm (tb_3 (List.mem_of_getElem? (i := 129) rfl)) rfl
theorem w707 : (Jvm.Cond.code ({ cls := "KinInTheHeap$Floor", name := "heaps", desc := "()I" } : Jvm.MethodName) prog_2_method_12_code (1 : Nat) (Option.some Jvm.ClassFile.FieldType.int)) ∈ TB := tbm (tb_3 (List.mem_of_getElem? (i := 130) rfl)) rfl
theorem w708 : (Jvm.Cond.methodLink "KinInTheHeap$Floor" (71 : Nat) ({ cls := "KinInTheHeap$Floor", name := "heapBits", desc := "()J" } : Jvm.MethodName)) ∈ TB := tbm (tb_3 (List.mem_of_getElem? (i := 131) rfl)) rfl
theorem w709 : (Jvm.Cond.instanceMethod ({ cls := "KinInTheHeap$Floor", name := "heapBits", desc := "()J" } : Jvm.MethodName)) ∈ TB := tbm (tb_3 (List.mem_of_getElem? (i := 132) rfl)) rfl
theorem w710 : (Jvm.Cond.selects "KinInTheHeap$Floor" ({ cls := "KinInTheHeap$Floor", name := "heapBits", desc := "()J" } : Jvm.MethodName) ({ cls := "KinInTheHeap$Floor", name := "heapBits", desc := "()J" } : Jvm.MethodName)) ∈ TB := tbm (tb_3 (List.mem_of_getElem? (i := 133) rfl)) rfl
theorem w711 : (Jvm.Cond.code ({ cls := "KinInTheHeap$Floor", name := "heapBits", desc := "()J" } : Jvm.MethodName) prog_2_method_11_code (4 : Nat) (Option.some Jvm.ClassFile.FieldType.long)) ∈ TB := tbm (tb_3 (List.mem_of_getElem? (i := 134) rfl)) rfl
theorem w712 : (Jvm.Cond.methodLink "KinInTheHeap$Floor" (75 : Nat) ({ cls := "java/lang/Long", name := "bitCount", desc := "(J)I" } : Jvm.MethodName)) ∈ TB := tbm (tb_3 (List.mem_of_getElem? (i := 135) rfl)) rfl
theorem w713 : (Jvm.Cond.static ({ cls := "java/lang/Long", name := "bitCount", desc := "(J)I" } : Jvm.MethodName)) ∈ TB := tbm (tb_3 (List.mem_of_getElem? (i := 136) rfl)) rfl
theorem w714 : (Jvm.Cond.code ({ cls := "java/lang/Long", name := "bitCount", desc := "(J)I" } : Jvm.MethodName) prog_10_method_50_code (2 : Nat) (Option.some Jvm.ClassFile.FieldType.int)) ∈ TB := tbm (tb_3 (List.mem_of_getElem? (i := 137) rfl)) rfl
theorem w715 : (Jvm.Cond.constantLong "java/lang/Long" (314 : Nat) (6148914691236517205 : Int64)) ∈ TB := tbm (tb_3 (List.mem_of_getElem? (i := 138) rfl)) rfl
theorem w716 : (Jvm.Cond.constantLong "java/lang/Long" (316 : Nat) (3689348814741910323 : Int64)) ∈ TB := tbm (tb_3 (List.mem_of_getElem? (i := 139) rfl)) rfl
theorem w717 : (Jvm.Cond.constantLong "java/lang/Long" (318 : Nat) (1085102592571150095 : Int64)) ∈ TB := tbm (tb_3 (List.mem_of_getElem? (i := 140) rfl)) rfl
theorem w718 : (Jvm.Cond.methodLink "KinInTheHeap" (165 : Nat) ({ cls := "KinInTheHeap$Floor", name := "spread", desc := "()I" } : Jvm.MethodName)) ∈ TB := tbm (tb_3 (List.mem_of_getElem? (i := 141) rfl)) rfl
theorem w719 : (Jvm.Cond.instanceMethod ({ cls := "KinInTheHeap$Floor", name := "spread", desc := "()I" } : Jvm.MethodName)) ∈ TB := tbm (tb_3 (List.mem_of_getElem? (i := 142) rfl)) rfl
theorem w720 : (Jvm.Cond.selects "KinInTheHeap$Floor" ({ cls := "KinInTheHeap$Floor", name := "spread", desc := "()I" } : Jvm.MethodName) ({ cls := "KinInTheHeap$Floor", name := "spread", desc := "()I" } : Jvm.MethodName)) ∈ TB := tbm (tb_3 (List.mem_of_getElem? (i := 143) rfl)) rfl
theorem w721 : (Jvm.Cond.code ({ cls := "KinInTheHeap$Floor", name := "spread", desc := "()I" } : Jvm.MethodName) prog_2_method_15_code (4 : Nat) (Option.some Jvm.ClassFile.FieldType.int)) ∈ TB := tbm (tb_3 (List.mem_of_getElem? (i := 144) rfl)) rfl
theorem w722 : (Jvm.Cond.methodLink "KinInTheHeap$Floor" (89 : Nat) ({ cls := "java/lang/Math", name := "abs", desc := "(I)I" } : Jvm.MethodName)) ∈ TB := tbm (tb_3 (List.mem_of_getElem? (i := 145) rfl)) rfl
theorem w723 : (Jvm.Cond.static ({ cls := "java/lang/Math", name := "abs", desc := "(I)I" } : Jvm.MethodName)) ∈ TB := tbm (tb_3 (List.mem_of_getElem? (i := 146) rfl)) rfl
theorem w724 : (Jvm.Cond.code ({ cls := "java/lang/Math", name := "abs", desc := "(I)I" } : Jvm.MethodName) prog_11_method_59_code (1 : Nat) (Option.some Jvm.ClassFile.FieldType.int)) ∈ TB := tbm (tb_3 (List.mem_of_getElem? (i := 147) rfl)) rfl
theorem w725 : (Jvm.Cond.methodLink "KinInTheHeapLaw" (53 : Nat) ({ cls := "KinInTheHeap", name := "sweeps", desc := "(I)I" } : Jvm.MethodName)) ∈ TB := tbm (tb_3 (List.mem_of_getElem? (i := 148) rfl)) rfl
theorem w726 : (Jvm.Cond.instanceMethod ({ cls := "KinInTheHeap", name := "sweeps", desc := "(I)I" } : Jvm.MethodName)) ∈ TB := tbm (tb_3 (List.mem_of_getElem? (i := 149) rfl)) rfl
theorem w727 : (Jvm.Cond.selects "KinInTheHeap" ({ cls := "KinInTheHeap", name := "sweeps", desc := "(I)I" } : Jvm.MethodName) ({ cls := "KinInTheHeap", name := "sweeps", desc := "(I)I" } : Jvm.MethodName)) ∈ TB := tbm (tb_3 (List.mem_of_getElem? (i := 150) rfl)) rfl
theorem w728 : (Jvm.Cond.code ({ cls := "KinInTheHeap", name := "sweeps", desc := "(I)I" } : Jvm.MethodName) prog_1_method_11_code (3 : Nat) (Option.some Jvm.ClassFile.FieldType.int)) ∈ TB := tbm (tb_3 (List.mem_of_getElem? (i := 151) rfl)) rfl
theorem w729 : (Jvm.Cond.methodLink "KinInTheHeapLaw" (57 : Nat) ({ cls := "KinInTheHeap", name := "floor", desc := "(I)I" } : Jvm.MethodName)) ∈ TB := tbm (tb_3 (List.mem_of_getElem? (i := 152) rfl)) rfl
theorem w730 : (Jvm.Cond.instanceMethod ({ cls := "KinInTheHeap", name := "floor", desc := "(I)I" } : Jvm.MethodName)) ∈ TB := tbm (tb_3 (List.mem_of_getElem? (i := 153) rfl)) rfl
theorem w731 : (Jvm.Cond.selects "KinInTheHeap" ({ cls := "KinInTheHeap", name := "floor", desc := "(I)I" } : Jvm.MethodName) ({ cls := "KinInTheHeap", name := "floor", desc := "(I)I" } : Jvm.MethodName)) ∈ TB := tbm (tb_3 (List.mem_of_getElem? (i := 154) rfl)) rfl
theorem w732 : (Jvm.Cond.code ({ cls := "KinInTheHeap", name := "floor", desc := "(I)I" } : Jvm.MethodName) prog_1_method_12_code (2 : Nat) (Option.some Jvm.ClassFile.FieldType.int)) ∈ TB := tbm (tb_3 (List.mem_of_getElem? (i := 155) rfl)) rfl
theorem w733 : (Jvm.Cond.methodLink "KinInTheHeap" (159 : Nat) ({ cls := "KinInTheHeap$Floor", name := "greatest", desc := "()I" } : Jvm.MethodName)) ∈ TB := tbm (tb_3 (List.mem_of_getElem? (i := 156) rfl)) rfl
theorem w734 : (Jvm.Cond.instanceMethod ({ cls := "KinInTheHeap$Floor", name := "greatest", desc := "()I" } : Jvm.MethodName)) ∈ TB := tbm (tb_3 (List.mem_of_getElem? (i := 157) rfl)) rfl
theorem w735 : (Jvm.Cond.selects "KinInTheHeap$Floor" ({ cls := "KinInTheHeap$Floor", name := "greatest", desc := "()I" } : Jvm.MethodName) ({ cls := "KinInTheHeap$Floor", name := "greatest", desc := "()I" } : Jvm.MethodName)) ∈ TB := tbm (tb_3 (List.mem_of_getElem? (i := 158) rfl)) rfl
theorem w736 : (Jvm.Cond.code ({ cls := "KinInTheHeap$Floor", name := "greatest", desc := "()I" } : Jvm.MethodName) prog_2_method_13_code (3 : Nat) (Option.some Jvm.ClassFile.FieldType.int)) ∈ TB := tbm (tb_3 (List.mem_of_getElem? (i := 159) rfl)) rfl
theorem w737 : (Jvm.Cond.methodLink "KinInTheHeapLaw" (61 : Nat) ({ cls := "KinInTheHeap", name := "where", desc := "(I)J" } : Jvm.MethodName)) ∈ TB := tbm (tb_3 (List.mem_of_getElem? (i := 160) rfl)) rfl
theorem w738 : (Jvm.Cond.instanceMethod ({ cls := "KinInTheHeap", name := "where", desc := "(I)J" } : Jvm.MethodName)) ∈ TB := tbm (tb_3 (List.mem_of_getElem? (i := 161) rfl)) rfl
theorem w739 : (Jvm.Cond.selects "KinInTheHeap" ({ cls := "KinInTheHeap", name := "where", desc := "(I)J" } : Jvm.MethodName) ({ cls := "KinInTheHeap", name := "where", desc := "(I)J" } : Jvm.MethodName)) ∈ TB := tbm (tb_3 (List.mem_of_getElem? (i := 162) rfl)) rfl
theorem w740 : (Jvm.Cond.code ({ cls := "KinInTheHeap", name := "where", desc := "(I)J" } : Jvm.MethodName) prog_1_method_13_code (2 : Nat) (Option.some Jvm.ClassFile.FieldType.long)) ∈ TB := tbm (tb_3 (List.mem_of_getElem? (i := 163) rfl)) rfl
theorem w741 : (Jvm.Cond.methodLink "KinInTheHeap" (171 : Nat) ({ cls := "KinInTheHeap$Floor", name := "heapBits", desc := "()J" } : Jvm.MethodName)) ∈ TB := tbm (tb_3 (List.mem_of_getElem? (i := 164) rfl)) rfl
theorem w742 : (Jvm.Cond.constantLong "KinInTheHeap" (179 : Nat) (-4611686018427387904 : Int64)) ∈ TB := tbm (tb_3 (List.mem_of_getElem? (i := 165) rfl)) rfl
theorem w743 : (Jvm.Cond.methodLink "KinInTheHeap" (181 : Nat) ({ cls := "KinInTheHeap", name := "reached", desc := "(I)J" } : Jvm.MethodName)) ∈ TB := tbm (tb_3 (List.mem_of_getElem? (i := 166) rfl)) rfl
theorem w745 : (Jvm.Cond.instanceMethod ({ cls := "KinInTheHeap", name := "reached", desc := "(I)J" } : Jvm.MethodName)) ∈ TB := tbm (tb_3 (List.mem_of_getElem? (i := 168) rfl)) rfl
theorem w746 : (Jvm.Cond.code ({ cls := "KinInTheHeap", name := "reached", desc := "(I)J" } : Jvm.MethodName) prog_1_method_50_code (5 : Nat) (Option.some Jvm.ClassFile.FieldType.long)) ∈ TB := tbm (tb_3 (List.mem_of_getElem? (i := 169) rfl)) rfl
theorem w747 : (Jvm.Cond.methodLink "KinInTheHeap" (197 : Nat) ({ cls := "KinInTheHeap", name := "think", desc := "(I)V" } : Jvm.MethodName)) ∈ TB := tbm (tb_3 (List.mem_of_getElem? (i := 170) rfl)) rfl
theorem w749 : (Jvm.Cond.instanceMethod ({ cls := "KinInTheHeap", name := "think", desc := "(I)V" } : Jvm.MethodName)) ∈ TB := tbm (tb_3 (List.mem_of_getElem? (i := 172) rfl)) rfl
theorem w750 : (Jvm.Cond.code ({ cls := "KinInTheHeap", name := "think", desc := "(I)V" } : Jvm.MethodName) prog_1_method_49_code (2 : Nat) (Option.none : Option Jvm.ClassFile.FieldType)) ∈ TB := tbm (tb_3 (List.mem_of_getElem? (i := 173) rfl)) rfl
theorem w751 : (Jvm.Cond.methodLink "KinInTheHeapLaw" (66 : Nat) ({ cls := "KinInTheHeap", name := "gather", desc := "(II)I" } : Jvm.MethodName)) ∈ TB := tbm (tb_3 (List.mem_of_getElem? (i := 174) rfl)) rfl
theorem w752 : (Jvm.Cond.instanceMethod ({ cls := "KinInTheHeap", name := "gather", desc := "(II)I" } : Jvm.MethodName)) ∈ TB := tbm (tb_3 (List.mem_of_getElem? (i := 175) rfl)) rfl
theorem w753 : (Jvm.Cond.selects "KinInTheHeap" ({ cls := "KinInTheHeap", name := "gather", desc := "(II)I" } : Jvm.MethodName) ({ cls := "KinInTheHeap", name := "gather", desc := "(II)I" } : Jvm.MethodName)) ∈ TB := tbm (tb_3 (List.mem_of_getElem? (i := 176) rfl)) rfl
theorem w754 : (Jvm.Cond.code ({ cls := "KinInTheHeap", name := "gather", desc := "(II)I" } : Jvm.MethodName) prog_1_method_14_code (4 : Nat) (Option.some Jvm.ClassFile.FieldType.int)) ∈ TB := tbm (tb_3 (List.mem_of_getElem? (i := 177) rfl)) rfl
theorem w755 : (Jvm.Cond.methodLink "KinInTheHeap" (185 : Nat) ({ cls := "KinInTheHeap", name := "gathering", desc := "(I)I" } : Jvm.MethodName)) ∈ TB := tbm (tb_3 (List.mem_of_getElem? (i := 178) rfl)) rfl
theorem w757 : (Jvm.Cond.instanceMethod ({ cls := "KinInTheHeap", name := "gathering", desc := "(I)I" } : Jvm.MethodName)) ∈ TB := tbm (tb_3 (List.mem_of_getElem? (i := 180) rfl)) rfl
theorem w758 : (Jvm.Cond.code ({ cls := "KinInTheHeap", name := "gathering", desc := "(I)I" } : Jvm.MethodName) prog_1_method_51_code (4 : Nat) (Option.some Jvm.ClassFile.FieldType.int)) ∈ TB := tbm (tb_3 (List.mem_of_getElem? (i := 181) rfl)) rfl
theorem w759 : (Jvm.Cond.methodLink "KinInTheHeap" (298 : Nat) ({ cls := "KinInTheHeap$Floor", name := "areGathered", desc := "(I)Z" } : Jvm.MethodName)) ∈ TB := tbm (tb_3 (List.mem_of_getElem? (i := 182) rfl)) rfl
theorem w760 : (Jvm.Cond.instanceMethod ({ cls := "KinInTheHeap$Floor", name := "areGathered", desc := "(I)Z" } : Jvm.MethodName)) ∈ TB := tbm (tb_3 (List.mem_of_getElem? (i := 183) rfl)) rfl
theorem w761 : (Jvm.Cond.selects "KinInTheHeap$Floor" ({ cls := "KinInTheHeap$Floor", name := "areGathered", desc := "(I)Z" } : Jvm.MethodName) ({ cls := "KinInTheHeap$Floor", name := "areGathered", desc := "(I)Z" } : Jvm.MethodName)) ∈ TB := tbm (tb_3 (List.mem_of_getElem? (i := 184) rfl)) rfl
theorem w762 : (Jvm.Cond.code ({ cls := "KinInTheHeap$Floor", name := "areGathered", desc := "(I)Z" } : Jvm.MethodName) prog_2_method_9_code (4 : Nat) (Option.some Jvm.ClassFile.FieldType.boolean)) ∈ TB := tbm (tb_3 (List.mem_of_getElem? (i := 185) rfl)) rfl
theorem w763 : (Jvm.Cond.methodLink "KinInTheHeap" (301 : Nat) ({ cls := "KinInTheHeap", name := "lastGathering", desc := "(I)I" } : Jvm.MethodName)) ∈ TB := tbm (tb_3 (List.mem_of_getElem? (i := 186) rfl)) rfl
theorem w765 : (Jvm.Cond.instanceMethod ({ cls := "KinInTheHeap", name := "lastGathering", desc := "(I)I" } : Jvm.MethodName)) ∈ TB := tbm (tb_3 (List.mem_of_getElem? (i := 188) rfl)) rfl
theorem w766 : (Jvm.Cond.code ({ cls := "KinInTheHeap", name := "lastGathering", desc := "(I)I" } : Jvm.MethodName) prog_1_method_52_code (3 : Nat) (Option.some Jvm.ClassFile.FieldType.int)) ∈ TB := tbm (tb_3 (List.mem_of_getElem? (i := 189) rfl)) rfl
theorem w767 : (Jvm.Cond.methodLink "KinInTheHeapLaw" (70 : Nat) ({ cls := "KinInTheHeap", name := "best", desc := "(I)I" } : Jvm.MethodName)) ∈ TB := tbm (tb_3 (List.mem_of_getElem? (i := 190) rfl)) rfl
theorem w768 : (Jvm.Cond.instanceMethod ({ cls := "KinInTheHeap", name := "best", desc := "(I)I" } : Jvm.MethodName)) ∈ TB := tbm (tb_3 (List.mem_of_getElem? (i := 191) rfl)) rfl
theorem w769 : (Jvm.Cond.selects "KinInTheHeap" ({ cls := "KinInTheHeap", name := "best", desc := "(I)I" } : Jvm.MethodName) ({ cls := "KinInTheHeap", name := "best", desc := "(I)I" } : Jvm.MethodName)) ∈ TB := tbm (tb_3 (List.mem_of_getElem? (i := 192) rfl)) rfl
theorem w770 : (Jvm.Cond.code ({ cls := "KinInTheHeap", name := "best", desc := "(I)I" } : Jvm.MethodName) prog_1_method_15_code (3 : Nat) (Option.some Jvm.ClassFile.FieldType.int)) ∈ TB := tbm (tb_3 (List.mem_of_getElem? (i := 193) rfl)) rfl
theorem w771 : (Jvm.Cond.methodLink "KinInTheHeap" (188 : Nat) ({ cls := "KinInTheHeap", name := "mostTogether", desc := "()I" } : Jvm.MethodName)) ∈ TB := tbm (tb_3 (List.mem_of_getElem? (i := 194) rfl)) rfl
theorem w773 : (Jvm.Cond.instanceMethod ({ cls := "KinInTheHeap", name := "mostTogether", desc := "()I" } : Jvm.MethodName)) ∈ TB := tbm (tb_3 (List.mem_of_getElem? (i := 196) rfl)) rfl
theorem w774 : (Jvm.Cond.code ({ cls := "KinInTheHeap", name := "mostTogether", desc := "()I" } : Jvm.MethodName) prog_1_method_53_code (5 : Nat) (Option.some Jvm.ClassFile.FieldType.int)) ∈ TB := tbm (tb_3 (List.mem_of_getElem? (i := 197) rfl)) rfl
theorem w775 : (Jvm.Cond.methodLink "KinInTheHeap" (191 : Nat) ({ cls := "KinInTheHeap", name := "leastSpread", desc := "()I" } : Jvm.MethodName)) ∈ TB := tbm (tb_3 (List.mem_of_getElem? (i := 198) rfl)) rfl
theorem w777 : (Jvm.Cond.instanceMethod ({ cls := "KinInTheHeap", name := "leastSpread", desc := "()I" } : Jvm.MethodName)) ∈ TB := tbm (tb_3 (List.mem_of_getElem? (i := 200) rfl)) rfl
theorem w778 : (Jvm.Cond.code ({ cls := "KinInTheHeap", name := "leastSpread", desc := "()I" } : Jvm.MethodName) prog_1_method_54_code (5 : Nat) (Option.some Jvm.ClassFile.FieldType.int)) ∈ TB := tbm (tb_3 (List.mem_of_getElem? (i := 201) rfl)) rfl
theorem w779 : (Jvm.Cond.constant "KinInTheHeap" (306 : Nat) (2147483647 : Int32)) ∈ TB := tbm (tb_3 (List.mem_of_getElem? (i := 202) rfl)) rfl
theorem w780 : (Jvm.Cond.methodLink "KinInTheHeap" (194 : Nat) ({ cls := "KinInTheHeap", name := "fewestLost", desc := "()I" } : Jvm.MethodName)) ∈ TB := tbm (tb_3 (List.mem_of_getElem? (i := 203) rfl)) rfl
theorem w782 : (Jvm.Cond.instanceMethod ({ cls := "KinInTheHeap", name := "fewestLost", desc := "()I" } : Jvm.MethodName)) ∈ TB := tbm (tb_3 (List.mem_of_getElem? (i := 205) rfl)) rfl
theorem w783 : (Jvm.Cond.code ({ cls := "KinInTheHeap", name := "fewestLost", desc := "()I" } : Jvm.MethodName) prog_1_method_55_code (5 : Nat) (Option.some Jvm.ClassFile.FieldType.int)) ∈ TB := tbm (tb_3 (List.mem_of_getElem? (i := 206) rfl)) rfl
theorem w784 : (Jvm.Cond.methodLink "KinInTheHeap" (201 : Nat) ({ cls := "KinInTheHeap$Floor", name := "outs", desc := "()I" } : Jvm.MethodName)) ∈ TB := tbm (tb_3 (List.mem_of_getElem? (i := 207) rfl)) rfl
theorem w785 : (Jvm.Cond.instanceMethod ({ cls := "KinInTheHeap$Floor", name := "outs", desc := "()I" } : Jvm.MethodName)) ∈ TB := tbm (tb_3 (List.mem_of_getElem? (i := 208) rfl)) rfl
theorem w786 : (Jvm.Cond.selects "KinInTheHeap$Floor" ({ cls := "KinInTheHeap$Floor", name := "outs", desc := "()I" } : Jvm.MethodName) ({ cls := "KinInTheHeap$Floor", name := "outs", desc := "()I" } : Jvm.MethodName)) ∈ TB := tbm (tb_3 (List.mem_of_getElem? (i := 209) rfl)) rfl
theorem w787 : (Jvm.Cond.code ({ cls := "KinInTheHeap$Floor", name := "outs", desc := "()I" } : Jvm.MethodName) prog_2_method_8_code (1 : Nat) (Option.some Jvm.ClassFile.FieldType.int)) ∈ TB := tbm (tb_3 (List.mem_of_getElem? (i := 210) rfl)) rfl
theorem w788 : (Jvm.Cond.methodLink "KinInTheHeap$Floor" (62 : Nat) ({ cls := "KinInTheHeap$Floor", name := "thoseIn", desc := "(I)I" } : Jvm.MethodName)) ∈ TB := tbm (tb_3 (List.mem_of_getElem? (i := 211) rfl)) rfl
theorem w789 : (Jvm.Cond.methodLink "KinInTheHeap$Floor" (66 : Nat) ({ cls := "java/lang/Integer", name := "bitCount", desc := "(I)I" } : Jvm.MethodName)) ∈ TB := tbm (tb_3 (List.mem_of_getElem? (i := 212) rfl)) rfl
theorem w790 : (Jvm.Cond.static ({ cls := "java/lang/Integer", name := "bitCount", desc := "(I)I" } : Jvm.MethodName)) ∈ TB := tbm (tb_3 (List.mem_of_getElem? (i := 213) rfl)) rfl
theorem w791 : (Jvm.Cond.code ({ cls := "java/lang/Integer", name := "bitCount", desc := "(I)I" } : Jvm.MethodName) prog_9_method_49_code (1 : Nat) (Option.some Jvm.ClassFile.FieldType.int)) ∈ TB := tbm (tb_3 (List.mem_of_getElem? (i := 214) rfl)) rfl
theorem w792 : (Jvm.Cond.constant "java/lang/Integer" (265 : Nat) (1431655765 : Int32)) ∈ TB := tbm (tb_3 (List.mem_of_getElem? (i := 215) rfl)) rfl
theorem w793 : (Jvm.Cond.constant "java/lang/Integer" (266 : Nat) (858993459 : Int32)) ∈ TB := tbm (tb_3 (List.mem_of_getElem? (i := 216) rfl)) rfl
theorem w794 : (Jvm.Cond.constant "java/lang/Integer" (267 : Nat) (252645135 : Int32)) ∈ TB := tbm (tb_3 (List.mem_of_getElem? (i := 217) rfl)) rfl
theorem w795 : (Jvm.Cond.methodLink "KinInTheHeap" (307 : Nat) ({ cls := "KinInTheHeap$Floor", name := "differs", desc := "(LKinInTheHeap$Floor;)Z" } : Jvm.MethodName)) ∈ TB := tbm (tb_3 (List.mem_of_getElem? (i := 218) rfl)) rfl
theorem w796 : (Jvm.Cond.instanceMethod ({ cls := "KinInTheHeap$Floor", name := "differs", desc := "(LKinInTheHeap$Floor;)Z" } : Jvm.MethodName)) ∈ TB := tbm (tb_3 (List.mem_of_getElem? (i := 219) rfl)) rfl
theorem w797 : (Jvm.Cond.selects "KinInTheHeap$Floor" ({ cls := "KinInTheHeap$Floor", name := "differs", desc := "(LKinInTheHeap$Floor;)Z" } : Jvm.MethodName) ({ cls := "KinInTheHeap$Floor", name := "differs", desc := "(LKinInTheHeap$Floor;)Z" } : Jvm.MethodName)) ∈ TB := tbm (tb_3 (List.mem_of_getElem? (i := 220) rfl)) rfl
theorem w798 : (Jvm.Cond.code ({ cls := "KinInTheHeap$Floor", name := "differs", desc := "(LKinInTheHeap$Floor;)Z" } : Jvm.MethodName) prog_2_method_10_code (3 : Nat) (Option.some Jvm.ClassFile.FieldType.boolean)) ∈ TB := tbm (tb_3 (List.mem_of_getElem? (i := 221) rfl)) rfl
theorem w799 : (Jvm.Cond.methodLink "KinInTheHeapLaw" (74 : Nat) ({ cls := "KinInTheHeap", name := "save", desc := "(II)I" } : Jvm.MethodName)) ∈ TB := tbm (tb_3 (List.mem_of_getElem? (i := 222) rfl)) rfl
theorem w800 : (Jvm.Cond.instanceMethod ({ cls := "KinInTheHeap", name := "save", desc := "(II)I" } : Jvm.MethodName)) ∈ TB := tbm (tb_3 (List.mem_of_getElem? (i := 223) rfl)) rfl
theorem w801 : (Jvm.Cond.selects "KinInTheHeap" ({ cls := "KinInTheHeap", name := "save", desc := "(II)I" } : Jvm.MethodName) ({ cls := "KinInTheHeap", name := "save", desc := "(II)I" } : Jvm.MethodName)) ∈ TB := tbm (tb_3 (List.mem_of_getElem? (i := 224) rfl)) rfl
theorem w802 : (Jvm.Cond.code ({ cls := "KinInTheHeap", name := "save", desc := "(II)I" } : Jvm.MethodName) prog_1_method_16_code (4 : Nat) (Option.some Jvm.ClassFile.FieldType.int)) ∈ TB := tbm (tb_3 (List.mem_of_getElem? (i := 225) rfl)) rfl
theorem w803 : (Jvm.Cond.methodLink "KinInTheHeap" (204 : Nat) ({ cls := "KinInTheHeap", name := "saving", desc := "(I)I" } : Jvm.MethodName)) ∈ TB := tbm (tb_3 (List.mem_of_getElem? (i := 226) rfl)) rfl
theorem w805 : (Jvm.Cond.instanceMethod ({ cls := "KinInTheHeap", name := "saving", desc := "(I)I" } : Jvm.MethodName)) ∈ TB := tbm (tb_3 (List.mem_of_getElem? (i := 228) rfl)) rfl
theorem w806 : (Jvm.Cond.code ({ cls := "KinInTheHeap", name := "saving", desc := "(I)I" } : Jvm.MethodName) prog_1_method_56_code (6 : Nat) (Option.some Jvm.ClassFile.FieldType.int)) ∈ TB := tbm (tb_3 (List.mem_of_getElem? (i := 229) rfl)) rfl
theorem w807 : (Jvm.Cond.methodLink "KinInTheHeap" (207 : Nat) ({ cls := "KinInTheHeap", name := "outWithCrack", desc := "(II)I" } : Jvm.MethodName)) ∈ TB := tbm (tb_3 (List.mem_of_getElem? (i := 230) rfl)) rfl
theorem w809 : (Jvm.Cond.instanceMethod ({ cls := "KinInTheHeap", name := "outWithCrack", desc := "(II)I" } : Jvm.MethodName)) ∈ TB := tbm (tb_3 (List.mem_of_getElem? (i := 232) rfl)) rfl
theorem w810 : (Jvm.Cond.code ({ cls := "KinInTheHeap", name := "outWithCrack", desc := "(II)I" } : Jvm.MethodName) prog_1_method_57_code (3 : Nat) (Option.some Jvm.ClassFile.FieldType.int)) ∈ TB := tbm (tb_3 (List.mem_of_getElem? (i := 233) rfl)) rfl
theorem w811 : (Jvm.Cond.methodLink "KinInTheHeapLaw" (78 : Nat) ({ cls := "KinInTheHeap", name := "lasts", desc := "(II)I" } : Jvm.MethodName)) ∈ TB := tbm (tb_3 (List.mem_of_getElem? (i := 234) rfl)) rfl
theorem w812 : (Jvm.Cond.instanceMethod ({ cls := "KinInTheHeap", name := "lasts", desc := "(II)I" } : Jvm.MethodName)) ∈ TB := tbm (tb_3 (List.mem_of_getElem? (i := 235) rfl)) rfl
theorem w813 : (Jvm.Cond.selects "KinInTheHeap" ({ cls := "KinInTheHeap", name := "lasts", desc := "(II)I" } : Jvm.MethodName) ({ cls := "KinInTheHeap", name := "lasts", desc := "(II)I" } : Jvm.MethodName)) ∈ TB := tbm (tb_3 (List.mem_of_getElem? (i := 236) rfl)) rfl
theorem w814 : (Jvm.Cond.code ({ cls := "KinInTheHeap", name := "lasts", desc := "(II)I" } : Jvm.MethodName) prog_1_method_17_code (4 : Nat) (Option.some Jvm.ClassFile.FieldType.int)) ∈ TB := tbm (tb_3 (List.mem_of_getElem? (i := 237) rfl)) rfl
theorem w815 : (Jvm.Cond.methodLink "KinInTheHeapLaw" (82 : Nat) ({ cls := "KinInTheHeap", name := "share", desc := "(I)J" } : Jvm.MethodName)) ∈ TB := tbm (tb_3 (List.mem_of_getElem? (i := 238) rfl)) rfl
theorem w816 : (Jvm.Cond.instanceMethod ({ cls := "KinInTheHeap", name := "share", desc := "(I)J" } : Jvm.MethodName)) ∈ TB := tbm (tb_3 (List.mem_of_getElem? (i := 239) rfl)) rfl
theorem w817 : (Jvm.Cond.selects "KinInTheHeap" ({ cls := "KinInTheHeap", name := "share", desc := "(I)J" } : Jvm.MethodName) ({ cls := "KinInTheHeap", name := "share", desc := "(I)J" } : Jvm.MethodName)) ∈ TB := tbm (tb_4 (List.mem_of_getElem? (i := 0) rfl)) rfl
theorem w818 : (Jvm.Cond.code ({ cls := "KinInTheHeap", name := "share", desc := "(I)J" } : Jvm.MethodName) prog_1_method_18_code (2 : Nat) (Option.some Jvm.ClassFile.FieldType.long)) ∈ TB := tbm (tb_4 (List.mem_of_getElem? (i := 1) rfl)) rfl
theorem w819 : (Jvm.Cond.methodLink "KinInTheHeap" (213 : Nat) ({ cls := "KinInTheHeap", name := "lowest", desc := "(III)J" } : Jvm.MethodName)) ∈ TB := tbm (tb_4 (List.mem_of_getElem? (i := 2) rfl)) rfl
theorem w820 : (Jvm.Cond.static ({ cls := "KinInTheHeap", name := "lowest", desc := "(III)J" } : Jvm.MethodName)) ∈ TB := tbm (tb_4 (List.mem_of_getElem? (i := 3) rfl)) rfl
theorem w821 : (Jvm.Cond.code ({ cls := "KinInTheHeap", name := "lowest", desc := "(III)J" } : Jvm.MethodName) prog_1_method_59_code (5 : Nat) (Option.some Jvm.ClassFile.FieldType.long)) ∈ TB := tbm (tb_4 (List.mem_of_getElem? (i := 4) rfl)) rfl
theorem w822 : (Jvm.Cond.methodLink "KinInTheHeapLaw" (86 : Nat) ({ cls := "KinInTheHeap", name := "tells", desc := "(III)I" } : Jvm.MethodName)) ∈ TB := tbm (tb_4 (List.mem_of_getElem? (i := 5) rfl)) rfl
theorem w823 : (Jvm.Cond.instanceMethod ({ cls := "KinInTheHeap", name := "tells", desc := "(III)I" } : Jvm.MethodName)) ∈ TB := tbm (tb_4 (List.mem_of_getElem? (i := 6) rfl)) rfl
theorem w824 : (Jvm.Cond.selects "KinInTheHeap" ({ cls := "KinInTheHeap", name := "tells", desc := "(III)I" } : Jvm.MethodName) ({ cls := "KinInTheHeap", name := "tells", desc := "(III)I" } : Jvm.MethodName)) ∈ TB := tbm (tb_4 (List.mem_of_getElem? (i := 7) rfl)) rfl
theorem w825 : (Jvm.Cond.code ({ cls := "KinInTheHeap", name := "tells", desc := "(III)I" } : Jvm.MethodName) prog_1_method_19_code (5 : Nat) (Option.some Jvm.ClassFile.FieldType.int)) ∈ TB := tbm (tb_4 (List.mem_of_getElem? (i := 8) rfl)) rfl
theorem w826 : (Jvm.Cond.methodLink "KinInTheHeap" (217 : Nat) ({ cls := "KinInTheHeap", name := "tellingRefused", desc := "(LKinInTheHeap$Sheet;)I" } : Jvm.MethodName)) ∈ TB := tbm (tb_4 (List.mem_of_getElem? (i := 9) rfl)) rfl
theorem w827 : (Jvm.Cond.static ({ cls := "KinInTheHeap", name := "tellingRefused", desc := "(LKinInTheHeap$Sheet;)I" } : Jvm.MethodName)) ∈ TB := tbm (tb_4 (List.mem_of_getElem? (i := 10) rfl)) rfl
theorem w828 : (Jvm.Cond.code ({ cls := "KinInTheHeap", name := "tellingRefused", desc := "(LKinInTheHeap$Sheet;)I" } : Jvm.MethodName) prog_1_method_60_code (1 : Nat) (Option.some Jvm.ClassFile.FieldType.int)) ∈ TB := tbm (tb_4 (List.mem_of_getElem? (i := 11) rfl)) rfl
theorem w829 : (Jvm.Cond.methodLink "KinInTheHeap" (220 : Nat) ({ cls := "KinInTheHeap", name := "toldBack", desc := "(LKinInTheHeap$Sheet;II)I" } : Jvm.MethodName)) ∈ TB := tbm (tb_4 (List.mem_of_getElem? (i := 12) rfl)) rfl
theorem w831 : (Jvm.Cond.instanceMethod ({ cls := "KinInTheHeap", name := "toldBack", desc := "(LKinInTheHeap$Sheet;II)I" } : Jvm.MethodName)) ∈ TB := tbm (tb_4 (List.mem_of_getElem? (i := 14) rfl)) rfl
theorem w832 : (Jvm.Cond.code ({ cls := "KinInTheHeap", name := "toldBack", desc := "(LKinInTheHeap$Sheet;II)I" } : Jvm.MethodName) prog_1_method_61_code (4 : Nat) (Option.some Jvm.ClassFile.FieldType.int)) ∈ TB := tbm (tb_4 (List.mem_of_getElem? (i := 15) rfl)) rfl
theorem w833 : (Jvm.Cond.methodLink "KinInTheHeap" (224 : Nat) ({ cls := "KinInTheHeap", name := "firstOtherwise", desc := "(LKinInTheHeap$Sheet;I)I" } : Jvm.MethodName)) ∈ TB := tbm (tb_4 (List.mem_of_getElem? (i := 16) rfl)) rfl
theorem w835 : (Jvm.Cond.instanceMethod ({ cls := "KinInTheHeap", name := "firstOtherwise", desc := "(LKinInTheHeap$Sheet;I)I" } : Jvm.MethodName)) ∈ TB := tbm (tb_4 (List.mem_of_getElem? (i := 18) rfl)) rfl
theorem w836 : (Jvm.Cond.code ({ cls := "KinInTheHeap", name := "firstOtherwise", desc := "(LKinInTheHeap$Sheet;I)I" } : Jvm.MethodName) prog_1_method_62_code (4 : Nat) (Option.some Jvm.ClassFile.FieldType.int)) ∈ TB := tbm (tb_4 (List.mem_of_getElem? (i := 19) rfl)) rfl
theorem w837 : (Jvm.Cond.methodLink "KinInTheHeap" (312 : Nat) ({ cls := "KinInTheHeap", name := "kindsTold", desc := "(LKinInTheHeap$Sheet;I)I" } : Jvm.MethodName)) ∈ TB := tbm (tb_4 (List.mem_of_getElem? (i := 20) rfl)) rfl
theorem w839 : (Jvm.Cond.instanceMethod ({ cls := "KinInTheHeap", name := "kindsTold", desc := "(LKinInTheHeap$Sheet;I)I" } : Jvm.MethodName)) ∈ TB := tbm (tb_4 (List.mem_of_getElem? (i := 22) rfl)) rfl
theorem w840 : (Jvm.Cond.code ({ cls := "KinInTheHeap", name := "kindsTold", desc := "(LKinInTheHeap$Sheet;I)I" } : Jvm.MethodName) prog_1_method_63_code (5 : Nat) (Option.some Jvm.ClassFile.FieldType.int)) ∈ TB := tbm (tb_4 (List.mem_of_getElem? (i := 23) rfl)) rfl
theorem w841 : (Jvm.Cond.methodLink "KinInTheHeap" (315 : Nat) ({ cls := "KinInTheHeap", name := "numbersTold", desc := "(LKinInTheHeap$Sheet;I)I" } : Jvm.MethodName)) ∈ TB := tbm (tb_4 (List.mem_of_getElem? (i := 24) rfl)) rfl
theorem w843 : (Jvm.Cond.instanceMethod ({ cls := "KinInTheHeap", name := "numbersTold", desc := "(LKinInTheHeap$Sheet;I)I" } : Jvm.MethodName)) ∈ TB := tbm (tb_4 (List.mem_of_getElem? (i := 26) rfl)) rfl
theorem w844 : (Jvm.Cond.code ({ cls := "KinInTheHeap", name := "numbersTold", desc := "(LKinInTheHeap$Sheet;I)I" } : Jvm.MethodName) prog_1_method_64_code (5 : Nat) (Option.some Jvm.ClassFile.FieldType.int)) ∈ TB := tbm (tb_4 (List.mem_of_getElem? (i := 27) rfl)) rfl
theorem w845 : (Jvm.Cond.methodLink "KinInTheHeap" (318 : Nat) ({ cls := "KinInTheHeap", name := "weeksTold", desc := "(LKinInTheHeap$Sheet;I)I" } : Jvm.MethodName)) ∈ TB := tbm (tb_4 (List.mem_of_getElem? (i := 28) rfl)) rfl
theorem w847 : (Jvm.Cond.instanceMethod ({ cls := "KinInTheHeap", name := "weeksTold", desc := "(LKinInTheHeap$Sheet;I)I" } : Jvm.MethodName)) ∈ TB := tbm (tb_4 (List.mem_of_getElem? (i := 30) rfl)) rfl
theorem w848 : (Jvm.Cond.code ({ cls := "KinInTheHeap", name := "weeksTold", desc := "(LKinInTheHeap$Sheet;I)I" } : Jvm.MethodName) prog_1_method_65_code (5 : Nat) (Option.some Jvm.ClassFile.FieldType.int)) ∈ TB := tbm (tb_4 (List.mem_of_getElem? (i := 31) rfl)) rfl
theorem w849 : (Jvm.Cond.methodLink "KinInTheHeap" (321 : Nat) ({ cls := "KinInTheHeap", name := "leastWeekTold", desc := "(LKinInTheHeap$Sheet;I)I" } : Jvm.MethodName)) ∈ TB := tbm (tb_4 (List.mem_of_getElem? (i := 32) rfl)) rfl
theorem w851 : (Jvm.Cond.instanceMethod ({ cls := "KinInTheHeap", name := "leastWeekTold", desc := "(LKinInTheHeap$Sheet;I)I" } : Jvm.MethodName)) ∈ TB := tbm (tb_4 (List.mem_of_getElem? (i := 34) rfl)) rfl
theorem w852 : (Jvm.Cond.code ({ cls := "KinInTheHeap", name := "leastWeekTold", desc := "(LKinInTheHeap$Sheet;I)I" } : Jvm.MethodName) prog_1_method_66_code (4 : Nat) (Option.some Jvm.ClassFile.FieldType.int)) ∈ TB := tbm (tb_4 (List.mem_of_getElem? (i := 35) rfl)) rfl
theorem w853 : (Jvm.Cond.methodLink "KinInTheHeap" (324 : Nat) ({ cls := "KinInTheHeap", name := "textsTold", desc := "(LKinInTheHeap$Sheet;I)I" } : Jvm.MethodName)) ∈ TB := tbm (tb_4 (List.mem_of_getElem? (i := 36) rfl)) rfl
theorem w855 : (Jvm.Cond.instanceMethod ({ cls := "KinInTheHeap", name := "textsTold", desc := "(LKinInTheHeap$Sheet;I)I" } : Jvm.MethodName)) ∈ TB := tbm (tb_4 (List.mem_of_getElem? (i := 38) rfl)) rfl
theorem w856 : (Jvm.Cond.code ({ cls := "KinInTheHeap", name := "textsTold", desc := "(LKinInTheHeap$Sheet;I)I" } : Jvm.MethodName) prog_1_method_67_code (5 : Nat) (Option.some Jvm.ClassFile.FieldType.int)) ∈ TB := tbm (tb_4 (List.mem_of_getElem? (i := 39) rfl)) rfl
theorem w857 : (Jvm.Cond.methodLink "KinInTheHeap" (327 : Nat) ({ cls := "KinInTheHeap", name := "dustTold", desc := "(LKinInTheHeap$Sheet;)I" } : Jvm.MethodName)) ∈ TB := tbm (tb_4 (List.mem_of_getElem? (i := 40) rfl)) rfl
theorem w859 : (Jvm.Cond.instanceMethod ({ cls := "KinInTheHeap", name := "dustTold", desc := "(LKinInTheHeap$Sheet;)I" } : Jvm.MethodName)) ∈ TB := tbm (tb_4 (List.mem_of_getElem? (i := 42) rfl)) rfl
theorem w860 : (Jvm.Cond.code ({ cls := "KinInTheHeap", name := "dustTold", desc := "(LKinInTheHeap$Sheet;)I" } : Jvm.MethodName) prog_1_method_68_code (4 : Nat) (Option.some Jvm.ClassFile.FieldType.int)) ∈ TB := tbm (tb_4 (List.mem_of_getElem? (i := 43) rfl)) rfl
theorem w861 : (Jvm.Cond.methodLink "KinInTheHeapLaw" (90 : Nat) ({ cls := "KinInTheHeap", name := "places", desc := "(II)J" } : Jvm.MethodName)) ∈ TB := tbm (tb_4 (List.mem_of_getElem? (i := 44) rfl)) rfl
theorem w862 : (Jvm.Cond.instanceMethod ({ cls := "KinInTheHeap", name := "places", desc := "(II)J" } : Jvm.MethodName)) ∈ TB := tbm (tb_4 (List.mem_of_getElem? (i := 45) rfl)) rfl
theorem w863 : (Jvm.Cond.selects "KinInTheHeap" ({ cls := "KinInTheHeap", name := "places", desc := "(II)J" } : Jvm.MethodName) ({ cls := "KinInTheHeap", name := "places", desc := "(II)J" } : Jvm.MethodName)) ∈ TB := tbm (tb_4 (List.mem_of_getElem? (i := 46) rfl)) rfl
theorem w864 : (Jvm.Cond.code ({ cls := "KinInTheHeap", name := "places", desc := "(II)J" } : Jvm.MethodName) prog_1_method_20_code (6 : Nat) (Option.some Jvm.ClassFile.FieldType.long)) ∈ TB := tbm (tb_4 (List.mem_of_getElem? (i := 47) rfl)) rfl
theorem w865 : (Jvm.Cond.methodLink "KinInTheHeapLaw" (95 : Nat) ({ cls := "KinInTheHeap", name := "film", desc := "(II)I" } : Jvm.MethodName)) ∈ TB := tbm (tb_4 (List.mem_of_getElem? (i := 48) rfl)) rfl
theorem w866 : (Jvm.Cond.instanceMethod ({ cls := "KinInTheHeap", name := "film", desc := "(II)I" } : Jvm.MethodName)) ∈ TB := tbm (tb_4 (List.mem_of_getElem? (i := 49) rfl)) rfl
theorem w867 : (Jvm.Cond.selects "KinInTheHeap" ({ cls := "KinInTheHeap", name := "film", desc := "(II)I" } : Jvm.MethodName) ({ cls := "KinInTheHeap", name := "film", desc := "(II)I" } : Jvm.MethodName)) ∈ TB := tbm (tb_4 (List.mem_of_getElem? (i := 50) rfl)) rfl
theorem w868 : (Jvm.Cond.code ({ cls := "KinInTheHeap", name := "film", desc := "(II)I" } : Jvm.MethodName) prog_1_method_21_code (6 : Nat) (Option.some Jvm.ClassFile.FieldType.int)) ∈ TB := tbm (tb_4 (List.mem_of_getElem? (i := 51) rfl)) rfl
theorem w869 : (Jvm.Cond.methodLink "KinInTheHeap" (228 : Nat) ({ cls := "KinInTheHeap$Sheet", name := "make", desc := "(II)V" } : Jvm.MethodName)) ∈ TB := tbm (tb_4 (List.mem_of_getElem? (i := 52) rfl)) rfl
theorem w870 : (Jvm.Cond.instanceMethod ({ cls := "KinInTheHeap$Sheet", name := "make", desc := "(II)V" } : Jvm.MethodName)) ∈ TB := tbm (tb_4 (List.mem_of_getElem? (i := 53) rfl)) rfl
theorem w871 : (Jvm.Cond.selects "KinInTheHeap$Sheet" ({ cls := "KinInTheHeap$Sheet", name := "make", desc := "(II)V" } : Jvm.MethodName) ({ cls := "KinInTheHeap$Sheet", name := "make", desc := "(II)V" } : Jvm.MethodName)) ∈ TB := tbm (tb_4 (List.mem_of_getElem? (i := 54) rfl)) rfl
theorem w872 : (Jvm.Cond.code ({ cls := "KinInTheHeap$Sheet", name := "make", desc := "(II)V" } : Jvm.MethodName) prog_4_method_3_code (4 : Nat) (Option.none : Option Jvm.ClassFile.FieldType)) ∈ TB := tbm (tb_4 (List.mem_of_getElem? (i := 55) rfl)) rfl
theorem w873 : (Jvm.Cond.methodLink "KinInTheHeap$Sheet" (19 : Nat) ({ cls := "java/lang/Math", name := "min", desc := "(II)I" } : Jvm.MethodName)) ∈ TB := tbm (tb_4 (List.mem_of_getElem? (i := 56) rfl)) rfl
theorem w874 : (Jvm.Cond.methodLink "KinInTheHeap$Sheet" (25 : Nat) ({ cls := "java/lang/Math", name := "max", desc := "(II)I" } : Jvm.MethodName)) ∈ TB := tbm (tb_4 (List.mem_of_getElem? (i := 57) rfl)) rfl
theorem w875 : (Jvm.Cond.methodLink "KinInTheHeap" (235 : Nat) ({ cls := "KinInTheHeap$Sheet", name := "put", desc := "(II)Z" } : Jvm.MethodName)) ∈ TB := tbm (tb_4 (List.mem_of_getElem? (i := 58) rfl)) rfl
theorem w876 : (Jvm.Cond.instanceMethod ({ cls := "KinInTheHeap$Sheet", name := "put", desc := "(II)Z" } : Jvm.MethodName)) ∈ TB := tbm (tb_4 (List.mem_of_getElem? (i := 59) rfl)) rfl
theorem w877 : (Jvm.Cond.selects "KinInTheHeap$Sheet" ({ cls := "KinInTheHeap$Sheet", name := "put", desc := "(II)Z" } : Jvm.MethodName) ({ cls := "KinInTheHeap$Sheet", name := "put", desc := "(II)Z" } : Jvm.MethodName)) ∈ TB := tbm (tb_4 (List.mem_of_getElem? (i := 60) rfl)) rfl
theorem w878 : (Jvm.Cond.code ({ cls := "KinInTheHeap$Sheet", name := "put", desc := "(II)Z" } : Jvm.MethodName) prog_4_method_5_code (3 : Nat) (Option.some Jvm.ClassFile.FieldType.boolean)) ∈ TB := tbm (tb_4 (List.mem_of_getElem? (i := 61) rfl)) rfl
theorem w879 : (Jvm.Cond.methodLink "KinInTheHeapLaw" (99 : Nat) ({ cls := "KinInTheHeap", name := "drawn", desc := "(II)I" } : Jvm.MethodName)) ∈ TB := tbm (tb_4 (List.mem_of_getElem? (i := 62) rfl)) rfl
theorem w880 : (Jvm.Cond.instanceMethod ({ cls := "KinInTheHeap", name := "drawn", desc := "(II)I" } : Jvm.MethodName)) ∈ TB := tbm (tb_4 (List.mem_of_getElem? (i := 63) rfl)) rfl
theorem w881 : (Jvm.Cond.selects "KinInTheHeap" ({ cls := "KinInTheHeap", name := "drawn", desc := "(II)I" } : Jvm.MethodName) ({ cls := "KinInTheHeap", name := "drawn", desc := "(II)I" } : Jvm.MethodName)) ∈ TB := tbm (tb_4 (List.mem_of_getElem? (i := 64) rfl)) rfl
theorem w882 : (Jvm.Cond.code ({ cls := "KinInTheHeap", name := "drawn", desc := "(II)I" } : Jvm.MethodName) prog_1_method_22_code (3 : Nat) (Option.some Jvm.ClassFile.FieldType.int)) ∈ TB := tbm (tb_4 (List.mem_of_getElem? (i := 65) rfl)) rfl
theorem w883 : (Jvm.Cond.methodLink "KinInTheHeap" (239 : Nat) ({ cls := "KinInTheHeap", name := "outByDrawn", desc := "(II)I" } : Jvm.MethodName)) ∈ TB := tbm (tb_4 (List.mem_of_getElem? (i := 66) rfl)) rfl
theorem w885 : (Jvm.Cond.instanceMethod ({ cls := "KinInTheHeap", name := "outByDrawn", desc := "(II)I" } : Jvm.MethodName)) ∈ TB := tbm (tb_4 (List.mem_of_getElem? (i := 68) rfl)) rfl
theorem w886 : (Jvm.Cond.code ({ cls := "KinInTheHeap", name := "outByDrawn", desc := "(II)I" } : Jvm.MethodName) prog_1_method_58_code (5 : Nat) (Option.some Jvm.ClassFile.FieldType.int)) ∈ TB := tbm (tb_4 (List.mem_of_getElem? (i := 69) rfl)) rfl
theorem w887 : (Jvm.Cond.constant "KinInTheHeap" (311 : Nat) (1103515245 : Int32)) ∈ TB := tbm (tb_4 (List.mem_of_getElem? (i := 70) rfl)) rfl
theorem w888 : (Jvm.Cond.methodLink "KinInTheHeapLaw" (103 : Nat) ({ cls := "KinInTheHeap", name := "chance", desc := "(IIII)J" } : Jvm.MethodName)) ∈ TB := tbm (tb_4 (List.mem_of_getElem? (i := 71) rfl)) rfl
theorem w889 : (Jvm.Cond.instanceMethod ({ cls := "KinInTheHeap", name := "chance", desc := "(IIII)J" } : Jvm.MethodName)) ∈ TB := tbm (tb_4 (List.mem_of_getElem? (i := 72) rfl)) rfl
theorem w890 : (Jvm.Cond.selects "KinInTheHeap" ({ cls := "KinInTheHeap", name := "chance", desc := "(IIII)J" } : Jvm.MethodName) ({ cls := "KinInTheHeap", name := "chance", desc := "(IIII)J" } : Jvm.MethodName)) ∈ TB := tbm (tb_4 (List.mem_of_getElem? (i := 73) rfl)) rfl
theorem w891 : (Jvm.Cond.code ({ cls := "KinInTheHeap", name := "chance", desc := "(IIII)J" } : Jvm.MethodName) prog_1_method_23_code (7 : Nat) (Option.some Jvm.ClassFile.FieldType.long)) ∈ TB := tbm (tb_4 (List.mem_of_getElem? (i := 74) rfl)) rfl
theorem w892 : (Jvm.Cond.methodLink "KinInTheHeapLaw" (108 : Nat) ({ cls := "KinInTheHeap", name := "image", desc := "()I" } : Jvm.MethodName)) ∈ TB := tbm (tb_4 (List.mem_of_getElem? (i := 75) rfl)) rfl
theorem w893 : (Jvm.Cond.instanceMethod ({ cls := "KinInTheHeap", name := "image", desc := "()I" } : Jvm.MethodName)) ∈ TB := tbm (tb_4 (List.mem_of_getElem? (i := 76) rfl)) rfl
theorem w894 : (Jvm.Cond.selects "KinInTheHeap" ({ cls := "KinInTheHeap", name := "image", desc := "()I" } : Jvm.MethodName) ({ cls := "KinInTheHeap", name := "image", desc := "()I" } : Jvm.MethodName)) ∈ TB := tbm (tb_4 (List.mem_of_getElem? (i := 77) rfl)) rfl
theorem w895 : (Jvm.Cond.code ({ cls := "KinInTheHeap", name := "image", desc := "()I" } : Jvm.MethodName) prog_1_method_24_code (1 : Nat) (Option.some Jvm.ClassFile.FieldType.int)) ∈ TB := tbm (tb_4 (List.mem_of_getElem? (i := 78) rfl)) rfl
theorem w896 : (Jvm.Cond.methodLink "KinInTheHeapLaw" (112 : Nat) ({ cls := "KinInTheHeap", name := "back", desc := "()I" } : Jvm.MethodName)) ∈ TB := tbm (tb_4 (List.mem_of_getElem? (i := 79) rfl)) rfl
theorem w897 : (Jvm.Cond.instanceMethod ({ cls := "KinInTheHeap", name := "back", desc := "()I" } : Jvm.MethodName)) ∈ TB := tbm (tb_4 (List.mem_of_getElem? (i := 80) rfl)) rfl
theorem w898 : (Jvm.Cond.selects "KinInTheHeap" ({ cls := "KinInTheHeap", name := "back", desc := "()I" } : Jvm.MethodName) ({ cls := "KinInTheHeap", name := "back", desc := "()I" } : Jvm.MethodName)) ∈ TB := tbm (tb_4 (List.mem_of_getElem? (i := 81) rfl)) rfl
theorem w899 : (Jvm.Cond.code ({ cls := "KinInTheHeap", name := "back", desc := "()I" } : Jvm.MethodName) prog_1_method_25_code (1 : Nat) (Option.some Jvm.ClassFile.FieldType.int)) ∈ TB := tbm (tb_4 (List.mem_of_getElem? (i := 82) rfl)) rfl
theorem w900 : (Jvm.Cond.methodLink "KinInTheHeapLaw" (116 : Nat) ({ cls := "KinInTheHeap", name := "count", desc := "(I)I" } : Jvm.MethodName)) ∈ TB := tbm (tb_4 (List.mem_of_getElem? (i := 83) rfl)) rfl
theorem w901 : (Jvm.Cond.instanceMethod ({ cls := "KinInTheHeap", name := "count", desc := "(I)I" } : Jvm.MethodName)) ∈ TB := tbm (tb_4 (List.mem_of_getElem? (i := 84) rfl)) rfl
theorem w902 : (Jvm.Cond.selects "KinInTheHeap" ({ cls := "KinInTheHeap", name := "count", desc := "(I)I" } : Jvm.MethodName) ({ cls := "KinInTheHeap", name := "count", desc := "(I)I" } : Jvm.MethodName)) ∈ TB := tbm (tb_4 (List.mem_of_getElem? (i := 85) rfl)) rfl
theorem w903 : (Jvm.Cond.code ({ cls := "KinInTheHeap", name := "count", desc := "(I)I" } : Jvm.MethodName) prog_1_method_26_code (2 : Nat) (Option.some Jvm.ClassFile.FieldType.int)) ∈ TB := tbm (tb_4 (List.mem_of_getElem? (i := 86) rfl)) rfl
theorem w904 : (Jvm.Cond.methodLink "KinInTheHeap" (246 : Nat) ({ cls := "java/lang/Long", name := "bitCount", desc := "(J)I" } : Jvm.MethodName)) ∈ TB := tbm (tb_4 (List.mem_of_getElem? (i := 87) rfl)) rfl
theorem w905 : (Jvm.Cond.methodLink "KinInTheHeapLaw" (120 : Nat) ({ cls := "KinInTheHeap", name := "sheet", desc := "(III)I" } : Jvm.MethodName)) ∈ TB := tbm (tb_4 (List.mem_of_getElem? (i := 88) rfl)) rfl
theorem w906 : (Jvm.Cond.instanceMethod ({ cls := "KinInTheHeap", name := "sheet", desc := "(III)I" } : Jvm.MethodName)) ∈ TB := tbm (tb_4 (List.mem_of_getElem? (i := 89) rfl)) rfl
theorem w907 : (Jvm.Cond.selects "KinInTheHeap" ({ cls := "KinInTheHeap", name := "sheet", desc := "(III)I" } : Jvm.MethodName) ({ cls := "KinInTheHeap", name := "sheet", desc := "(III)I" } : Jvm.MethodName)) ∈ TB := tbm (tb_4 (List.mem_of_getElem? (i := 90) rfl)) rfl
theorem w908 : (Jvm.Cond.code ({ cls := "KinInTheHeap", name := "sheet", desc := "(III)I" } : Jvm.MethodName) prog_1_method_27_code (4 : Nat) (Option.some Jvm.ClassFile.FieldType.int)) ∈ TB := tbm (tb_4 (List.mem_of_getElem? (i := 91) rfl)) rfl
theorem w909 : (Jvm.Cond.methodLink "KinInTheHeapLaw" (124 : Nat) ({ cls := "KinInTheHeap", name := "cell", desc := "(III)I" } : Jvm.MethodName)) ∈ TB := tbm (tb_4 (List.mem_of_getElem? (i := 92) rfl)) rfl
theorem w910 : (Jvm.Cond.instanceMethod ({ cls := "KinInTheHeap", name := "cell", desc := "(III)I" } : Jvm.MethodName)) ∈ TB := tbm (tb_4 (List.mem_of_getElem? (i := 93) rfl)) rfl
theorem w911 : (Jvm.Cond.selects "KinInTheHeap" ({ cls := "KinInTheHeap", name := "cell", desc := "(III)I" } : Jvm.MethodName) ({ cls := "KinInTheHeap", name := "cell", desc := "(III)I" } : Jvm.MethodName)) ∈ TB := tbm (tb_4 (List.mem_of_getElem? (i := 94) rfl)) rfl
theorem w912 : (Jvm.Cond.code ({ cls := "KinInTheHeap", name := "cell", desc := "(III)I" } : Jvm.MethodName) prog_1_method_28_code (4 : Nat) (Option.some Jvm.ClassFile.FieldType.int)) ∈ TB := tbm (tb_4 (List.mem_of_getElem? (i := 95) rfl)) rfl
theorem w913 : (Jvm.Cond.methodLink "KinInTheHeapLaw" (128 : Nat) ({ cls := "KinInTheHeap", name := "copy", desc := "(IIIII)I" } : Jvm.MethodName)) ∈ TB := tbm (tb_4 (List.mem_of_getElem? (i := 96) rfl)) rfl
theorem w914 : (Jvm.Cond.instanceMethod ({ cls := "KinInTheHeap", name := "copy", desc := "(IIIII)I" } : Jvm.MethodName)) ∈ TB := tbm (tb_4 (List.mem_of_getElem? (i := 97) rfl)) rfl
theorem w915 : (Jvm.Cond.selects "KinInTheHeap" ({ cls := "KinInTheHeap", name := "copy", desc := "(IIIII)I" } : Jvm.MethodName) ({ cls := "KinInTheHeap", name := "copy", desc := "(IIIII)I" } : Jvm.MethodName)) ∈ TB := tbm (tb_4 (List.mem_of_getElem? (i := 98) rfl)) rfl
theorem w916 : (Jvm.Cond.code ({ cls := "KinInTheHeap", name := "copy", desc := "(IIIII)I" } : Jvm.MethodName) prog_1_method_29_code (8 : Nat) (Option.some Jvm.ClassFile.FieldType.int)) ∈ TB := tbm (tb_4 (List.mem_of_getElem? (i := 99) rfl)) rfl
theorem w917 : (Jvm.Cond.methodLink "KinInTheHeap" (259 : Nat) ({ cls := "KinInTheHeap$Sheet", name := "holds", desc := "(II)Z" } : Jvm.MethodName)) ∈ TB := tbm (tb_4 (List.mem_of_getElem? (i := 100) rfl)) rfl
theorem w918 : (Jvm.Cond.instanceMethod ({ cls := "KinInTheHeap$Sheet", name := "holds", desc := "(II)Z" } : Jvm.MethodName)) ∈ TB := tbm (tb_4 (List.mem_of_getElem? (i := 101) rfl)) rfl
theorem w919 : (Jvm.Cond.selects "KinInTheHeap$Sheet" ({ cls := "KinInTheHeap$Sheet", name := "holds", desc := "(II)Z" } : Jvm.MethodName) ({ cls := "KinInTheHeap$Sheet", name := "holds", desc := "(II)Z" } : Jvm.MethodName)) ∈ TB := tbm (tb_4 (List.mem_of_getElem? (i := 102) rfl)) rfl
theorem w920 : (Jvm.Cond.code ({ cls := "KinInTheHeap$Sheet", name := "holds", desc := "(II)Z" } : Jvm.MethodName) prog_4_method_4_code (3 : Nat) (Option.some Jvm.ClassFile.FieldType.boolean)) ∈ TB := tbm (tb_4 (List.mem_of_getElem? (i := 103) rfl)) rfl
theorem w921 : (Jvm.Cond.methodLink "KinInTheHeap" (265 : Nat) ({ cls := "java/lang/System", name := "arraycopy", desc := "(Ljava/lang/Object;ILjava/lang/Object;II)V" } : Jvm.MethodName)) ∈ TB := tbm (tb_4 (List.mem_of_getElem? (i := 104) rfl)) rfl
theorem w922 : (Jvm.Cond.methodLink "KinInTheHeapLaw" (133 : Nat) ({ cls := "KinInTheHeap", name := "heap", desc := "(IIII)I" } : Jvm.MethodName)) ∈ TB := tbm (tb_4 (List.mem_of_getElem? (i := 105) rfl)) rfl
theorem w923 : (Jvm.Cond.instanceMethod ({ cls := "KinInTheHeap", name := "heap", desc := "(IIII)I" } : Jvm.MethodName)) ∈ TB := tbm (tb_4 (List.mem_of_getElem? (i := 106) rfl)) rfl
theorem w924 : (Jvm.Cond.selects "KinInTheHeap" ({ cls := "KinInTheHeap", name := "heap", desc := "(IIII)I" } : Jvm.MethodName) ({ cls := "KinInTheHeap", name := "heap", desc := "(IIII)I" } : Jvm.MethodName)) ∈ TB := tbm (tb_4 (List.mem_of_getElem? (i := 107) rfl)) rfl
theorem w925 : (Jvm.Cond.code ({ cls := "KinInTheHeap", name := "heap", desc := "(IIII)I" } : Jvm.MethodName) prog_1_method_30_code (6 : Nat) (Option.some Jvm.ClassFile.FieldType.int)) ∈ TB := tbm (tb_4 (List.mem_of_getElem? (i := 108) rfl)) rfl
theorem w926 : (Jvm.Cond.methodLink "KinInTheHeap" (271 : Nat) ({ cls := "KinInTheHeap", name := "heapOf", desc := "(LKinInTheHeap$Sheet;II)I" } : Jvm.MethodName)) ∈ TB := tbm (tb_4 (List.mem_of_getElem? (i := 109) rfl)) rfl
theorem w928 : (Jvm.Cond.instanceMethod ({ cls := "KinInTheHeap", name := "heapOf", desc := "(LKinInTheHeap$Sheet;II)I" } : Jvm.MethodName)) ∈ TB := tbm (tb_4 (List.mem_of_getElem? (i := 111) rfl)) rfl
theorem w929 : (Jvm.Cond.code ({ cls := "KinInTheHeap", name := "heapOf", desc := "(LKinInTheHeap$Sheet;II)I" } : Jvm.MethodName) prog_1_method_69_code (7 : Nat) (Option.some Jvm.ClassFile.FieldType.int)) ∈ TB := tbm (tb_4 (List.mem_of_getElem? (i := 112) rfl)) rfl
theorem w930 : (Jvm.Cond.methodLink "KinInTheHeap" (330 : Nat) ({ cls := "KinInTheHeap", name := "dust", desc := "(III)I" } : Jvm.MethodName)) ∈ TB := tbm (tb_4 (List.mem_of_getElem? (i := 113) rfl)) rfl
theorem w931 : (Jvm.Cond.methodLink "KinInTheHeapLaw" (138 : Nat) ({ cls := "KinInTheHeap", name := "taken", desc := "(II)I" } : Jvm.MethodName)) ∈ TB := tbm (tb_4 (List.mem_of_getElem? (i := 114) rfl)) rfl
theorem w932 : (Jvm.Cond.instanceMethod ({ cls := "KinInTheHeap", name := "taken", desc := "(II)I" } : Jvm.MethodName)) ∈ TB := tbm (tb_4 (List.mem_of_getElem? (i := 115) rfl)) rfl
theorem w933 : (Jvm.Cond.selects "KinInTheHeap" ({ cls := "KinInTheHeap", name := "taken", desc := "(II)I" } : Jvm.MethodName) ({ cls := "KinInTheHeap", name := "taken", desc := "(II)I" } : Jvm.MethodName)) ∈ TB := tbm (tb_4 (List.mem_of_getElem? (i := 116) rfl)) rfl
theorem w934 : (Jvm.Cond.code ({ cls := "KinInTheHeap", name := "taken", desc := "(II)I" } : Jvm.MethodName) prog_1_method_31_code (3 : Nat) (Option.some Jvm.ClassFile.FieldType.int)) ∈ TB := tbm (tb_4 (List.mem_of_getElem? (i := 117) rfl)) rfl
theorem w935 : (Jvm.Cond.methodLink "KinInTheHeap" (277 : Nat) ({ cls := "KinInTheHeap", name := "isUnder", desc := "(II)Z" } : Jvm.MethodName)) ∈ TB := tbm (tb_4 (List.mem_of_getElem? (i := 118) rfl)) rfl
theorem w936 : (Jvm.Cond.static ({ cls := "KinInTheHeap", name := "isUnder", desc := "(II)Z" } : Jvm.MethodName)) ∈ TB := tbm (tb_4 (List.mem_of_getElem? (i := 119) rfl)) rfl
theorem w937 : (Jvm.Cond.code ({ cls := "KinInTheHeap", name := "isUnder", desc := "(II)Z" } : Jvm.MethodName) prog_1_method_70_code (4 : Nat) (Option.some Jvm.ClassFile.FieldType.boolean)) ∈ TB := tbm (tb_4 (List.mem_of_getElem? (i := 120) rfl)) rfl
theorem w938 : (Jvm.Cond.fieldLink "KinInTheHeap" (334 : Nat) "KinInTheHeap" "ABOVE" "[I") ∈ TB := tbm (tb_4 (List.mem_of_getElem? (i := 121) rfl)) rfl
theorem w940 : (Jvm.Cond.classLink "KinInTheHeapLaw" (10 : Nat) "KinInTheHeapModel") ∈ TB := tbm (tb_4 (List.mem_of_getElem? (i := 123) rfl)) rfl
theorem w941 : (Jvm.Cond.instantiable "KinInTheHeapModel" (43 : Nat)) ∈ TB := tbm (tb_4 (List.mem_of_getElem? (i := 124) rfl)) rfl
theorem w942 : (Jvm.Cond.methodLink "KinInTheHeapLaw" (12 : Nat) ({ cls := "KinInTheHeapModel", name := "<init>", desc := "()V" } : Jvm.MethodName)) ∈ TB := tbm (tb_4 (List.mem_of_getElem? (i := 125) rfl)) rfl
theorem w943 : (Jvm.Cond.instanceMethod ({ cls := "KinInTheHeapModel", name := "<init>", desc := "()V" } : Jvm.MethodName)) ∈ TB := tbm (tb_4 (List.mem_of_getElem? (i := 126) rfl)) rfl
theorem w944 : (Jvm.Cond.code ({ cls := "KinInTheHeapModel", name := "<init>", desc := "()V" } : Jvm.MethodName) prog_7_method_4_code (1 : Nat) (Option.none : Option Jvm.ClassFile.FieldType)) ∈ TB := tbm (tb_4 (List.mem_of_getElem? (i := 127) rfl)) rfl
theorem w945 : (Jvm.Cond.methodLink "KinInTheHeapModel" (7 : Nat) ({ cls := "java/lang/Object", name := "<init>", desc := "()V" } : Jvm.MethodName)) ∈ TB := tbm (tb_4 (List.mem_of_getElem? (i := 128) rfl)) rfl
theorem w946 : (Jvm.Cond.methodLink "KinInTheHeapModel" (69 : Nat) ({ cls := "KinInTheHeapModel", name := "spell", desc := "(IIIIIIIII)V" } : Jvm.MethodName)) ∈ TB := tbm (tb_4 (List.mem_of_getElem? (i := 129) rfl)) rfl
theorem w948 : (Jvm.Cond.instanceMethod ({ cls := "KinInTheHeapModel", name := "spell", desc := "(IIIIIIIII)V" } : Jvm.MethodName)) ∈ TB := tbm (tb_4 (List.mem_of_getElem? (i := 131) rfl)) rfl
theorem w949 : (Jvm.Cond.code ({ cls := "KinInTheHeapModel", name := "spell", desc := "(IIIIIIIII)V" } : Jvm.MethodName) prog_7_method_5_code (10 : Nat) (Option.none : Option Jvm.ClassFile.FieldType)) ∈ TB := tbm (tb_4 (List.mem_of_getElem? (i := 132) rfl)) rfl
theorem w950 : (Jvm.Cond.fieldLink "KinInTheHeapModel" (13 : Nat) "KinInTheHeapModel" "texts" "[I") ∈ TB := tbm (tb_4 (List.mem_of_getElem? (i := 133) rfl)) rfl
theorem w951 : (Jvm.Cond.fieldLink "KinInTheHeapModel" (17 : Nat) "KinInTheHeapModel" "textSize" "[I") ∈ TB := tbm (tb_4 (List.mem_of_getElem? (i := 134) rfl)) rfl
theorem w952 : (Jvm.Cond.fieldLink "KinInTheHeapModel" (73 : Nat) "KinInTheHeapModel" "textCount" "I") ∈ TB := tbm (tb_4 (List.mem_of_getElem? (i := 135) rfl)) rfl
theorem w953 : (Jvm.Cond.fieldLink "KinInTheHeapModel" (115 : Nat) "KinInTheHeapModel" "rule" "I") ∈ TB := tbm (tb_4 (List.mem_of_getElem? (i := 136) rfl)) rfl
theorem w954 : (Jvm.Cond.fieldLink "KinInTheHeapModel" (20 : Nat) "KinInTheHeapModel" "tape" "[I") ∈ TB := tbm (tb_4 (List.mem_of_getElem? (i := 137) rfl)) rfl
theorem w955 : (Jvm.Cond.fieldLink "KinInTheHeapModel" (138 : Nat) "KinInTheHeapModel" "taped" "I") ∈ TB := tbm (tb_4 (List.mem_of_getElem? (i := 138) rfl)) rfl
theorem w956 : (Jvm.Cond.fieldLink "KinInTheHeapModel" (112 : Nat) "KinInTheHeapModel" "weekNow" "I") ∈ TB := tbm (tb_4 (List.mem_of_getElem? (i := 139) rfl)) rfl
theorem w957 : (Jvm.Cond.fieldLink "KinInTheHeapModel" (23 : Nat) "KinInTheHeapModel" "forceNow" "I") ∈ TB := tbm (tb_4 (List.mem_of_getElem? (i := 140) rfl)) rfl
theorem w958 : (Jvm.Cond.fieldLink "KinInTheHeapModel" (26 : Nat) "KinInTheHeapModel" "cracks" "[I") ∈ TB := tbm (tb_4 (List.mem_of_getElem? (i := 141) rfl)) rfl
theorem w959 : (Jvm.Cond.fieldLink "KinInTheHeapModel" (29 : Nat) "KinInTheHeapModel" "kinds" "[I") ∈ TB := tbm (tb_4 (List.mem_of_getElem? (i := 142) rfl)) rfl
theorem w960 : (Jvm.Cond.fieldLink "KinInTheHeapModel" (32 : Nat) "KinInTheHeapModel" "numbers" "[I") ∈ TB := tbm (tb_4 (List.mem_of_getElem? (i := 143) rfl)) rfl
theorem w961 : (Jvm.Cond.fieldLink "KinInTheHeapModel" (35 : Nat) "KinInTheHeapModel" "at" "[I") ∈ TB := tbm (tb_4 (List.mem_of_getElem? (i := 144) rfl)) rfl
theorem w962 : (Jvm.Cond.fieldLink "KinInTheHeapModel" (76 : Nat) "KinInTheHeapModel" "many" "I") ∈ TB := tbm (tb_4 (List.mem_of_getElem? (i := 145) rfl)) rfl
theorem w963 : (Jvm.Cond.fieldLink "KinInTheHeapModel" (194 : Nat) "KinInTheHeapModel" "ofForce" "I") ∈ TB := tbm (tb_4 (List.mem_of_getElem? (i := 146) rfl)) rfl
theorem w964 : (Jvm.Cond.fieldLink "KinInTheHeapModel" (197 : Nat) "KinInTheHeapModel" "ofNumber" "I") ∈ TB := tbm (tb_4 (List.mem_of_getElem? (i := 147) rfl)) rfl
theorem w965 : (Jvm.Cond.fieldLink "KinInTheHeapModel" (200 : Nat) "KinInTheHeapModel" "ofRow" "I") ∈ TB := tbm (tb_4 (List.mem_of_getElem? (i := 148) rfl)) rfl
theorem w966 : (Jvm.Cond.fieldLink "KinInTheHeapModel" (203 : Nat) "KinInTheHeapModel" "ofColumn" "I") ∈ TB := tbm (tb_4 (List.mem_of_getElem? (i := 149) rfl)) rfl
theorem w967 : (Jvm.Cond.fieldLink "KinInTheHeapModel" (206 : Nat) "KinInTheHeapModel" "ofKin" "I") ∈ TB := tbm (tb_4 (List.mem_of_getElem? (i := 150) rfl)) rfl
theorem w968 : (Jvm.Cond.fieldLink "KinInTheHeapModel" (209 : Nat) "KinInTheHeapModel" "ofWeek" "I") ∈ TB := tbm (tb_4 (List.mem_of_getElem? (i := 151) rfl)) rfl
theorem w969 : (Jvm.Cond.fieldLink "KinInTheHeapModel" (144 : Nat) "KinInTheHeapModel" "from" "I") ∈ TB := tbm (tb_4 (List.mem_of_getElem? (i := 152) rfl)) rfl
theorem w970 : (Jvm.Cond.fieldLink "KinInTheHeapModel" (141 : Nat) "KinInTheHeapModel" "size" "I") ∈ TB := tbm (tb_4 (List.mem_of_getElem? (i := 153) rfl)) rfl
theorem w971 : (Jvm.Cond.fieldLink "KinInTheHeapModel" (147 : Nat) "KinInTheHeapModel" "here" "I") ∈ TB := tbm (tb_4 (List.mem_of_getElem? (i := 154) rfl)) rfl
theorem w972 : (Jvm.Cond.fieldLink "KinInTheHeapModel" (156 : Nat) "KinInTheHeapModel" "token" "I") ∈ TB := tbm (tb_4 (List.mem_of_getElem? (i := 155) rfl)) rfl
theorem w973 : (Jvm.Cond.fieldLink "KinInTheHeapModel" (153 : Nat) "KinInTheHeapModel" "tokenAt" "I") ∈ TB := tbm (tb_4 (List.mem_of_getElem? (i := 156) rfl)) rfl
theorem w974 : (Jvm.Cond.fieldLink "KinInTheHeapModel" (167 : Nat) "KinInTheHeapModel" "tokenWorth" "J") ∈ TB := tbm (tb_4 (List.mem_of_getElem? (i := 157) rfl)) rfl
theorem w975 : (Jvm.Cond.fieldLink "KinInTheHeapModel" (181 : Nat) "KinInTheHeapModel" "open" "I") ∈ TB := tbm (tb_4 (List.mem_of_getElem? (i := 158) rfl)) rfl
theorem w976 : (Jvm.Cond.fieldLink "KinInTheHeapModel" (171 : Nat) "KinInTheHeapModel" "bad" "Z") ∈ TB := tbm (tb_4 (List.mem_of_getElem? (i := 159) rfl)) rfl
theorem w977 : (Jvm.Cond.fieldLink "KinInTheHeapModel" (175 : Nat) "KinInTheHeapModel" "fault" "I") ∈ TB := tbm (tb_4 (List.mem_of_getElem? (i := 160) rfl)) rfl
theorem w978 : (Jvm.Cond.fieldLink "KinInTheHeapModel" (38 : Nat) "KinInTheHeapModel" "then" "[I") ∈ TB := tbm (tb_4 (List.mem_of_getElem? (i := 161) rfl)) rfl
theorem w979 : (Jvm.Cond.fieldLink "KinInTheHeapModel" (41 : Nat) "KinInTheHeapModel" "was" "[I") ∈ TB := tbm (tb_4 (List.mem_of_getElem? (i := 162) rfl)) rfl
theorem w980 : (Jvm.Cond.fieldLink "KinInTheHeapModel" (288 : Nat) "KinInTheHeapModel" "weekWas" "I") ∈ TB := tbm (tb_4 (List.mem_of_getElem? (i := 163) rfl)) rfl
theorem w981 : (Jvm.Cond.fieldLink "KinInTheHeapModel" (44 : Nat) "KinInTheHeapModel" "cracksKept" "[I") ∈ TB := tbm (tb_4 (List.mem_of_getElem? (i := 164) rfl)) rfl
theorem w982 : (Jvm.Cond.fieldLink "KinInTheHeapModel" (47 : Nat) "KinInTheHeapModel" "numbersKept" "[I") ∈ TB := tbm (tb_4 (List.mem_of_getElem? (i := 165) rfl)) rfl
theorem w983 : (Jvm.Cond.fieldLink "KinInTheHeapModel" (50 : Nat) "KinInTheHeapModel" "atKept" "[I") ∈ TB := tbm (tb_4 (List.mem_of_getElem? (i := 166) rfl)) rfl
theorem w984 : (Jvm.Cond.fieldLink "KinInTheHeapModel" (53 : Nat) "KinInTheHeapModel" "manyKept" "I") ∈ TB := tbm (tb_4 (List.mem_of_getElem? (i := 167) rfl)) rfl
theorem w985 : (Jvm.Cond.fieldLink "KinInTheHeapModel" (374 : Nat) "KinInTheHeapModel" "weekKept" "I") ∈ TB := tbm (tb_4 (List.mem_of_getElem? (i := 168) rfl)) rfl
theorem w986 : (Jvm.Cond.fieldLink "KinInTheHeapModel" (377 : Nat) "KinInTheHeapModel" "forceKept" "I") ∈ TB := tbm (tb_4 (List.mem_of_getElem? (i := 169) rfl)) rfl
theorem w987 : (Jvm.Cond.fieldLink "KinInTheHeapModel" (380 : Nat) "KinInTheHeapModel" "ruleKept" "I") ∈ TB := tbm (tb_4 (List.mem_of_getElem? (i := 170) rfl)) rfl
theorem w988 : (Jvm.Cond.fieldLink "KinInTheHeapModel" (56 : Nat) "KinInTheHeapModel" "isThere" "[Z") ∈ TB := tbm (tb_4 (List.mem_of_getElem? (i := 171) rfl)) rfl
theorem w989 : (Jvm.Cond.fieldLink "KinInTheHeapModel" (60 : Nat) "KinInTheHeapModel" "sorts" "[I") ∈ TB := tbm (tb_4 (List.mem_of_getElem? (i := 172) rfl)) rfl
theorem w990 : (Jvm.Cond.fieldLink "KinInTheHeapModel" (63 : Nat) "KinInTheHeapModel" "sheetSize" "[I") ∈ TB := tbm (tb_4 (List.mem_of_getElem? (i := 173) rfl)) rfl
theorem w991 : (Jvm.Cond.fieldLink "KinInTheHeapModel" (66 : Nat) "KinInTheHeapModel" "items" "[I") ∈ TB := tbm (tb_4 (List.mem_of_getElem? (i := 174) rfl)) rfl
theorem w992 : (Jvm.Cond.lays "KinInTheHeapModel" "KinInTheHeapModel" "thrown" "I") ∈ TB := tbm (tb_4 (List.mem_of_getElem? (i := 175) rfl)) rfl
theorem w993 : (Jvm.Cond.soleField "KinInTheHeapModel" "thrown") ∈ TB := tbm (tb_4 (List.mem_of_getElem? (i := 176) rfl)) rfl
theorem w994 : (Jvm.Cond.laysFinal "KinInTheHeapModel" "KinInTheHeapModel" "texts" "[I") ∈ TB := tbm (tb_4 (List.mem_of_getElem? (i := 177) rfl)) rfl
theorem w995 : (Jvm.Cond.soleField "KinInTheHeapModel" "texts") ∈ TB := tbm (tb_4 (List.mem_of_getElem? (i := 178) rfl)) rfl
theorem w996 : (Jvm.Cond.laysFinal "KinInTheHeapModel" "KinInTheHeapModel" "textSize" "[I") ∈ TB := tbm (tb_4 (List.mem_of_getElem? (i := 179) rfl)) rfl
theorem w997 : (Jvm.Cond.soleField "KinInTheHeapModel" "textSize") ∈ TB := tbm (tb_4 (List.mem_of_getElem? (i := 180) rfl)) rfl
theorem w998 : (Jvm.Cond.lays "KinInTheHeapModel" "KinInTheHeapModel" "textCount" "I") ∈ TB := tbm (tb_4 (List.mem_of_getElem? (i := 181) rfl)) rfl
theorem w999 : (Jvm.Cond.soleField "KinInTheHeapModel" "textCount") ∈ TB := tbm (tb_4 (List.mem_of_getElem? (i := 182) rfl)) rfl
theorem w1000 : (Jvm.Cond.lays "KinInTheHeapModel" "KinInTheHeapModel" "rule" "I") ∈ TB := tbm (tb_4 (List.mem_of_getElem? (i := 183) rfl)) rfl
theorem w1001 : (Jvm.Cond.soleField "KinInTheHeapModel" "rule") ∈ TB := tbm (tb_4 (List.mem_of_getElem? (i := 184) rfl)) rfl
theorem w1002 : (Jvm.Cond.laysFinal "KinInTheHeapModel" "KinInTheHeapModel" "tape" "[I") ∈ TB := tbm (tb_4 (List.mem_of_getElem? (i := 185) rfl)) rfl
theorem w1003 : (Jvm.Cond.soleField "KinInTheHeapModel" "tape") ∈ TB := tbm (tb_4 (List.mem_of_getElem? (i := 186) rfl)) rfl
theorem w1004 : (Jvm.Cond.lays "KinInTheHeapModel" "KinInTheHeapModel" "taped" "I") ∈ TB := tbm (tb_4 (List.mem_of_getElem? (i := 187) rfl)) rfl
theorem w1005 : (Jvm.Cond.soleField "KinInTheHeapModel" "taped") ∈ TB := tbm (tb_4 (List.mem_of_getElem? (i := 188) rfl)) rfl
theorem w1006 : (Jvm.Cond.lays "KinInTheHeapModel" "KinInTheHeapModel" "weekNow" "I") ∈ TB := tbm (tb_4 (List.mem_of_getElem? (i := 189) rfl)) rfl
theorem w1007 : (Jvm.Cond.soleField "KinInTheHeapModel" "weekNow") ∈ TB := tbm (tb_4 (List.mem_of_getElem? (i := 190) rfl)) rfl
theorem w1008 : (Jvm.Cond.lays "KinInTheHeapModel" "KinInTheHeapModel" "forceNow" "I") ∈ TB := tbm (tb_4 (List.mem_of_getElem? (i := 191) rfl)) rfl
theorem w1009 : (Jvm.Cond.soleField "KinInTheHeapModel" "forceNow") ∈ TB := tbm (tb_4 (List.mem_of_getElem? (i := 192) rfl)) rfl
theorem w1010 : (Jvm.Cond.laysFinal "KinInTheHeapModel" "KinInTheHeapModel" "cracks" "[I") ∈ TB := tbm (tb_4 (List.mem_of_getElem? (i := 193) rfl)) rfl
theorem w1011 : (Jvm.Cond.soleField "KinInTheHeapModel" "cracks") ∈ TB := tbm (tb_4 (List.mem_of_getElem? (i := 194) rfl)) rfl
theorem w1012 : (Jvm.Cond.laysFinal "KinInTheHeapModel" "KinInTheHeapModel" "kinds" "[I") ∈ TB := tbm (tb_4 (List.mem_of_getElem? (i := 195) rfl)) rfl
theorem w1013 : (Jvm.Cond.soleField "KinInTheHeapModel" "kinds") ∈ TB := tbm (tb_4 (List.mem_of_getElem? (i := 196) rfl)) rfl
theorem w1014 : (Jvm.Cond.laysFinal "KinInTheHeapModel" "KinInTheHeapModel" "numbers" "[I") ∈ TB := tbm (tb_4 (List.mem_of_getElem? (i := 197) rfl)) rfl
theorem w1015 : (Jvm.Cond.soleField "KinInTheHeapModel" "numbers") ∈ TB := tbm (tb_4 (List.mem_of_getElem? (i := 198) rfl)) rfl
theorem w1016 : (Jvm.Cond.laysFinal "KinInTheHeapModel" "KinInTheHeapModel" "at" "[I") ∈ TB := tbm (tb_4 (List.mem_of_getElem? (i := 199) rfl)) rfl
theorem w1017 : (Jvm.Cond.soleField "KinInTheHeapModel" "at") ∈ TB := tbm (tb_4 (List.mem_of_getElem? (i := 200) rfl)) rfl
theorem w1018 : (Jvm.Cond.lays "KinInTheHeapModel" "KinInTheHeapModel" "many" "I") ∈ TB := tbm (tb_4 (List.mem_of_getElem? (i := 201) rfl)) rfl
theorem w1019 : (Jvm.Cond.soleField "KinInTheHeapModel" "many") ∈ TB := tbm (tb_4 (List.mem_of_getElem? (i := 202) rfl)) rfl
theorem w1020 : (Jvm.Cond.lays "KinInTheHeapModel" "KinInTheHeapModel" "ofForce" "I") ∈ TB := tbm (tb_4 (List.mem_of_getElem? (i := 203) rfl)) rfl
theorem w1021 : (Jvm.Cond.soleField "KinInTheHeapModel" "ofForce") ∈ TB := tbm (tb_4 (List.mem_of_getElem? (i := 204) rfl)) rfl
theorem w1022 : (Jvm.Cond.lays "KinInTheHeapModel" "KinInTheHeapModel" "ofNumber" "I") ∈ TB := tbm (tb_4 (List.mem_of_getElem? (i := 205) rfl)) rfl
theorem w1023 : (Jvm.Cond.soleField "KinInTheHeapModel" "ofNumber") ∈ TB := tbm (tb_4 (List.mem_of_getElem? (i := 206) rfl)) rfl
theorem w1024 : (Jvm.Cond.lays "KinInTheHeapModel" "KinInTheHeapModel" "ofRow" "I") ∈ TB := tbm (tb_4 (List.mem_of_getElem? (i := 207) rfl)) rfl
theorem w1025 : (Jvm.Cond.soleField "KinInTheHeapModel" "ofRow") ∈ TB := tbm (tb_4 (List.mem_of_getElem? (i := 208) rfl)) rfl
theorem w1026 : (Jvm.Cond.lays "KinInTheHeapModel" "KinInTheHeapModel" "ofColumn" "I") ∈ TB := tbm (tb_4 (List.mem_of_getElem? (i := 209) rfl)) rfl
theorem w1027 : (Jvm.Cond.soleField "KinInTheHeapModel" "ofColumn") ∈ TB := tbm (tb_4 (List.mem_of_getElem? (i := 210) rfl)) rfl
theorem w1028 : (Jvm.Cond.lays "KinInTheHeapModel" "KinInTheHeapModel" "ofKin" "I") ∈ TB := tbm (tb_4 (List.mem_of_getElem? (i := 211) rfl)) rfl
theorem w1029 : (Jvm.Cond.soleField "KinInTheHeapModel" "ofKin") ∈ TB := tbm (tb_4 (List.mem_of_getElem? (i := 212) rfl)) rfl
theorem w1030 : (Jvm.Cond.lays "KinInTheHeapModel" "KinInTheHeapModel" "ofWeek" "I") ∈ TB := tbm (tb_4 (List.mem_of_getElem? (i := 213) rfl)) rfl
theorem w1031 : (Jvm.Cond.soleField "KinInTheHeapModel" "ofWeek") ∈ TB := tbm (tb_4 (List.mem_of_getElem? (i := 214) rfl)) rfl
theorem w1032 : (Jvm.Cond.lays "KinInTheHeapModel" "KinInTheHeapModel" "from" "I") ∈ TB := tbm (tb_4 (List.mem_of_getElem? (i := 215) rfl)) rfl
theorem w1033 : (Jvm.Cond.soleField "KinInTheHeapModel" "from") ∈ TB := tbm (tb_4 (List.mem_of_getElem? (i := 216) rfl)) rfl
theorem w1034 : (Jvm.Cond.lays "KinInTheHeapModel" "KinInTheHeapModel" "size" "I") ∈ TB := tbm (tb_4 (List.mem_of_getElem? (i := 217) rfl)) rfl
theorem w1035 : (Jvm.Cond.soleField "KinInTheHeapModel" "size") ∈ TB := tbm (tb_4 (List.mem_of_getElem? (i := 218) rfl)) rfl
theorem w1036 : (Jvm.Cond.lays "KinInTheHeapModel" "KinInTheHeapModel" "here" "I") ∈ TB := tbm (tb_4 (List.mem_of_getElem? (i := 219) rfl)) rfl
theorem w1037 : (Jvm.Cond.soleField "KinInTheHeapModel" "here") ∈ TB := tbm (tb_4 (List.mem_of_getElem? (i := 220) rfl)) rfl
theorem w1038 : (Jvm.Cond.lays "KinInTheHeapModel" "KinInTheHeapModel" "token" "I") ∈ TB := tbm (tb_4 (List.mem_of_getElem? (i := 221) rfl)) rfl
theorem w1039 : (Jvm.Cond.soleField "KinInTheHeapModel" "token") ∈ TB := tbm (tb_4 (List.mem_of_getElem? (i := 222) rfl)) rfl
theorem w1040 : (Jvm.Cond.lays "KinInTheHeapModel" "KinInTheHeapModel" "tokenAt" "I") ∈ TB := tbm (tb_4 (List.mem_of_getElem? (i := 223) rfl)) rfl
theorem w1041 : (Jvm.Cond.soleField "KinInTheHeapModel" "tokenAt") ∈ TB := tbm (tb_4 (List.mem_of_getElem? (i := 224) rfl)) rfl
theorem w1042 : (Jvm.Cond.lays "KinInTheHeapModel" "KinInTheHeapModel" "tokenWorth" "J") ∈ TB := tbm (tb_4 (List.mem_of_getElem? (i := 225) rfl)) rfl
theorem w1043 : (Jvm.Cond.soleField "KinInTheHeapModel" "tokenWorth") ∈ TB := tbm (tb_4 (List.mem_of_getElem? (i := 226) rfl)) rfl
theorem w1044 : (Jvm.Cond.lays "KinInTheHeapModel" "KinInTheHeapModel" "open" "I") ∈ TB := tbm (tb_4 (List.mem_of_getElem? (i := 227) rfl)) rfl
theorem w1045 : (Jvm.Cond.soleField "KinInTheHeapModel" "open") ∈ TB := tbm (tb_4 (List.mem_of_getElem? (i := 228) rfl)) rfl
theorem w1046 : (Jvm.Cond.lays "KinInTheHeapModel" "KinInTheHeapModel" "bad" "Z") ∈ TB := tbm (tb_4 (List.mem_of_getElem? (i := 229) rfl)) rfl
theorem w1047 : (Jvm.Cond.soleField "KinInTheHeapModel" "bad") ∈ TB := tbm (tb_4 (List.mem_of_getElem? (i := 230) rfl)) rfl
theorem w1048 : (Jvm.Cond.lays "KinInTheHeapModel" "KinInTheHeapModel" "fault" "I") ∈ TB := tbm (tb_4 (List.mem_of_getElem? (i := 231) rfl)) rfl
theorem w1049 : (Jvm.Cond.soleField "KinInTheHeapModel" "fault") ∈ TB := tbm (tb_4 (List.mem_of_getElem? (i := 232) rfl)) rfl
theorem w1050 : (Jvm.Cond.laysFinal "KinInTheHeapModel" "KinInTheHeapModel" "then" "[I") ∈ TB := tbm (tb_4 (List.mem_of_getElem? (i := 233) rfl)) rfl
theorem w1051 : (Jvm.Cond.soleField "KinInTheHeapModel" "then") ∈ TB := tbm (tb_4 (List.mem_of_getElem? (i := 234) rfl)) rfl
theorem w1052 : (Jvm.Cond.laysFinal "KinInTheHeapModel" "KinInTheHeapModel" "was" "[I") ∈ TB := tbm (tb_4 (List.mem_of_getElem? (i := 235) rfl)) rfl
theorem w1053 : (Jvm.Cond.soleField "KinInTheHeapModel" "was") ∈ TB := tbm (tb_4 (List.mem_of_getElem? (i := 236) rfl)) rfl
theorem w1054 : (Jvm.Cond.lays "KinInTheHeapModel" "KinInTheHeapModel" "weekWas" "I") ∈ TB := tbm (tb_4 (List.mem_of_getElem? (i := 237) rfl)) rfl
theorem w1055 : (Jvm.Cond.soleField "KinInTheHeapModel" "weekWas") ∈ TB := tbm (tb_4 (List.mem_of_getElem? (i := 238) rfl)) rfl
theorem w1056 : (Jvm.Cond.laysFinal "KinInTheHeapModel" "KinInTheHeapModel" "cracksKept" "[I") ∈ TB := tbm (tb_4 (List.mem_of_getElem? (i := 239) rfl)) rfl
theorem w1057 : (Jvm.Cond.soleField "KinInTheHeapModel" "cracksKept") ∈ TB := tbm (tb_5 (List.mem_of_getElem? (i := 0) rfl)) rfl
theorem w1058 : (Jvm.Cond.laysFinal "KinInTheHeapModel" "KinInTheHeapModel" "numbersKept" "[I") ∈ TB := tbm (tb_5 (List.mem_of_getElem? (i := 1) rfl)) rfl
theorem w1059 : (Jvm.Cond.soleField "KinInTheHeapModel" "numbersKept") ∈ TB := tbm (tb_5 (List.mem_of_getElem? (i := 2) rfl)) rfl
theorem w1060 : (Jvm.Cond.laysFinal "KinInTheHeapModel" "KinInTheHeapModel" "atKept" "[I") ∈ TB := tbm (tb_5 (List.mem_of_getElem? (i := 3) rfl)) rfl
theorem w1061 : (Jvm.Cond.soleField "KinInTheHeapModel" "atKept") ∈ TB := tbm (tb_5 (List.mem_of_getElem? (i := 4) rfl)) rfl
theorem w1062 : (Jvm.Cond.lays "KinInTheHeapModel" "KinInTheHeapModel" "manyKept" "I") ∈ TB := tbm (tb_5 (List.mem_of_getElem? (i := 5) rfl)) rfl
theorem w1063 : (Jvm.Cond.soleField "KinInTheHeapModel" "manyKept") ∈ TB := tbm (tb_5 (List.mem_of_getElem? (i := 6) rfl)) rfl
theorem w1064 : (Jvm.Cond.lays "KinInTheHeapModel" "KinInTheHeapModel" "weekKept" "I") ∈ TB := tbm (tb_5 (List.mem_of_getElem? (i := 7) rfl)) rfl
theorem w1065 : (Jvm.Cond.soleField "KinInTheHeapModel" "weekKept") ∈ TB := tbm (tb_5 (List.mem_of_getElem? (i := 8) rfl)) rfl
theorem w1066 : (Jvm.Cond.lays "KinInTheHeapModel" "KinInTheHeapModel" "forceKept" "I") ∈ TB := tbm (tb_5 (List.mem_of_getElem? (i := 9) rfl)) rfl
theorem w1067 : (Jvm.Cond.soleField "KinInTheHeapModel" "forceKept") ∈ TB := tbm (tb_5 (List.mem_of_getElem? (i := 10) rfl)) rfl
theorem w1068 : (Jvm.Cond.lays "KinInTheHeapModel" "KinInTheHeapModel" "ruleKept" "I") ∈ TB := tbm (tb_5 (List.mem_of_getElem? (i := 11) rfl)) rfl
theorem w1069 : (Jvm.Cond.soleField "KinInTheHeapModel" "ruleKept") ∈ TB := tbm (tb_5 (List.mem_of_getElem? (i := 12) rfl)) rfl
theorem w1070 : (Jvm.Cond.laysFinal "KinInTheHeapModel" "KinInTheHeapModel" "isThere" "[Z") ∈ TB := tbm (tb_5 (List.mem_of_getElem? (i := 13) rfl)) rfl
theorem w1071 : (Jvm.Cond.soleField "KinInTheHeapModel" "isThere") ∈ TB := tbm (tb_5 (List.mem_of_getElem? (i := 14) rfl)) rfl
theorem w1072 : (Jvm.Cond.laysFinal "KinInTheHeapModel" "KinInTheHeapModel" "sorts" "[I") ∈ TB := tbm (tb_5 (List.mem_of_getElem? (i := 15) rfl)) rfl
theorem w1073 : (Jvm.Cond.soleField "KinInTheHeapModel" "sorts") ∈ TB := tbm (tb_5 (List.mem_of_getElem? (i := 16) rfl)) rfl
theorem w1074 : (Jvm.Cond.laysFinal "KinInTheHeapModel" "KinInTheHeapModel" "sheetSize" "[I") ∈ TB := tbm (tb_5 (List.mem_of_getElem? (i := 17) rfl)) rfl
theorem w1075 : (Jvm.Cond.soleField "KinInTheHeapModel" "sheetSize") ∈ TB := tbm (tb_5 (List.mem_of_getElem? (i := 18) rfl)) rfl
theorem w1076 : (Jvm.Cond.laysFinal "KinInTheHeapModel" "KinInTheHeapModel" "items" "[I") ∈ TB := tbm (tb_5 (List.mem_of_getElem? (i := 19) rfl)) rfl
theorem w1077 : (Jvm.Cond.soleField "KinInTheHeapModel" "items") ∈ TB := tbm (tb_5 (List.mem_of_getElem? (i := 20) rfl)) rfl
theorem w1079 : (Jvm.Cond.arrayClass Jvm.ClassFile.FieldType.boolean) ∈ TB := tbm (tb_5 (List.mem_of_getElem? (i := 22) rfl)) rfl
theorem w1080 : (Jvm.Cond.methodLink "KinInTheHeapLaw" (17 : Nat) ({ cls := "KinInTheHeapModel", name := "set", desc := "(III)I" } : Jvm.MethodName)) ∈ TB := tbm (tb_5 (List.mem_of_getElem? (i := 23) rfl)) rfl
theorem w1081 : (Jvm.Cond.instanceMethod ({ cls := "KinInTheHeapModel", name := "set", desc := "(III)I" } : Jvm.MethodName)) ∈ TB := tbm (tb_5 (List.mem_of_getElem? (i := 24) rfl)) rfl
theorem w1082 : (Jvm.Cond.selects "KinInTheHeapModel" ({ cls := "KinInTheHeapModel", name := "set", desc := "(III)I" } : Jvm.MethodName) ({ cls := "KinInTheHeapModel", name := "set", desc := "(III)I" } : Jvm.MethodName)) ∈ TB := tbm (tb_5 (List.mem_of_getElem? (i := 25) rfl)) rfl
theorem w1083 : (Jvm.Cond.code ({ cls := "KinInTheHeapModel", name := "set", desc := "(III)I" } : Jvm.MethodName) prog_7_method_10_code (5 : Nat) (Option.some Jvm.ClassFile.FieldType.int)) ∈ TB := tbm (tb_5 (List.mem_of_getElem? (i := 26) rfl)) rfl
theorem w1084 : (Jvm.Cond.constantLong "KinInTheHeapModel" (92 : Nat) (4 : Int64)) ∈ TB := tbm (tb_5 (List.mem_of_getElem? (i := 27) rfl)) rfl
theorem w1085 : (Jvm.Cond.methodLink "KinInTheHeapModel" (79 : Nat) ({ cls := "KinInTheHeapModel", name := "in", desc := "(JJJ)Z" } : Jvm.MethodName)) ∈ TB := tbm (tb_5 (List.mem_of_getElem? (i := 28) rfl)) rfl
theorem w1086 : (Jvm.Cond.static ({ cls := "KinInTheHeapModel", name := "in", desc := "(JJJ)Z" } : Jvm.MethodName)) ∈ TB := tbm (tb_5 (List.mem_of_getElem? (i := 29) rfl)) rfl
theorem w1087 : (Jvm.Cond.code ({ cls := "KinInTheHeapModel", name := "in", desc := "(JJJ)Z" } : Jvm.MethodName) prog_7_method_2_code (6 : Nat) (Option.some Jvm.ClassFile.FieldType.boolean)) ∈ TB := tbm (tb_5 (List.mem_of_getElem? (i := 30) rfl)) rfl
theorem w1088 : (Jvm.Cond.methodLink "KinInTheHeapModel" (94 : Nat) ({ cls := "KinInTheHeapModel", name := "isOf", desc := "(II)Z" } : Jvm.MethodName)) ∈ TB := tbm (tb_5 (List.mem_of_getElem? (i := 31) rfl)) rfl
theorem w1090 : (Jvm.Cond.instanceMethod ({ cls := "KinInTheHeapModel", name := "isOf", desc := "(II)Z" } : Jvm.MethodName)) ∈ TB := tbm (tb_5 (List.mem_of_getElem? (i := 33) rfl)) rfl
theorem w1091 : (Jvm.Cond.code ({ cls := "KinInTheHeapModel", name := "isOf", desc := "(II)Z" } : Jvm.MethodName) prog_7_method_8_code (3 : Nat) (Option.some Jvm.ClassFile.FieldType.boolean)) ∈ TB := tbm (tb_5 (List.mem_of_getElem? (i := 34) rfl)) rfl
theorem w1092 : (Jvm.Cond.methodLink "KinInTheHeapModel" (85 : Nat) ({ cls := "KinInTheHeapModel", name := "isCell", desc := "(I)Z" } : Jvm.MethodName)) ∈ TB := tbm (tb_5 (List.mem_of_getElem? (i := 35) rfl)) rfl
theorem w1093 : (Jvm.Cond.static ({ cls := "KinInTheHeapModel", name := "isCell", desc := "(I)Z" } : Jvm.MethodName)) ∈ TB := tbm (tb_5 (List.mem_of_getElem? (i := 36) rfl)) rfl
theorem w1094 : (Jvm.Cond.code ({ cls := "KinInTheHeapModel", name := "isCell", desc := "(I)Z" } : Jvm.MethodName) prog_7_method_7_code (1 : Nat) (Option.some Jvm.ClassFile.FieldType.boolean)) ∈ TB := tbm (tb_5 (List.mem_of_getElem? (i := 37) rfl)) rfl
theorem w1095 : (Jvm.Cond.constantLong "KinInTheHeapModel" (83 : Nat) (35 : Int64)) ∈ TB := tbm (tb_5 (List.mem_of_getElem? (i := 38) rfl)) rfl
theorem w1096 : (Jvm.Cond.methodLink "KinInTheHeapModel" (89 : Nat) ({ cls := "KinInTheHeapModel", name := "isOne", desc := "(I)Z" } : Jvm.MethodName)) ∈ TB := tbm (tb_5 (List.mem_of_getElem? (i := 39) rfl)) rfl
theorem w1098 : (Jvm.Cond.instanceMethod ({ cls := "KinInTheHeapModel", name := "isOne", desc := "(I)Z" } : Jvm.MethodName)) ∈ TB := tbm (tb_5 (List.mem_of_getElem? (i := 41) rfl)) rfl
theorem w1099 : (Jvm.Cond.code ({ cls := "KinInTheHeapModel", name := "isOne", desc := "(I)Z" } : Jvm.MethodName) prog_7_method_6_code (2 : Nat) (Option.some Jvm.ClassFile.FieldType.boolean)) ∈ TB := tbm (tb_5 (List.mem_of_getElem? (i := 42) rfl)) rfl
theorem w1100 : (Jvm.Cond.constantLong "KinInTheHeapModel" (98 : Nat) (-1 : Int64)) ∈ TB := tbm (tb_5 (List.mem_of_getElem? (i := 43) rfl)) rfl
theorem w1101 : (Jvm.Cond.methodLink "KinInTheHeapModel" (100 : Nat) ({ cls := "KinInTheHeapModel", name := "mostOf", desc := "(I)I" } : Jvm.MethodName)) ∈ TB := tbm (tb_5 (List.mem_of_getElem? (i := 44) rfl)) rfl
theorem w1102 : (Jvm.Cond.static ({ cls := "KinInTheHeapModel", name := "mostOf", desc := "(I)I" } : Jvm.MethodName)) ∈ TB := tbm (tb_5 (List.mem_of_getElem? (i := 45) rfl)) rfl
theorem w1103 : (Jvm.Cond.code ({ cls := "KinInTheHeapModel", name := "mostOf", desc := "(I)I" } : Jvm.MethodName) prog_7_method_9_code (1 : Nat) (Option.some Jvm.ClassFile.FieldType.int)) ∈ TB := tbm (tb_5 (List.mem_of_getElem? (i := 46) rfl)) rfl
theorem w1104 : (Jvm.Cond.methodLink "KinInTheHeapModel" (104 : Nat) ({ cls := "KinInTheHeapModel", name := "told", desc := "(II)I" } : Jvm.MethodName)) ∈ TB := tbm (tb_5 (List.mem_of_getElem? (i := 47) rfl)) rfl
theorem w1105 : (Jvm.Cond.instanceMethod ({ cls := "KinInTheHeapModel", name := "told", desc := "(II)I" } : Jvm.MethodName)) ∈ TB := tbm (tb_5 (List.mem_of_getElem? (i := 48) rfl)) rfl
theorem w1106 : (Jvm.Cond.selects "KinInTheHeapModel" ({ cls := "KinInTheHeapModel", name := "told", desc := "(II)I" } : Jvm.MethodName) ({ cls := "KinInTheHeapModel", name := "told", desc := "(II)I" } : Jvm.MethodName)) ∈ TB := tbm (tb_5 (List.mem_of_getElem? (i := 49) rfl)) rfl
theorem w1107 : (Jvm.Cond.code ({ cls := "KinInTheHeapModel", name := "told", desc := "(II)I" } : Jvm.MethodName) prog_7_method_14_code (3 : Nat) (Option.some Jvm.ClassFile.FieldType.int)) ∈ TB := tbm (tb_5 (List.mem_of_getElem? (i := 50) rfl)) rfl
theorem w1108 : (Jvm.Cond.constantLong "KinInTheHeapModel" (122 : Nat) (10 : Int64)) ∈ TB := tbm (tb_5 (List.mem_of_getElem? (i := 51) rfl)) rfl
theorem w1109 : (Jvm.Cond.methodLink "KinInTheHeapModel" (124 : Nat) ({ cls := "KinInTheHeapModel", name := "whoIn", desc := "(I)I" } : Jvm.MethodName)) ∈ TB := tbm (tb_5 (List.mem_of_getElem? (i := 52) rfl)) rfl
theorem w1111 : (Jvm.Cond.instanceMethod ({ cls := "KinInTheHeapModel", name := "whoIn", desc := "(I)I" } : Jvm.MethodName)) ∈ TB := tbm (tb_5 (List.mem_of_getElem? (i := 54) rfl)) rfl
theorem w1112 : (Jvm.Cond.code ({ cls := "KinInTheHeapModel", name := "whoIn", desc := "(I)I" } : Jvm.MethodName) prog_7_method_13_code (4 : Nat) (Option.some Jvm.ClassFile.FieldType.int)) ∈ TB := tbm (tb_5 (List.mem_of_getElem? (i := 55) rfl)) rfl
theorem w1113 : (Jvm.Cond.methodLink "KinInTheHeapModel" (127 : Nat) ({ cls := "KinInTheHeapModel", name := "goesOf", desc := "(I)I" } : Jvm.MethodName)) ∈ TB := tbm (tb_5 (List.mem_of_getElem? (i := 56) rfl)) rfl
theorem w1115 : (Jvm.Cond.instanceMethod ({ cls := "KinInTheHeapModel", name := "goesOf", desc := "(I)I" } : Jvm.MethodName)) ∈ TB := tbm (tb_5 (List.mem_of_getElem? (i := 58) rfl)) rfl
theorem w1116 : (Jvm.Cond.code ({ cls := "KinInTheHeapModel", name := "goesOf", desc := "(I)I" } : Jvm.MethodName) prog_7_method_37_code (4 : Nat) (Option.some Jvm.ClassFile.FieldType.int)) ∈ TB := tbm (tb_5 (List.mem_of_getElem? (i := 59) rfl)) rfl
theorem w1117 : (Jvm.Cond.methodLink "KinInTheHeapModel" (255 : Nat) ({ cls := "KinInTheHeapModel", name := "kinOf", desc := "(I)I" } : Jvm.MethodName)) ∈ TB := tbm (tb_5 (List.mem_of_getElem? (i := 60) rfl)) rfl
theorem w1119 : (Jvm.Cond.instanceMethod ({ cls := "KinInTheHeapModel", name := "kinOf", desc := "(I)I" } : Jvm.MethodName)) ∈ TB := tbm (tb_5 (List.mem_of_getElem? (i := 62) rfl)) rfl
theorem w1120 : (Jvm.Cond.code ({ cls := "KinInTheHeapModel", name := "kinOf", desc := "(I)I" } : Jvm.MethodName) prog_7_method_35_code (2 : Nat) (Option.some Jvm.ClassFile.FieldType.int)) ∈ TB := tbm (tb_5 (List.mem_of_getElem? (i := 63) rfl)) rfl
theorem w1121 : (Jvm.Cond.methodLink "KinInTheHeapModel" (252 : Nat) ({ cls := "KinInTheHeapModel", name := "bitsOf", desc := "(I)I" } : Jvm.MethodName)) ∈ TB := tbm (tb_5 (List.mem_of_getElem? (i := 64) rfl)) rfl
theorem w1122 : (Jvm.Cond.static ({ cls := "KinInTheHeapModel", name := "bitsOf", desc := "(I)I" } : Jvm.MethodName)) ∈ TB := tbm (tb_5 (List.mem_of_getElem? (i := 65) rfl)) rfl
theorem w1123 : (Jvm.Cond.code ({ cls := "KinInTheHeapModel", name := "bitsOf", desc := "(I)I" } : Jvm.MethodName) prog_7_method_34_code (3 : Nat) (Option.some Jvm.ClassFile.FieldType.int)) ∈ TB := tbm (tb_5 (List.mem_of_getElem? (i := 66) rfl)) rfl
theorem w1124 : (Jvm.Cond.methodLink "KinInTheHeapModel" (258 : Nat) ({ cls := "KinInTheHeapModel", name := "says", desc := "(II)I" } : Jvm.MethodName)) ∈ TB := tbm (tb_5 (List.mem_of_getElem? (i := 67) rfl)) rfl
theorem w1126 : (Jvm.Cond.instanceMethod ({ cls := "KinInTheHeapModel", name := "says", desc := "(II)I" } : Jvm.MethodName)) ∈ TB := tbm (tb_5 (List.mem_of_getElem? (i := 69) rfl)) rfl
theorem w1127 : (Jvm.Cond.code ({ cls := "KinInTheHeapModel", name := "says", desc := "(II)I" } : Jvm.MethodName) prog_7_method_36_code (3 : Nat) (Option.some Jvm.ClassFile.FieldType.int)) ∈ TB := tbm (tb_5 (List.mem_of_getElem? (i := 70) rfl)) rfl
theorem w1128 : (Jvm.Cond.methodLink "KinInTheHeapModel" (249 : Nat) ({ cls := "KinInTheHeapModel", name := "read", desc := "(II)I" } : Jvm.MethodName)) ∈ TB := tbm (tb_5 (List.mem_of_getElem? (i := 71) rfl)) rfl
theorem w1130 : (Jvm.Cond.instanceMethod ({ cls := "KinInTheHeapModel", name := "read", desc := "(II)I" } : Jvm.MethodName)) ∈ TB := tbm (tb_5 (List.mem_of_getElem? (i := 73) rfl)) rfl
theorem w1131 : (Jvm.Cond.code ({ cls := "KinInTheHeapModel", name := "read", desc := "(II)I" } : Jvm.MethodName) prog_7_method_31_code (6 : Nat) (Option.some Jvm.ClassFile.FieldType.int)) ∈ TB := tbm (tb_5 (List.mem_of_getElem? (i := 74) rfl)) rfl
theorem w1132 : (Jvm.Cond.methodLink "KinInTheHeapModel" (187 : Nat) ({ cls := "KinInTheHeapModel", name := "next", desc := "()V" } : Jvm.MethodName)) ∈ TB := tbm (tb_5 (List.mem_of_getElem? (i := 75) rfl)) rfl
theorem w1134 : (Jvm.Cond.instanceMethod ({ cls := "KinInTheHeapModel", name := "next", desc := "()V" } : Jvm.MethodName)) ∈ TB := tbm (tb_5 (List.mem_of_getElem? (i := 77) rfl)) rfl
theorem w1135 : (Jvm.Cond.code ({ cls := "KinInTheHeapModel", name := "next", desc := "()V" } : Jvm.MethodName) prog_7_method_17_code (3 : Nat) (Option.none : Option Jvm.ClassFile.FieldType)) ∈ TB := tbm (tb_5 (List.mem_of_getElem? (i := 78) rfl)) rfl
theorem w1136 : (Jvm.Cond.methodLink "KinInTheHeapModel" (150 : Nat) ({ cls := "KinInTheHeapModel", name := "byteAt", desc := "(I)I" } : Jvm.MethodName)) ∈ TB := tbm (tb_5 (List.mem_of_getElem? (i := 79) rfl)) rfl
theorem w1138 : (Jvm.Cond.instanceMethod ({ cls := "KinInTheHeapModel", name := "byteAt", desc := "(I)I" } : Jvm.MethodName)) ∈ TB := tbm (tb_5 (List.mem_of_getElem? (i := 81) rfl)) rfl
theorem w1139 : (Jvm.Cond.code ({ cls := "KinInTheHeapModel", name := "byteAt", desc := "(I)I" } : Jvm.MethodName) prog_7_method_16_code (2 : Nat) (Option.some Jvm.ClassFile.FieldType.int)) ∈ TB := tbm (tb_5 (List.mem_of_getElem? (i := 82) rfl)) rfl
theorem w1140 : (Jvm.Cond.constantLong "KinInTheHeapModel" (159 : Nat) (97 : Int64)) ∈ TB := tbm (tb_5 (List.mem_of_getElem? (i := 83) rfl)) rfl
theorem w1141 : (Jvm.Cond.constantLong "KinInTheHeapModel" (161 : Nat) (122 : Int64)) ∈ TB := tbm (tb_5 (List.mem_of_getElem? (i := 84) rfl)) rfl
theorem w1142 : (Jvm.Cond.constantLong "KinInTheHeapModel" (163 : Nat) (48 : Int64)) ∈ TB := tbm (tb_5 (List.mem_of_getElem? (i := 85) rfl)) rfl
theorem w1143 : (Jvm.Cond.constantLong "KinInTheHeapModel" (165 : Nat) (57 : Int64)) ∈ TB := tbm (tb_5 (List.mem_of_getElem? (i := 86) rfl)) rfl
theorem w1144 : (Jvm.Cond.methodLink "KinInTheHeapModel" (190 : Nat) ({ cls := "KinInTheHeapModel", name := "isWord", desc := "(IIIIIIII)Z" } : Jvm.MethodName)) ∈ TB := tbm (tb_5 (List.mem_of_getElem? (i := 87) rfl)) rfl
theorem w1146 : (Jvm.Cond.instanceMethod ({ cls := "KinInTheHeapModel", name := "isWord", desc := "(IIIIIIII)Z" } : Jvm.MethodName)) ∈ TB := tbm (tb_5 (List.mem_of_getElem? (i := 89) rfl)) rfl
theorem w1147 : (Jvm.Cond.code ({ cls := "KinInTheHeapModel", name := "isWord", desc := "(IIIIIIII)Z" } : Jvm.MethodName) prog_7_method_20_code (9 : Nat) (Option.some Jvm.ClassFile.FieldType.boolean)) ∈ TB := tbm (tb_5 (List.mem_of_getElem? (i := 90) rfl)) rfl
theorem w1148 : (Jvm.Cond.methodLink "KinInTheHeapModel" (178 : Nat) ({ cls := "KinInTheHeapModel", name := "isLetter", desc := "(II)Z" } : Jvm.MethodName)) ∈ TB := tbm (tb_5 (List.mem_of_getElem? (i := 91) rfl)) rfl
theorem w1150 : (Jvm.Cond.instanceMethod ({ cls := "KinInTheHeapModel", name := "isLetter", desc := "(II)Z" } : Jvm.MethodName)) ∈ TB := tbm (tb_5 (List.mem_of_getElem? (i := 93) rfl)) rfl
theorem w1151 : (Jvm.Cond.code ({ cls := "KinInTheHeapModel", name := "isLetter", desc := "(II)Z" } : Jvm.MethodName) prog_7_method_19_code (3 : Nat) (Option.some Jvm.ClassFile.FieldType.boolean)) ∈ TB := tbm (tb_5 (List.mem_of_getElem? (i := 94) rfl)) rfl
theorem w1152 : (Jvm.Cond.methodLink "KinInTheHeapModel" (245 : Nat) ({ cls := "KinInTheHeapModel", name := "part", desc := "(Z)I" } : Jvm.MethodName)) ∈ TB := tbm (tb_5 (List.mem_of_getElem? (i := 95) rfl)) rfl
theorem w1154 : (Jvm.Cond.instanceMethod ({ cls := "KinInTheHeapModel", name := "part", desc := "(Z)I" } : Jvm.MethodName)) ∈ TB := tbm (tb_5 (List.mem_of_getElem? (i := 97) rfl)) rfl
theorem w1155 : (Jvm.Cond.code ({ cls := "KinInTheHeapModel", name := "part", desc := "(Z)I" } : Jvm.MethodName) prog_7_method_30_code (3 : Nat) (Option.some Jvm.ClassFile.FieldType.int)) ∈ TB := tbm (tb_5 (List.mem_of_getElem? (i := 98) rfl)) rfl
theorem w1156 : (Jvm.Cond.methodLink "KinInTheHeapModel" (184 : Nat) ({ cls := "KinInTheHeapModel", name := "fail", desc := "()V" } : Jvm.MethodName)) ∈ TB := tbm (tb_5 (List.mem_of_getElem? (i := 99) rfl)) rfl
theorem w1158 : (Jvm.Cond.instanceMethod ({ cls := "KinInTheHeapModel", name := "fail", desc := "()V" } : Jvm.MethodName)) ∈ TB := tbm (tb_5 (List.mem_of_getElem? (i := 101) rfl)) rfl
theorem w1159 : (Jvm.Cond.code ({ cls := "KinInTheHeapModel", name := "fail", desc := "()V" } : Jvm.MethodName) prog_7_method_18_code (1 : Nat) (Option.none : Option Jvm.ClassFile.FieldType)) ∈ TB := tbm (tb_5 (List.mem_of_getElem? (i := 102) rfl)) rfl
theorem w1160 : (Jvm.Cond.methodLink "KinInTheHeapModel" (223 : Nat) ({ cls := "KinInTheHeapModel", name := "either", desc := "()I" } : Jvm.MethodName)) ∈ TB := tbm (tb_5 (List.mem_of_getElem? (i := 103) rfl)) rfl
theorem w1162 : (Jvm.Cond.instanceMethod ({ cls := "KinInTheHeapModel", name := "either", desc := "()I" } : Jvm.MethodName)) ∈ TB := tbm (tb_5 (List.mem_of_getElem? (i := 105) rfl)) rfl
theorem w1163 : (Jvm.Cond.code ({ cls := "KinInTheHeapModel", name := "either", desc := "()I" } : Jvm.MethodName) prog_7_method_29_code (3 : Nat) (Option.some Jvm.ClassFile.FieldType.int)) ∈ TB := tbm (tb_5 (List.mem_of_getElem? (i := 106) rfl)) rfl
theorem w1164 : (Jvm.Cond.methodLink "KinInTheHeapModel" (242 : Nat) ({ cls := "KinInTheHeapModel", name := "both", desc := "()I" } : Jvm.MethodName)) ∈ TB := tbm (tb_5 (List.mem_of_getElem? (i := 107) rfl)) rfl
theorem w1166 : (Jvm.Cond.instanceMethod ({ cls := "KinInTheHeapModel", name := "both", desc := "()I" } : Jvm.MethodName)) ∈ TB := tbm (tb_5 (List.mem_of_getElem? (i := 109) rfl)) rfl
theorem w1167 : (Jvm.Cond.code ({ cls := "KinInTheHeapModel", name := "both", desc := "()I" } : Jvm.MethodName) prog_7_method_28_code (3 : Nat) (Option.some Jvm.ClassFile.FieldType.int)) ∈ TB := tbm (tb_5 (List.mem_of_getElem? (i := 110) rfl)) rfl
theorem w1168 : (Jvm.Cond.methodLink "KinInTheHeapModel" (234 : Nat) ({ cls := "KinInTheHeapModel", name := "not", desc := "()I" } : Jvm.MethodName)) ∈ TB := tbm (tb_5 (List.mem_of_getElem? (i := 111) rfl)) rfl
theorem w1170 : (Jvm.Cond.instanceMethod ({ cls := "KinInTheHeapModel", name := "not", desc := "()I" } : Jvm.MethodName)) ∈ TB := tbm (tb_5 (List.mem_of_getElem? (i := 113) rfl)) rfl
theorem w1171 : (Jvm.Cond.code ({ cls := "KinInTheHeapModel", name := "not", desc := "()I" } : Jvm.MethodName) prog_7_method_27_code (4 : Nat) (Option.some Jvm.ClassFile.FieldType.int)) ∈ TB := tbm (tb_5 (List.mem_of_getElem? (i := 114) rfl)) rfl
theorem w1172 : (Jvm.Cond.methodLink "KinInTheHeapModel" (215 : Nat) ({ cls := "KinInTheHeapModel", name := "opens", desc := "()Z" } : Jvm.MethodName)) ∈ TB := tbm (tb_5 (List.mem_of_getElem? (i := 115) rfl)) rfl
theorem w1174 : (Jvm.Cond.instanceMethod ({ cls := "KinInTheHeapModel", name := "opens", desc := "()Z" } : Jvm.MethodName)) ∈ TB := tbm (tb_5 (List.mem_of_getElem? (i := 117) rfl)) rfl
theorem w1175 : (Jvm.Cond.code ({ cls := "KinInTheHeapModel", name := "opens", desc := "()Z" } : Jvm.MethodName) prog_7_method_22_code (1 : Nat) (Option.some Jvm.ClassFile.FieldType.boolean)) ∈ TB := tbm (tb_5 (List.mem_of_getElem? (i := 118) rfl)) rfl
theorem w1176 : (Jvm.Cond.methodLink "KinInTheHeapModel" (237 : Nat) ({ cls := "KinInTheHeapModel", name := "added", desc := "()I" } : Jvm.MethodName)) ∈ TB := tbm (tb_5 (List.mem_of_getElem? (i := 119) rfl)) rfl
theorem w1178 : (Jvm.Cond.instanceMethod ({ cls := "KinInTheHeapModel", name := "added", desc := "()I" } : Jvm.MethodName)) ∈ TB := tbm (tb_5 (List.mem_of_getElem? (i := 121) rfl)) rfl
theorem w1179 : (Jvm.Cond.code ({ cls := "KinInTheHeapModel", name := "added", desc := "()I" } : Jvm.MethodName) prog_7_method_26_code (4 : Nat) (Option.some Jvm.ClassFile.FieldType.int)) ∈ TB := tbm (tb_5 (List.mem_of_getElem? (i := 122) rfl)) rfl
theorem w1180 : (Jvm.Cond.methodLink "KinInTheHeapModel" (229 : Nat) ({ cls := "KinInTheHeapModel", name := "term", desc := "()I" } : Jvm.MethodName)) ∈ TB := tbm (tb_5 (List.mem_of_getElem? (i := 123) rfl)) rfl
theorem w1182 : (Jvm.Cond.instanceMethod ({ cls := "KinInTheHeapModel", name := "term", desc := "()I" } : Jvm.MethodName)) ∈ TB := tbm (tb_5 (List.mem_of_getElem? (i := 125) rfl)) rfl
theorem w1183 : (Jvm.Cond.code ({ cls := "KinInTheHeapModel", name := "term", desc := "()I" } : Jvm.MethodName) prog_7_method_25_code (2 : Nat) (Option.some Jvm.ClassFile.FieldType.int)) ∈ TB := tbm (tb_5 (List.mem_of_getElem? (i := 126) rfl)) rfl
theorem w1184 : (Jvm.Cond.methodLink "KinInTheHeapModel" (219 : Nat) ({ cls := "KinInTheHeapModel", name := "atom", desc := "()I" } : Jvm.MethodName)) ∈ TB := tbm (tb_5 (List.mem_of_getElem? (i := 127) rfl)) rfl
theorem w1186 : (Jvm.Cond.instanceMethod ({ cls := "KinInTheHeapModel", name := "atom", desc := "()I" } : Jvm.MethodName)) ∈ TB := tbm (tb_5 (List.mem_of_getElem? (i := 129) rfl)) rfl
theorem w1187 : (Jvm.Cond.code ({ cls := "KinInTheHeapModel", name := "atom", desc := "()I" } : Jvm.MethodName) prog_7_method_24_code (2 : Nat) (Option.some Jvm.ClassFile.FieldType.int)) ∈ TB := tbm (tb_5 (List.mem_of_getElem? (i := 130) rfl)) rfl
theorem w1188 : (Jvm.Cond.methodLink "KinInTheHeapModel" (212 : Nat) ({ cls := "KinInTheHeapModel", name := "isSign", desc := "(I)Z" } : Jvm.MethodName)) ∈ TB := tbm (tb_5 (List.mem_of_getElem? (i := 131) rfl)) rfl
theorem w1190 : (Jvm.Cond.instanceMethod ({ cls := "KinInTheHeapModel", name := "isSign", desc := "(I)Z" } : Jvm.MethodName)) ∈ TB := tbm (tb_5 (List.mem_of_getElem? (i := 133) rfl)) rfl
theorem w1191 : (Jvm.Cond.code ({ cls := "KinInTheHeapModel", name := "isSign", desc := "(I)Z" } : Jvm.MethodName) prog_7_method_21_code (2 : Nat) (Option.some Jvm.ClassFile.FieldType.boolean)) ∈ TB := tbm (tb_5 (List.mem_of_getElem? (i := 134) rfl)) rfl
theorem w1192 : (Jvm.Cond.methodLink "KinInTheHeapModel" (226 : Nat) ({ cls := "KinInTheHeapModel", name := "name", desc := "()I" } : Jvm.MethodName)) ∈ TB := tbm (tb_5 (List.mem_of_getElem? (i := 135) rfl)) rfl
theorem w1194 : (Jvm.Cond.instanceMethod ({ cls := "KinInTheHeapModel", name := "name", desc := "()I" } : Jvm.MethodName)) ∈ TB := tbm (tb_5 (List.mem_of_getElem? (i := 137) rfl)) rfl
theorem w1195 : (Jvm.Cond.code ({ cls := "KinInTheHeapModel", name := "name", desc := "()I" } : Jvm.MethodName) prog_7_method_23_code (1 : Nat) (Option.some Jvm.ClassFile.FieldType.int)) ∈ TB := tbm (tb_5 (List.mem_of_getElem? (i := 138) rfl)) rfl
theorem w1196 : (Jvm.Cond.constantLong "KinInTheHeapModel" (232 : Nat) (43 : Int64)) ∈ TB := tbm (tb_5 (List.mem_of_getElem? (i := 139) rfl)) rfl
theorem w1197 : (Jvm.Cond.constantLong "KinInTheHeapModel" (240 : Nat) (60 : Int64)) ∈ TB := tbm (tb_5 (List.mem_of_getElem? (i := 140) rfl)) rfl
theorem w1198 : (Jvm.Cond.methodLink "KinInTheHeapModel" (261 : Nat) ({ cls := "KinInTheHeapModel", name := "within", desc := "(III)I" } : Jvm.MethodName)) ∈ TB := tbm (tb_5 (List.mem_of_getElem? (i := 141) rfl)) rfl
theorem w1199 : (Jvm.Cond.static ({ cls := "KinInTheHeapModel", name := "within", desc := "(III)I" } : Jvm.MethodName)) ∈ TB := tbm (tb_5 (List.mem_of_getElem? (i := 142) rfl)) rfl
theorem w1200 : (Jvm.Cond.code ({ cls := "KinInTheHeapModel", name := "within", desc := "(III)I" } : Jvm.MethodName) prog_7_method_3_code (3 : Nat) (Option.some Jvm.ClassFile.FieldType.int)) ∈ TB := tbm (tb_5 (List.mem_of_getElem? (i := 143) rfl)) rfl
theorem w1201 : (Jvm.Cond.methodLink "KinInTheHeapModel" (130 : Nat) ({ cls := "KinInTheHeapModel", name := "isLoose", desc := "(I)Z" } : Jvm.MethodName)) ∈ TB := tbm (tb_5 (List.mem_of_getElem? (i := 144) rfl)) rfl
theorem w1203 : (Jvm.Cond.instanceMethod ({ cls := "KinInTheHeapModel", name := "isLoose", desc := "(I)Z" } : Jvm.MethodName)) ∈ TB := tbm (tb_5 (List.mem_of_getElem? (i := 146) rfl)) rfl
theorem w1204 : (Jvm.Cond.code ({ cls := "KinInTheHeapModel", name := "isLoose", desc := "(I)Z" } : Jvm.MethodName) prog_7_method_38_code (4 : Nat) (Option.some Jvm.ClassFile.FieldType.boolean)) ∈ TB := tbm (tb_5 (List.mem_of_getElem? (i := 147) rfl)) rfl
theorem w1205 : (Jvm.Cond.methodLink "KinInTheHeapModel" (133 : Nat) ({ cls := "KinInTheHeapModel", name := "blownOf", desc := "(I)I" } : Jvm.MethodName)) ∈ TB := tbm (tb_5 (List.mem_of_getElem? (i := 148) rfl)) rfl
theorem w1207 : (Jvm.Cond.instanceMethod ({ cls := "KinInTheHeapModel", name := "blownOf", desc := "(I)I" } : Jvm.MethodName)) ∈ TB := tbm (tb_5 (List.mem_of_getElem? (i := 150) rfl)) rfl
theorem w1208 : (Jvm.Cond.code ({ cls := "KinInTheHeapModel", name := "blownOf", desc := "(I)I" } : Jvm.MethodName) prog_7_method_39_code (5 : Nat) (Option.some Jvm.ClassFile.FieldType.int)) ∈ TB := tbm (tb_5 (List.mem_of_getElem? (i := 151) rfl)) rfl
theorem w1209 : (Jvm.Cond.methodLink "KinInTheHeapModel" (108 : Nat) ({ cls := "KinInTheHeapModel", name := "lays", desc := "(III)V" } : Jvm.MethodName)) ∈ TB := tbm (tb_5 (List.mem_of_getElem? (i := 152) rfl)) rfl
theorem w1211 : (Jvm.Cond.instanceMethod ({ cls := "KinInTheHeapModel", name := "lays", desc := "(III)V" } : Jvm.MethodName)) ∈ TB := tbm (tb_5 (List.mem_of_getElem? (i := 154) rfl)) rfl
theorem w1212 : (Jvm.Cond.code ({ cls := "KinInTheHeapModel", name := "lays", desc := "(III)V" } : Jvm.MethodName) prog_7_method_11_code (4 : Nat) (Option.none : Option Jvm.ClassFile.FieldType)) ∈ TB := tbm (tb_5 (List.mem_of_getElem? (i := 155) rfl)) rfl
theorem w1213 : (Jvm.Cond.methodLink "KinInTheHeapLaw" (21 : Nat) ({ cls := "KinInTheHeapModel", name := "dust", desc := "(III)I" } : Jvm.MethodName)) ∈ TB := tbm (tb_5 (List.mem_of_getElem? (i := 156) rfl)) rfl
theorem w1214 : (Jvm.Cond.instanceMethod ({ cls := "KinInTheHeapModel", name := "dust", desc := "(III)I" } : Jvm.MethodName)) ∈ TB := tbm (tb_5 (List.mem_of_getElem? (i := 157) rfl)) rfl
theorem w1215 : (Jvm.Cond.selects "KinInTheHeapModel" ({ cls := "KinInTheHeapModel", name := "dust", desc := "(III)I" } : Jvm.MethodName) ({ cls := "KinInTheHeapModel", name := "dust", desc := "(III)I" } : Jvm.MethodName)) ∈ TB := tbm (tb_5 (List.mem_of_getElem? (i := 158) rfl)) rfl
theorem w1216 : (Jvm.Cond.code ({ cls := "KinInTheHeapModel", name := "dust", desc := "(III)I" } : Jvm.MethodName) prog_7_method_12_code (4 : Nat) (Option.some Jvm.ClassFile.FieldType.int)) ∈ TB := tbm (tb_5 (List.mem_of_getElem? (i := 159) rfl)) rfl
theorem w1217 : (Jvm.Cond.constantLong "KinInTheHeapModel" (118 : Nat) (5 : Int64)) ∈ TB := tbm (tb_5 (List.mem_of_getElem? (i := 160) rfl)) rfl
theorem w1218 : (Jvm.Cond.constantLong "KinInTheHeapModel" (120 : Nat) (9 : Int64)) ∈ TB := tbm (tb_5 (List.mem_of_getElem? (i := 161) rfl)) rfl
theorem w1219 : (Jvm.Cond.methodLink "KinInTheHeapLaw" (26 : Nat) ({ cls := "KinInTheHeapModel", name := "told", desc := "(II)I" } : Jvm.MethodName)) ∈ TB := tbm (tb_5 (List.mem_of_getElem? (i := 162) rfl)) rfl
theorem w1220 : (Jvm.Cond.methodLink "KinInTheHeapLaw" (31 : Nat) ({ cls := "KinInTheHeapModel", name := "feed", desc := "(I)I" } : Jvm.MethodName)) ∈ TB := tbm (tb_5 (List.mem_of_getElem? (i := 163) rfl)) rfl
theorem w1221 : (Jvm.Cond.instanceMethod ({ cls := "KinInTheHeapModel", name := "feed", desc := "(I)I" } : Jvm.MethodName)) ∈ TB := tbm (tb_5 (List.mem_of_getElem? (i := 164) rfl)) rfl
theorem w1222 : (Jvm.Cond.selects "KinInTheHeapModel" ({ cls := "KinInTheHeapModel", name := "feed", desc := "(I)I" } : Jvm.MethodName) ({ cls := "KinInTheHeapModel", name := "feed", desc := "(I)I" } : Jvm.MethodName)) ∈ TB := tbm (tb_5 (List.mem_of_getElem? (i := 165) rfl)) rfl
theorem w1223 : (Jvm.Cond.code ({ cls := "KinInTheHeapModel", name := "feed", desc := "(I)I" } : Jvm.MethodName) prog_7_method_15_code (2 : Nat) (Option.some Jvm.ClassFile.FieldType.int)) ∈ TB := tbm (tb_5 (List.mem_of_getElem? (i := 166) rfl)) rfl
theorem w1224 : (Jvm.Cond.constantLong "KinInTheHeapModel" (136 : Nat) (255 : Int64)) ∈ TB := tbm (tb_5 (List.mem_of_getElem? (i := 167) rfl)) rfl
theorem w1225 : (Jvm.Cond.methodLink "KinInTheHeapLaw" (36 : Nat) ({ cls := "KinInTheHeapModel", name := "text", desc := "()I" } : Jvm.MethodName)) ∈ TB := tbm (tb_5 (List.mem_of_getElem? (i := 168) rfl)) rfl
theorem w1226 : (Jvm.Cond.instanceMethod ({ cls := "KinInTheHeapModel", name := "text", desc := "()I" } : Jvm.MethodName)) ∈ TB := tbm (tb_5 (List.mem_of_getElem? (i := 169) rfl)) rfl
theorem w1227 : (Jvm.Cond.selects "KinInTheHeapModel" ({ cls := "KinInTheHeapModel", name := "text", desc := "()I" } : Jvm.MethodName) ({ cls := "KinInTheHeapModel", name := "text", desc := "()I" } : Jvm.MethodName)) ∈ TB := tbm (tb_5 (List.mem_of_getElem? (i := 170) rfl)) rfl
theorem w1228 : (Jvm.Cond.code ({ cls := "KinInTheHeapModel", name := "text", desc := "()I" } : Jvm.MethodName) prog_7_method_32_code (2 : Nat) (Option.some Jvm.ClassFile.FieldType.int)) ∈ TB := tbm (tb_5 (List.mem_of_getElem? (i := 171) rfl)) rfl
theorem w1229 : (Jvm.Cond.methodLink "KinInTheHeapLaw" (40 : Nat) ({ cls := "KinInTheHeapModel", name := "force", desc := "(I)I" } : Jvm.MethodName)) ∈ TB := tbm (tb_5 (List.mem_of_getElem? (i := 172) rfl)) rfl
theorem w1230 : (Jvm.Cond.instanceMethod ({ cls := "KinInTheHeapModel", name := "force", desc := "(I)I" } : Jvm.MethodName)) ∈ TB := tbm (tb_5 (List.mem_of_getElem? (i := 173) rfl)) rfl
theorem w1231 : (Jvm.Cond.selects "KinInTheHeapModel" ({ cls := "KinInTheHeapModel", name := "force", desc := "(I)I" } : Jvm.MethodName) ({ cls := "KinInTheHeapModel", name := "force", desc := "(I)I" } : Jvm.MethodName)) ∈ TB := tbm (tb_5 (List.mem_of_getElem? (i := 174) rfl)) rfl
theorem w1232 : (Jvm.Cond.code ({ cls := "KinInTheHeapModel", name := "force", desc := "(I)I" } : Jvm.MethodName) prog_7_method_33_code (3 : Nat) (Option.some Jvm.ClassFile.FieldType.int)) ∈ TB := tbm (tb_5 (List.mem_of_getElem? (i := 175) rfl)) rfl
theorem w1233 : (Jvm.Cond.methodLink "KinInTheHeapLaw" (44 : Nat) ({ cls := "KinInTheHeapModel", name := "stroke", desc := "(I)I" } : Jvm.MethodName)) ∈ TB := tbm (tb_5 (List.mem_of_getElem? (i := 176) rfl)) rfl
theorem w1234 : (Jvm.Cond.instanceMethod ({ cls := "KinInTheHeapModel", name := "stroke", desc := "(I)I" } : Jvm.MethodName)) ∈ TB := tbm (tb_5 (List.mem_of_getElem? (i := 177) rfl)) rfl
theorem w1235 : (Jvm.Cond.selects "KinInTheHeapModel" ({ cls := "KinInTheHeapModel", name := "stroke", desc := "(I)I" } : Jvm.MethodName) ({ cls := "KinInTheHeapModel", name := "stroke", desc := "(I)I" } : Jvm.MethodName)) ∈ TB := tbm (tb_5 (List.mem_of_getElem? (i := 178) rfl)) rfl
theorem w1236 : (Jvm.Cond.code ({ cls := "KinInTheHeapModel", name := "stroke", desc := "(I)I" } : Jvm.MethodName) prog_7_method_46_code (2 : Nat) (Option.some Jvm.ClassFile.FieldType.int)) ∈ TB := tbm (tb_5 (List.mem_of_getElem? (i := 179) rfl)) rfl
theorem w1237 : (Jvm.Cond.methodLink "KinInTheHeapModel" (279 : Nat) ({ cls := "KinInTheHeapModel", name := "isStroke", desc := "(I)Z" } : Jvm.MethodName)) ∈ TB := tbm (tb_5 (List.mem_of_getElem? (i := 180) rfl)) rfl
theorem w1238 : (Jvm.Cond.static ({ cls := "KinInTheHeapModel", name := "isStroke", desc := "(I)Z" } : Jvm.MethodName)) ∈ TB := tbm (tb_5 (List.mem_of_getElem? (i := 181) rfl)) rfl
theorem w1239 : (Jvm.Cond.code ({ cls := "KinInTheHeapModel", name := "isStroke", desc := "(I)Z" } : Jvm.MethodName) prog_7_method_45_code (1 : Nat) (Option.some Jvm.ClassFile.FieldType.boolean)) ∈ TB := tbm (tb_5 (List.mem_of_getElem? (i := 182) rfl)) rfl
theorem w1240 : (Jvm.Cond.constantLong "KinInTheHeapModel" (277 : Nat) (23 : Int64)) ∈ TB := tbm (tb_5 (List.mem_of_getElem? (i := 183) rfl)) rfl
theorem w1241 : (Jvm.Cond.methodLink "KinInTheHeapModel" (282 : Nat) ({ cls := "KinInTheHeapModel", name := "strokes", desc := "(I)I" } : Jvm.MethodName)) ∈ TB := tbm (tb_5 (List.mem_of_getElem? (i := 184) rfl)) rfl
theorem w1243 : (Jvm.Cond.instanceMethod ({ cls := "KinInTheHeapModel", name := "strokes", desc := "(I)I" } : Jvm.MethodName)) ∈ TB := tbm (tb_5 (List.mem_of_getElem? (i := 186) rfl)) rfl
theorem w1244 : (Jvm.Cond.code ({ cls := "KinInTheHeapModel", name := "strokes", desc := "(I)I" } : Jvm.MethodName) prog_7_method_44_code (6 : Nat) (Option.some Jvm.ClassFile.FieldType.int)) ∈ TB := tbm (tb_5 (List.mem_of_getElem? (i := 187) rfl)) rfl
theorem w1245 : (Jvm.Cond.methodLink "KinInTheHeapModel" (268 : Nat) ({ cls := "KinInTheHeapModel", name := "isMovable", desc := "(I)Z" } : Jvm.MethodName)) ∈ TB := tbm (tb_5 (List.mem_of_getElem? (i := 188) rfl)) rfl
theorem w1247 : (Jvm.Cond.instanceMethod ({ cls := "KinInTheHeapModel", name := "isMovable", desc := "(I)Z" } : Jvm.MethodName)) ∈ TB := tbm (tb_5 (List.mem_of_getElem? (i := 190) rfl)) rfl
theorem w1248 : (Jvm.Cond.code ({ cls := "KinInTheHeapModel", name := "isMovable", desc := "(I)Z" } : Jvm.MethodName) prog_7_method_41_code (2 : Nat) (Option.some Jvm.ClassFile.FieldType.boolean)) ∈ TB := tbm (tb_5 (List.mem_of_getElem? (i := 191) rfl)) rfl
theorem w1249 : (Jvm.Cond.methodLink "KinInTheHeapModel" (271 : Nat) ({ cls := "KinInTheHeapModel", name := "swept", desc := "(III)I" } : Jvm.MethodName)) ∈ TB := tbm (tb_5 (List.mem_of_getElem? (i := 192) rfl)) rfl
theorem w1251 : (Jvm.Cond.instanceMethod ({ cls := "KinInTheHeapModel", name := "swept", desc := "(III)I" } : Jvm.MethodName)) ∈ TB := tbm (tb_5 (List.mem_of_getElem? (i := 194) rfl)) rfl
theorem w1252 : (Jvm.Cond.code ({ cls := "KinInTheHeapModel", name := "swept", desc := "(III)I" } : Jvm.MethodName) prog_7_method_42_code (6 : Nat) (Option.some Jvm.ClassFile.FieldType.int)) ∈ TB := tbm (tb_5 (List.mem_of_getElem? (i := 195) rfl)) rfl
theorem w1253 : (Jvm.Cond.methodLink "KinInTheHeapModel" (265 : Nat) ({ cls := "KinInTheHeapModel", name := "beside", desc := "(II)I" } : Jvm.MethodName)) ∈ TB := tbm (tb_5 (List.mem_of_getElem? (i := 196) rfl)) rfl
theorem w1254 : (Jvm.Cond.static ({ cls := "KinInTheHeapModel", name := "beside", desc := "(II)I" } : Jvm.MethodName)) ∈ TB := tbm (tb_5 (List.mem_of_getElem? (i := 197) rfl)) rfl
theorem w1255 : (Jvm.Cond.code ({ cls := "KinInTheHeapModel", name := "beside", desc := "(II)I" } : Jvm.MethodName) prog_7_method_40_code (4 : Nat) (Option.some Jvm.ClassFile.FieldType.int)) ∈ TB := tbm (tb_5 (List.mem_of_getElem? (i := 198) rfl)) rfl
theorem w1256 : (Jvm.Cond.methodLink "KinInTheHeapModel" (274 : Nat) ({ cls := "KinInTheHeapModel", name := "lays1", desc := "()I" } : Jvm.MethodName)) ∈ TB := tbm (tb_5 (List.mem_of_getElem? (i := 199) rfl)) rfl
theorem w1258 : (Jvm.Cond.instanceMethod ({ cls := "KinInTheHeapModel", name := "lays1", desc := "()I" } : Jvm.MethodName)) ∈ TB := tbm (tb_5 (List.mem_of_getElem? (i := 201) rfl)) rfl
theorem w1259 : (Jvm.Cond.code ({ cls := "KinInTheHeapModel", name := "lays1", desc := "()I" } : Jvm.MethodName) prog_7_method_43_code (3 : Nat) (Option.some Jvm.ClassFile.FieldType.int)) ∈ TB := tbm (tb_5 (List.mem_of_getElem? (i := 202) rfl)) rfl
theorem w1260 : (Jvm.Cond.methodLink "KinInTheHeapLaw" (48 : Nat) ({ cls := "KinInTheHeapModel", name := "week", desc := "()I" } : Jvm.MethodName)) ∈ TB := tbm (tb_5 (List.mem_of_getElem? (i := 203) rfl)) rfl
theorem w1261 : (Jvm.Cond.instanceMethod ({ cls := "KinInTheHeapModel", name := "week", desc := "()I" } : Jvm.MethodName)) ∈ TB := tbm (tb_5 (List.mem_of_getElem? (i := 204) rfl)) rfl
theorem w1262 : (Jvm.Cond.selects "KinInTheHeapModel" ({ cls := "KinInTheHeapModel", name := "week", desc := "()I" } : Jvm.MethodName) ({ cls := "KinInTheHeapModel", name := "week", desc := "()I" } : Jvm.MethodName)) ∈ TB := tbm (tb_5 (List.mem_of_getElem? (i := 205) rfl)) rfl
theorem w1263 : (Jvm.Cond.code ({ cls := "KinInTheHeapModel", name := "week", desc := "()I" } : Jvm.MethodName) prog_7_method_48_code (1 : Nat) (Option.some Jvm.ClassFile.FieldType.int)) ∈ TB := tbm (tb_5 (List.mem_of_getElem? (i := 206) rfl)) rfl
theorem w1264 : (Jvm.Cond.methodLink "KinInTheHeapModel" (285 : Nat) ({ cls := "KinInTheHeapModel", name := "passes", desc := "()I" } : Jvm.MethodName)) ∈ TB := tbm (tb_5 (List.mem_of_getElem? (i := 207) rfl)) rfl
theorem w1266 : (Jvm.Cond.instanceMethod ({ cls := "KinInTheHeapModel", name := "passes", desc := "()I" } : Jvm.MethodName)) ∈ TB := tbm (tb_5 (List.mem_of_getElem? (i := 209) rfl)) rfl
theorem w1267 : (Jvm.Cond.code ({ cls := "KinInTheHeapModel", name := "passes", desc := "()I" } : Jvm.MethodName) prog_7_method_47_code (3 : Nat) (Option.some Jvm.ClassFile.FieldType.int)) ∈ TB := tbm (tb_5 (List.mem_of_getElem? (i := 210) rfl)) rfl
theorem w1268 : (Jvm.Cond.methodLink "KinInTheHeapLaw" (52 : Nat) ({ cls := "KinInTheHeapModel", name := "sweep", desc := "(II)I" } : Jvm.MethodName)) ∈ TB := tbm (tb_5 (List.mem_of_getElem? (i := 211) rfl)) rfl
theorem w1269 : (Jvm.Cond.instanceMethod ({ cls := "KinInTheHeapModel", name := "sweep", desc := "(II)I" } : Jvm.MethodName)) ∈ TB := tbm (tb_5 (List.mem_of_getElem? (i := 212) rfl)) rfl
theorem w1270 : (Jvm.Cond.selects "KinInTheHeapModel" ({ cls := "KinInTheHeapModel", name := "sweep", desc := "(II)I" } : Jvm.MethodName) ({ cls := "KinInTheHeapModel", name := "sweep", desc := "(II)I" } : Jvm.MethodName)) ∈ TB := tbm (tb_5 (List.mem_of_getElem? (i := 213) rfl)) rfl
theorem w1271 : (Jvm.Cond.code ({ cls := "KinInTheHeapModel", name := "sweep", desc := "(II)I" } : Jvm.MethodName) prog_7_method_59_code (6 : Nat) (Option.some Jvm.ClassFile.FieldType.int)) ∈ TB := tbm (tb_5 (List.mem_of_getElem? (i := 214) rfl)) rfl
theorem w1272 : (Jvm.Cond.methodLink "KinInTheHeapModel" (294 : Nat) ({ cls := "KinInTheHeapModel", name := "isSheet", desc := "(I)Z" } : Jvm.MethodName)) ∈ TB := tbm (tb_5 (List.mem_of_getElem? (i := 215) rfl)) rfl
theorem w1273 : (Jvm.Cond.static ({ cls := "KinInTheHeapModel", name := "isSheet", desc := "(I)Z" } : Jvm.MethodName)) ∈ TB := tbm (tb_5 (List.mem_of_getElem? (i := 216) rfl)) rfl
theorem w1274 : (Jvm.Cond.code ({ cls := "KinInTheHeapModel", name := "isSheet", desc := "(I)Z" } : Jvm.MethodName) prog_7_method_86_code (1 : Nat) (Option.some Jvm.ClassFile.FieldType.boolean)) ∈ TB := tbm (tb_5 (List.mem_of_getElem? (i := 217) rfl)) rfl
theorem w1275 : (Jvm.Cond.constantLong "KinInTheHeapModel" (297 : Nat) (3 : Int64)) ∈ TB := tbm (tb_5 (List.mem_of_getElem? (i := 218) rfl)) rfl
theorem w1276 : (Jvm.Cond.constantLong "KinInTheHeapModel" (299 : Nat) (17 : Int64)) ∈ TB := tbm (tb_5 (List.mem_of_getElem? (i := 219) rfl)) rfl
theorem w1277 : (Jvm.Cond.methodLink "KinInTheHeapModel" (301 : Nat) ({ cls := "KinInTheHeapModel", name := "sweepBad", desc := "(I)I" } : Jvm.MethodName)) ∈ TB := tbm (tb_5 (List.mem_of_getElem? (i := 220) rfl)) rfl
theorem w1279 : (Jvm.Cond.instanceMethod ({ cls := "KinInTheHeapModel", name := "sweepBad", desc := "(I)I" } : Jvm.MethodName)) ∈ TB := tbm (tb_5 (List.mem_of_getElem? (i := 222) rfl)) rfl
theorem w1280 : (Jvm.Cond.code ({ cls := "KinInTheHeapModel", name := "sweepBad", desc := "(I)I" } : Jvm.MethodName) prog_7_method_57_code (3 : Nat) (Option.some Jvm.ClassFile.FieldType.int)) ∈ TB := tbm (tb_5 (List.mem_of_getElem? (i := 223) rfl)) rfl
theorem w1281 : (Jvm.Cond.methodLink "KinInTheHeapModel" (304 : Nat) ({ cls := "KinInTheHeapModel", name := "laysAside", desc := "()V" } : Jvm.MethodName)) ∈ TB := tbm (tb_5 (List.mem_of_getElem? (i := 224) rfl)) rfl
theorem w1283 : (Jvm.Cond.instanceMethod ({ cls := "KinInTheHeapModel", name := "laysAside", desc := "()V" } : Jvm.MethodName)) ∈ TB := tbm (tb_5 (List.mem_of_getElem? (i := 226) rfl)) rfl
theorem w1284 : (Jvm.Cond.code ({ cls := "KinInTheHeapModel", name := "laysAside", desc := "()V" } : Jvm.MethodName) prog_7_method_49_code (2 : Nat) (Option.none : Option Jvm.ClassFile.FieldType)) ∈ TB := tbm (tb_5 (List.mem_of_getElem? (i := 227) rfl)) rfl
theorem w1285 : (Jvm.Cond.methodLink "KinInTheHeapModel" (307 : Nat) ({ cls := "KinInTheHeapModel", name := "sweptBy", desc := "(I)I" } : Jvm.MethodName)) ∈ TB := tbm (tb_5 (List.mem_of_getElem? (i := 228) rfl)) rfl
theorem w1287 : (Jvm.Cond.instanceMethod ({ cls := "KinInTheHeapModel", name := "sweptBy", desc := "(I)I" } : Jvm.MethodName)) ∈ TB := tbm (tb_5 (List.mem_of_getElem? (i := 230) rfl)) rfl
theorem w1288 : (Jvm.Cond.code ({ cls := "KinInTheHeapModel", name := "sweptBy", desc := "(I)I" } : Jvm.MethodName) prog_7_method_58_code (4 : Nat) (Option.some Jvm.ClassFile.FieldType.int)) ∈ TB := tbm (tb_5 (List.mem_of_getElem? (i := 231) rfl)) rfl
theorem w1289 : (Jvm.Cond.methodLink "KinInTheHeapModel" (310 : Nat) ({ cls := "KinInTheHeapModel", name := "togethers", desc := "()I" } : Jvm.MethodName)) ∈ TB := tbm (tb_5 (List.mem_of_getElem? (i := 232) rfl)) rfl
theorem w1291 : (Jvm.Cond.instanceMethod ({ cls := "KinInTheHeapModel", name := "togethers", desc := "()I" } : Jvm.MethodName)) ∈ TB := tbm (tb_5 (List.mem_of_getElem? (i := 234) rfl)) rfl
theorem w1292 : (Jvm.Cond.code ({ cls := "KinInTheHeapModel", name := "togethers", desc := "()I" } : Jvm.MethodName) prog_7_method_53_code (4 : Nat) (Option.some Jvm.ClassFile.FieldType.int)) ∈ TB := tbm (tb_5 (List.mem_of_getElem? (i := 235) rfl)) rfl
theorem w1293 : (Jvm.Cond.methodLink "KinInTheHeapModel" (313 : Nat) ({ cls := "KinInTheHeapModel", name := "heaps", desc := "()I" } : Jvm.MethodName)) ∈ TB := tbm (tb_5 (List.mem_of_getElem? (i := 236) rfl)) rfl
theorem w1295 : (Jvm.Cond.instanceMethod ({ cls := "KinInTheHeapModel", name := "heaps", desc := "()I" } : Jvm.MethodName)) ∈ TB := tbm (tb_5 (List.mem_of_getElem? (i := 238) rfl)) rfl
theorem w1296 : (Jvm.Cond.code ({ cls := "KinInTheHeapModel", name := "heaps", desc := "()I" } : Jvm.MethodName) prog_7_method_51_code (3 : Nat) (Option.some Jvm.ClassFile.FieldType.int)) ∈ TB := tbm (tb_5 (List.mem_of_getElem? (i := 239) rfl)) rfl
theorem w1297 : (Jvm.Cond.methodLink "KinInTheHeapModel" (316 : Nat) ({ cls := "KinInTheHeapModel", name := "spread", desc := "()I" } : Jvm.MethodName)) ∈ TB := tbm (tb_6 (List.mem_of_getElem? (i := 0) rfl)) rfl
theorem w1299 : (Jvm.Cond.instanceMethod ({ cls := "KinInTheHeapModel", name := "spread", desc := "()I" } : Jvm.MethodName)) ∈ TB := tbm (tb_6 (List.mem_of_getElem? (i := 2) rfl)) rfl
theorem w1300 : (Jvm.Cond.code ({ cls := "KinInTheHeapModel", name := "spread", desc := "()I" } : Jvm.MethodName) prog_7_method_55_code (5 : Nat) (Option.some Jvm.ClassFile.FieldType.int)) ∈ TB := tbm (tb_6 (List.mem_of_getElem? (i := 3) rfl)) rfl
theorem w1301 : (Jvm.Cond.methodLink "KinInTheHeapModel" (291 : Nat) ({ cls := "KinInTheHeapModel", name := "apart", desc := "(II)I" } : Jvm.MethodName)) ∈ TB := tbm (tb_6 (List.mem_of_getElem? (i := 4) rfl)) rfl
theorem w1302 : (Jvm.Cond.static ({ cls := "KinInTheHeapModel", name := "apart", desc := "(II)I" } : Jvm.MethodName)) ∈ TB := tbm (tb_6 (List.mem_of_getElem? (i := 5) rfl)) rfl
theorem w1303 : (Jvm.Cond.code ({ cls := "KinInTheHeapModel", name := "apart", desc := "(II)I" } : Jvm.MethodName) prog_7_method_54_code (2 : Nat) (Option.some Jvm.ClassFile.FieldType.int)) ∈ TB := tbm (tb_6 (List.mem_of_getElem? (i := 6) rfl)) rfl
theorem w1304 : (Jvm.Cond.methodLink "KinInTheHeapModel" (319 : Nat) ({ cls := "KinInTheHeapModel", name := "laysBack", desc := "()V" } : Jvm.MethodName)) ∈ TB := tbm (tb_6 (List.mem_of_getElem? (i := 7) rfl)) rfl
theorem w1306 : (Jvm.Cond.instanceMethod ({ cls := "KinInTheHeapModel", name := "laysBack", desc := "()V" } : Jvm.MethodName)) ∈ TB := tbm (tb_6 (List.mem_of_getElem? (i := 9) rfl)) rfl
theorem w1307 : (Jvm.Cond.code ({ cls := "KinInTheHeapModel", name := "laysBack", desc := "()V" } : Jvm.MethodName) prog_7_method_50_code (2 : Nat) (Option.none : Option Jvm.ClassFile.FieldType)) ∈ TB := tbm (tb_6 (List.mem_of_getElem? (i := 10) rfl)) rfl
theorem w1308 : (Jvm.Cond.methodLink "KinInTheHeapLaw" (56 : Nat) ({ cls := "KinInTheHeapModel", name := "sweeps", desc := "(I)I" } : Jvm.MethodName)) ∈ TB := tbm (tb_6 (List.mem_of_getElem? (i := 11) rfl)) rfl
theorem w1309 : (Jvm.Cond.instanceMethod ({ cls := "KinInTheHeapModel", name := "sweeps", desc := "(I)I" } : Jvm.MethodName)) ∈ TB := tbm (tb_6 (List.mem_of_getElem? (i := 12) rfl)) rfl
theorem w1310 : (Jvm.Cond.selects "KinInTheHeapModel" ({ cls := "KinInTheHeapModel", name := "sweeps", desc := "(I)I" } : Jvm.MethodName) ({ cls := "KinInTheHeapModel", name := "sweeps", desc := "(I)I" } : Jvm.MethodName)) ∈ TB := tbm (tb_6 (List.mem_of_getElem? (i := 13) rfl)) rfl
theorem w1311 : (Jvm.Cond.code ({ cls := "KinInTheHeapModel", name := "sweeps", desc := "(I)I" } : Jvm.MethodName) prog_7_method_60_code (3 : Nat) (Option.some Jvm.ClassFile.FieldType.int)) ∈ TB := tbm (tb_6 (List.mem_of_getElem? (i := 14) rfl)) rfl
theorem w1312 : (Jvm.Cond.methodLink "KinInTheHeapLaw" (60 : Nat) ({ cls := "KinInTheHeapModel", name := "floor", desc := "(I)I" } : Jvm.MethodName)) ∈ TB := tbm (tb_6 (List.mem_of_getElem? (i := 15) rfl)) rfl
theorem w1313 : (Jvm.Cond.instanceMethod ({ cls := "KinInTheHeapModel", name := "floor", desc := "(I)I" } : Jvm.MethodName)) ∈ TB := tbm (tb_6 (List.mem_of_getElem? (i := 16) rfl)) rfl
theorem w1314 : (Jvm.Cond.selects "KinInTheHeapModel" ({ cls := "KinInTheHeapModel", name := "floor", desc := "(I)I" } : Jvm.MethodName) ({ cls := "KinInTheHeapModel", name := "floor", desc := "(I)I" } : Jvm.MethodName)) ∈ TB := tbm (tb_6 (List.mem_of_getElem? (i := 17) rfl)) rfl
theorem w1315 : (Jvm.Cond.code ({ cls := "KinInTheHeapModel", name := "floor", desc := "(I)I" } : Jvm.MethodName) prog_7_method_61_code (2 : Nat) (Option.some Jvm.ClassFile.FieldType.int)) ∈ TB := tbm (tb_6 (List.mem_of_getElem? (i := 18) rfl)) rfl
theorem w1316 : (Jvm.Cond.methodLink "KinInTheHeapModel" (322 : Nat) ({ cls := "KinInTheHeapModel", name := "greatest", desc := "()I" } : Jvm.MethodName)) ∈ TB := tbm (tb_6 (List.mem_of_getElem? (i := 19) rfl)) rfl
theorem w1318 : (Jvm.Cond.instanceMethod ({ cls := "KinInTheHeapModel", name := "greatest", desc := "()I" } : Jvm.MethodName)) ∈ TB := tbm (tb_6 (List.mem_of_getElem? (i := 21) rfl)) rfl
theorem w1319 : (Jvm.Cond.code ({ cls := "KinInTheHeapModel", name := "greatest", desc := "()I" } : Jvm.MethodName) prog_7_method_52_code (3 : Nat) (Option.some Jvm.ClassFile.FieldType.int)) ∈ TB := tbm (tb_6 (List.mem_of_getElem? (i := 22) rfl)) rfl
theorem w1320 : (Jvm.Cond.methodLink "KinInTheHeapLaw" (65 : Nat) ({ cls := "KinInTheHeapModel", name := "where", desc := "(I)J" } : Jvm.MethodName)) ∈ TB := tbm (tb_6 (List.mem_of_getElem? (i := 23) rfl)) rfl
theorem w1321 : (Jvm.Cond.instanceMethod ({ cls := "KinInTheHeapModel", name := "where", desc := "(I)J" } : Jvm.MethodName)) ∈ TB := tbm (tb_6 (List.mem_of_getElem? (i := 24) rfl)) rfl
theorem w1322 : (Jvm.Cond.selects "KinInTheHeapModel" ({ cls := "KinInTheHeapModel", name := "where", desc := "(I)J" } : Jvm.MethodName) ({ cls := "KinInTheHeapModel", name := "where", desc := "(I)J" } : Jvm.MethodName)) ∈ TB := tbm (tb_6 (List.mem_of_getElem? (i := 25) rfl)) rfl
theorem w1323 : (Jvm.Cond.code ({ cls := "KinInTheHeapModel", name := "where", desc := "(I)J" } : Jvm.MethodName) prog_7_method_63_code (5 : Nat) (Option.some Jvm.ClassFile.FieldType.long)) ∈ TB := tbm (tb_6 (List.mem_of_getElem? (i := 26) rfl)) rfl
theorem w1324 : (Jvm.Cond.constantLong "KinInTheHeapModel" (325 : Nat) (-4611686018427387904 : Int64)) ∈ TB := tbm (tb_6 (List.mem_of_getElem? (i := 27) rfl)) rfl
theorem w1325 : (Jvm.Cond.methodLink "KinInTheHeapModel" (327 : Nat) ({ cls := "KinInTheHeapModel", name := "comes", desc := "(I)J" } : Jvm.MethodName)) ∈ TB := tbm (tb_6 (List.mem_of_getElem? (i := 28) rfl)) rfl
theorem w1327 : (Jvm.Cond.instanceMethod ({ cls := "KinInTheHeapModel", name := "comes", desc := "(I)J" } : Jvm.MethodName)) ∈ TB := tbm (tb_6 (List.mem_of_getElem? (i := 30) rfl)) rfl
theorem w1328 : (Jvm.Cond.code ({ cls := "KinInTheHeapModel", name := "comes", desc := "(I)J" } : Jvm.MethodName) prog_7_method_62_code (5 : Nat) (Option.some Jvm.ClassFile.FieldType.long)) ∈ TB := tbm (tb_6 (List.mem_of_getElem? (i := 31) rfl)) rfl
theorem w1329 : (Jvm.Cond.methodLink "KinInTheHeapLaw" (69 : Nat) ({ cls := "KinInTheHeapModel", name := "gather", desc := "(II)I" } : Jvm.MethodName)) ∈ TB := tbm (tb_6 (List.mem_of_getElem? (i := 32) rfl)) rfl
theorem w1330 : (Jvm.Cond.instanceMethod ({ cls := "KinInTheHeapModel", name := "gather", desc := "(II)I" } : Jvm.MethodName)) ∈ TB := tbm (tb_6 (List.mem_of_getElem? (i := 33) rfl)) rfl
theorem w1331 : (Jvm.Cond.selects "KinInTheHeapModel" ({ cls := "KinInTheHeapModel", name := "gather", desc := "(II)I" } : Jvm.MethodName) ({ cls := "KinInTheHeapModel", name := "gather", desc := "(II)I" } : Jvm.MethodName)) ∈ TB := tbm (tb_6 (List.mem_of_getElem? (i := 34) rfl)) rfl
theorem w1332 : (Jvm.Cond.code ({ cls := "KinInTheHeapModel", name := "gather", desc := "(II)I" } : Jvm.MethodName) prog_7_method_66_code (4 : Nat) (Option.some Jvm.ClassFile.FieldType.int)) ∈ TB := tbm (tb_6 (List.mem_of_getElem? (i := 35) rfl)) rfl
theorem w1333 : (Jvm.Cond.methodLink "KinInTheHeapModel" (334 : Nat) ({ cls := "KinInTheHeapModel", name := "gathered", desc := "(I)I" } : Jvm.MethodName)) ∈ TB := tbm (tb_6 (List.mem_of_getElem? (i := 36) rfl)) rfl
theorem w1335 : (Jvm.Cond.instanceMethod ({ cls := "KinInTheHeapModel", name := "gathered", desc := "(I)I" } : Jvm.MethodName)) ∈ TB := tbm (tb_6 (List.mem_of_getElem? (i := 38) rfl)) rfl
theorem w1336 : (Jvm.Cond.code ({ cls := "KinInTheHeapModel", name := "gathered", desc := "(I)I" } : Jvm.MethodName) prog_7_method_65_code (4 : Nat) (Option.some Jvm.ClassFile.FieldType.int)) ∈ TB := tbm (tb_6 (List.mem_of_getElem? (i := 39) rfl)) rfl
theorem w1337 : (Jvm.Cond.methodLink "KinInTheHeapModel" (331 : Nat) ({ cls := "KinInTheHeapModel", name := "areTogether", desc := "(I)Z" } : Jvm.MethodName)) ∈ TB := tbm (tb_6 (List.mem_of_getElem? (i := 40) rfl)) rfl
theorem w1339 : (Jvm.Cond.instanceMethod ({ cls := "KinInTheHeapModel", name := "areTogether", desc := "(I)Z" } : Jvm.MethodName)) ∈ TB := tbm (tb_6 (List.mem_of_getElem? (i := 42) rfl)) rfl
theorem w1340 : (Jvm.Cond.code ({ cls := "KinInTheHeapModel", name := "areTogether", desc := "(I)Z" } : Jvm.MethodName) prog_7_method_64_code (4 : Nat) (Option.some Jvm.ClassFile.FieldType.boolean)) ∈ TB := tbm (tb_6 (List.mem_of_getElem? (i := 43) rfl)) rfl
theorem w1341 : (Jvm.Cond.methodLink "KinInTheHeapLaw" (73 : Nat) ({ cls := "KinInTheHeapModel", name := "best", desc := "(I)I" } : Jvm.MethodName)) ∈ TB := tbm (tb_6 (List.mem_of_getElem? (i := 44) rfl)) rfl
theorem w1342 : (Jvm.Cond.instanceMethod ({ cls := "KinInTheHeapModel", name := "best", desc := "(I)I" } : Jvm.MethodName)) ∈ TB := tbm (tb_6 (List.mem_of_getElem? (i := 45) rfl)) rfl
theorem w1343 : (Jvm.Cond.selects "KinInTheHeapModel" ({ cls := "KinInTheHeapModel", name := "best", desc := "(I)I" } : Jvm.MethodName) ({ cls := "KinInTheHeapModel", name := "best", desc := "(I)I" } : Jvm.MethodName)) ∈ TB := tbm (tb_6 (List.mem_of_getElem? (i := 46) rfl)) rfl
theorem w1344 : (Jvm.Cond.code ({ cls := "KinInTheHeapModel", name := "best", desc := "(I)I" } : Jvm.MethodName) prog_7_method_69_code (2 : Nat) (Option.some Jvm.ClassFile.FieldType.int)) ∈ TB := tbm (tb_6 (List.mem_of_getElem? (i := 47) rfl)) rfl
theorem w1345 : (Jvm.Cond.methodLink "KinInTheHeapModel" (340 : Nat) ({ cls := "KinInTheHeapModel", name := "bestBy", desc := "(I)I" } : Jvm.MethodName)) ∈ TB := tbm (tb_6 (List.mem_of_getElem? (i := 48) rfl)) rfl
theorem w1347 : (Jvm.Cond.instanceMethod ({ cls := "KinInTheHeapModel", name := "bestBy", desc := "(I)I" } : Jvm.MethodName)) ∈ TB := tbm (tb_6 (List.mem_of_getElem? (i := 50) rfl)) rfl
theorem w1348 : (Jvm.Cond.code ({ cls := "KinInTheHeapModel", name := "bestBy", desc := "(I)I" } : Jvm.MethodName) prog_7_method_68_code (6 : Nat) (Option.some Jvm.ClassFile.FieldType.int)) ∈ TB := tbm (tb_6 (List.mem_of_getElem? (i := 51) rfl)) rfl
theorem w1349 : (Jvm.Cond.methodLink "KinInTheHeapModel" (343 : Nat) ({ cls := "KinInTheHeapModel", name := "lostFirst", desc := "(I)I" } : Jvm.MethodName)) ∈ TB := tbm (tb_6 (List.mem_of_getElem? (i := 52) rfl)) rfl
theorem w1351 : (Jvm.Cond.instanceMethod ({ cls := "KinInTheHeapModel", name := "lostFirst", desc := "(I)I" } : Jvm.MethodName)) ∈ TB := tbm (tb_6 (List.mem_of_getElem? (i := 54) rfl)) rfl
theorem w1352 : (Jvm.Cond.code ({ cls := "KinInTheHeapModel", name := "lostFirst", desc := "(I)I" } : Jvm.MethodName) prog_7_method_67_code (7 : Nat) (Option.some Jvm.ClassFile.FieldType.int)) ∈ TB := tbm (tb_6 (List.mem_of_getElem? (i := 55) rfl)) rfl
theorem w1353 : (Jvm.Cond.methodLink "KinInTheHeapModel" (337 : Nat) ({ cls := "KinInTheHeapModel", name := "outMany", desc := "()I" } : Jvm.MethodName)) ∈ TB := tbm (tb_6 (List.mem_of_getElem? (i := 56) rfl)) rfl
theorem w1355 : (Jvm.Cond.instanceMethod ({ cls := "KinInTheHeapModel", name := "outMany", desc := "()I" } : Jvm.MethodName)) ∈ TB := tbm (tb_6 (List.mem_of_getElem? (i := 58) rfl)) rfl
theorem w1356 : (Jvm.Cond.code ({ cls := "KinInTheHeapModel", name := "outMany", desc := "()I" } : Jvm.MethodName) prog_7_method_56_code (1 : Nat) (Option.some Jvm.ClassFile.FieldType.int)) ∈ TB := tbm (tb_6 (List.mem_of_getElem? (i := 59) rfl)) rfl
theorem w1357 : (Jvm.Cond.methodLink "KinInTheHeapLaw" (77 : Nat) ({ cls := "KinInTheHeapModel", name := "save", desc := "(II)I" } : Jvm.MethodName)) ∈ TB := tbm (tb_6 (List.mem_of_getElem? (i := 60) rfl)) rfl
theorem w1358 : (Jvm.Cond.instanceMethod ({ cls := "KinInTheHeapModel", name := "save", desc := "(II)I" } : Jvm.MethodName)) ∈ TB := tbm (tb_6 (List.mem_of_getElem? (i := 61) rfl)) rfl
theorem w1359 : (Jvm.Cond.selects "KinInTheHeapModel" ({ cls := "KinInTheHeapModel", name := "save", desc := "(II)I" } : Jvm.MethodName) ({ cls := "KinInTheHeapModel", name := "save", desc := "(II)I" } : Jvm.MethodName)) ∈ TB := tbm (tb_6 (List.mem_of_getElem? (i := 62) rfl)) rfl
theorem w1360 : (Jvm.Cond.code ({ cls := "KinInTheHeapModel", name := "save", desc := "(II)I" } : Jvm.MethodName) prog_7_method_71_code (7 : Nat) (Option.some Jvm.ClassFile.FieldType.int)) ∈ TB := tbm (tb_6 (List.mem_of_getElem? (i := 63) rfl)) rfl
theorem w1361 : (Jvm.Cond.methodLink "KinInTheHeapModel" (346 : Nat) ({ cls := "KinInTheHeapModel", name := "outBy", desc := "(I)I" } : Jvm.MethodName)) ∈ TB := tbm (tb_6 (List.mem_of_getElem? (i := 64) rfl)) rfl
theorem w1363 : (Jvm.Cond.instanceMethod ({ cls := "KinInTheHeapModel", name := "outBy", desc := "(I)I" } : Jvm.MethodName)) ∈ TB := tbm (tb_6 (List.mem_of_getElem? (i := 66) rfl)) rfl
theorem w1364 : (Jvm.Cond.code ({ cls := "KinInTheHeapModel", name := "outBy", desc := "(I)I" } : Jvm.MethodName) prog_7_method_70_code (3 : Nat) (Option.some Jvm.ClassFile.FieldType.int)) ∈ TB := tbm (tb_6 (List.mem_of_getElem? (i := 67) rfl)) rfl
theorem w1365 : (Jvm.Cond.methodLink "KinInTheHeapLaw" (81 : Nat) ({ cls := "KinInTheHeapModel", name := "lasts", desc := "(II)I" } : Jvm.MethodName)) ∈ TB := tbm (tb_6 (List.mem_of_getElem? (i := 68) rfl)) rfl
theorem w1366 : (Jvm.Cond.instanceMethod ({ cls := "KinInTheHeapModel", name := "lasts", desc := "(II)I" } : Jvm.MethodName)) ∈ TB := tbm (tb_6 (List.mem_of_getElem? (i := 69) rfl)) rfl
theorem w1367 : (Jvm.Cond.selects "KinInTheHeapModel" ({ cls := "KinInTheHeapModel", name := "lasts", desc := "(II)I" } : Jvm.MethodName) ({ cls := "KinInTheHeapModel", name := "lasts", desc := "(II)I" } : Jvm.MethodName)) ∈ TB := tbm (tb_6 (List.mem_of_getElem? (i := 70) rfl)) rfl
theorem w1368 : (Jvm.Cond.code ({ cls := "KinInTheHeapModel", name := "lasts", desc := "(II)I" } : Jvm.MethodName) prog_7_method_72_code (4 : Nat) (Option.some Jvm.ClassFile.FieldType.int)) ∈ TB := tbm (tb_6 (List.mem_of_getElem? (i := 71) rfl)) rfl
theorem w1369 : (Jvm.Cond.constantLong "KinInTheHeapModel" (349 : Nat) (40 : Int64)) ∈ TB := tbm (tb_6 (List.mem_of_getElem? (i := 72) rfl)) rfl
theorem w1370 : (Jvm.Cond.methodLink "KinInTheHeapLaw" (85 : Nat) ({ cls := "KinInTheHeapModel", name := "share", desc := "(I)J" } : Jvm.MethodName)) ∈ TB := tbm (tb_6 (List.mem_of_getElem? (i := 73) rfl)) rfl
theorem w1371 : (Jvm.Cond.instanceMethod ({ cls := "KinInTheHeapModel", name := "share", desc := "(I)J" } : Jvm.MethodName)) ∈ TB := tbm (tb_6 (List.mem_of_getElem? (i := 74) rfl)) rfl
theorem w1372 : (Jvm.Cond.selects "KinInTheHeapModel" ({ cls := "KinInTheHeapModel", name := "share", desc := "(I)J" } : Jvm.MethodName) ({ cls := "KinInTheHeapModel", name := "share", desc := "(I)J" } : Jvm.MethodName)) ∈ TB := tbm (tb_6 (List.mem_of_getElem? (i := 75) rfl)) rfl
theorem w1373 : (Jvm.Cond.code ({ cls := "KinInTheHeapModel", name := "share", desc := "(I)J" } : Jvm.MethodName) prog_7_method_74_code (2 : Nat) (Option.some Jvm.ClassFile.FieldType.long)) ∈ TB := tbm (tb_6 (List.mem_of_getElem? (i := 76) rfl)) rfl
theorem w1374 : (Jvm.Cond.methodLink "KinInTheHeapModel" (351 : Nat) ({ cls := "KinInTheHeapModel", name := "lowest", desc := "(JJI)J" } : Jvm.MethodName)) ∈ TB := tbm (tb_6 (List.mem_of_getElem? (i := 77) rfl)) rfl
theorem w1375 : (Jvm.Cond.static ({ cls := "KinInTheHeapModel", name := "lowest", desc := "(JJI)J" } : Jvm.MethodName)) ∈ TB := tbm (tb_6 (List.mem_of_getElem? (i := 78) rfl)) rfl
theorem w1376 : (Jvm.Cond.code ({ cls := "KinInTheHeapModel", name := "lowest", desc := "(JJI)J" } : Jvm.MethodName) prog_7_method_73_code (11 : Nat) (Option.some Jvm.ClassFile.FieldType.long)) ∈ TB := tbm (tb_6 (List.mem_of_getElem? (i := 79) rfl)) rfl
theorem w1377 : (Jvm.Cond.methodLink "KinInTheHeapLaw" (89 : Nat) ({ cls := "KinInTheHeapModel", name := "tells", desc := "(III)I" } : Jvm.MethodName)) ∈ TB := tbm (tb_6 (List.mem_of_getElem? (i := 80) rfl)) rfl
theorem w1378 : (Jvm.Cond.instanceMethod ({ cls := "KinInTheHeapModel", name := "tells", desc := "(III)I" } : Jvm.MethodName)) ∈ TB := tbm (tb_6 (List.mem_of_getElem? (i := 81) rfl)) rfl
theorem w1379 : (Jvm.Cond.selects "KinInTheHeapModel" ({ cls := "KinInTheHeapModel", name := "tells", desc := "(III)I" } : Jvm.MethodName) ({ cls := "KinInTheHeapModel", name := "tells", desc := "(III)I" } : Jvm.MethodName)) ∈ TB := tbm (tb_6 (List.mem_of_getElem? (i := 82) rfl)) rfl
theorem w1380 : (Jvm.Cond.code ({ cls := "KinInTheHeapModel", name := "tells", desc := "(III)I" } : Jvm.MethodName) prog_7_method_77_code (11 : Nat) (Option.some Jvm.ClassFile.FieldType.int)) ∈ TB := tbm (tb_6 (List.mem_of_getElem? (i := 83) rfl)) rfl
theorem w1381 : (Jvm.Cond.constantLong "KinInTheHeapModel" (358 : Nat) (6 : Int64)) ∈ TB := tbm (tb_6 (List.mem_of_getElem? (i := 84) rfl)) rfl
theorem w1382 : (Jvm.Cond.methodLink "KinInTheHeapModel" (355 : Nat) ({ cls := "KinInTheHeapModel", name := "firstOther", desc := "(II)I" } : Jvm.MethodName)) ∈ TB := tbm (tb_6 (List.mem_of_getElem? (i := 85) rfl)) rfl
theorem w1384 : (Jvm.Cond.instanceMethod ({ cls := "KinInTheHeapModel", name := "firstOther", desc := "(II)I" } : Jvm.MethodName)) ∈ TB := tbm (tb_6 (List.mem_of_getElem? (i := 87) rfl)) rfl
theorem w1385 : (Jvm.Cond.code ({ cls := "KinInTheHeapModel", name := "firstOther", desc := "(II)I" } : Jvm.MethodName) prog_7_method_75_code (6 : Nat) (Option.some Jvm.ClassFile.FieldType.int)) ∈ TB := tbm (tb_6 (List.mem_of_getElem? (i := 88) rfl)) rfl
theorem w1386 : (Jvm.Cond.methodLink "KinInTheHeapModel" (360 : Nat) ({ cls := "KinInTheHeapModel", name := "likeSet", desc := "(I)I" } : Jvm.MethodName)) ∈ TB := tbm (tb_6 (List.mem_of_getElem? (i := 89) rfl)) rfl
theorem w1388 : (Jvm.Cond.instanceMethod ({ cls := "KinInTheHeapModel", name := "likeSet", desc := "(I)I" } : Jvm.MethodName)) ∈ TB := tbm (tb_6 (List.mem_of_getElem? (i := 91) rfl)) rfl
theorem w1389 : (Jvm.Cond.code ({ cls := "KinInTheHeapModel", name := "likeSet", desc := "(I)I" } : Jvm.MethodName) prog_7_method_76_code (4 : Nat) (Option.some Jvm.ClassFile.FieldType.int)) ∈ TB := tbm (tb_6 (List.mem_of_getElem? (i := 92) rfl)) rfl
theorem w1390 : (Jvm.Cond.methodLink "KinInTheHeapLaw" (94 : Nat) ({ cls := "KinInTheHeapModel", name := "places", desc := "(II)J" } : Jvm.MethodName)) ∈ TB := tbm (tb_6 (List.mem_of_getElem? (i := 93) rfl)) rfl
theorem w1391 : (Jvm.Cond.instanceMethod ({ cls := "KinInTheHeapModel", name := "places", desc := "(II)J" } : Jvm.MethodName)) ∈ TB := tbm (tb_6 (List.mem_of_getElem? (i := 94) rfl)) rfl
theorem w1392 : (Jvm.Cond.selects "KinInTheHeapModel" ({ cls := "KinInTheHeapModel", name := "places", desc := "(II)J" } : Jvm.MethodName) ({ cls := "KinInTheHeapModel", name := "places", desc := "(II)J" } : Jvm.MethodName)) ∈ TB := tbm (tb_6 (List.mem_of_getElem? (i := 95) rfl)) rfl
theorem w1393 : (Jvm.Cond.code ({ cls := "KinInTheHeapModel", name := "places", desc := "(II)J" } : Jvm.MethodName) prog_7_method_78_code (7 : Nat) (Option.some Jvm.ClassFile.FieldType.long)) ∈ TB := tbm (tb_6 (List.mem_of_getElem? (i := 96) rfl)) rfl
theorem w1394 : (Jvm.Cond.methodLink "KinInTheHeapLaw" (98 : Nat) ({ cls := "KinInTheHeapModel", name := "film", desc := "(II)I" } : Jvm.MethodName)) ∈ TB := tbm (tb_6 (List.mem_of_getElem? (i := 97) rfl)) rfl
theorem w1395 : (Jvm.Cond.instanceMethod ({ cls := "KinInTheHeapModel", name := "film", desc := "(II)I" } : Jvm.MethodName)) ∈ TB := tbm (tb_6 (List.mem_of_getElem? (i := 98) rfl)) rfl
theorem w1396 : (Jvm.Cond.selects "KinInTheHeapModel" ({ cls := "KinInTheHeapModel", name := "film", desc := "(II)I" } : Jvm.MethodName) ({ cls := "KinInTheHeapModel", name := "film", desc := "(II)I" } : Jvm.MethodName)) ∈ TB := tbm (tb_6 (List.mem_of_getElem? (i := 99) rfl)) rfl
theorem w1397 : (Jvm.Cond.code ({ cls := "KinInTheHeapModel", name := "film", desc := "(II)I" } : Jvm.MethodName) prog_7_method_79_code (6 : Nat) (Option.some Jvm.ClassFile.FieldType.int)) ∈ TB := tbm (tb_6 (List.mem_of_getElem? (i := 100) rfl)) rfl
theorem w1398 : (Jvm.Cond.methodLink "KinInTheHeapModel" (363 : Nat) ({ cls := "KinInTheHeapModel", name := "sheet", desc := "(III)I" } : Jvm.MethodName)) ∈ TB := tbm (tb_6 (List.mem_of_getElem? (i := 101) rfl)) rfl
theorem w1399 : (Jvm.Cond.instanceMethod ({ cls := "KinInTheHeapModel", name := "sheet", desc := "(III)I" } : Jvm.MethodName)) ∈ TB := tbm (tb_6 (List.mem_of_getElem? (i := 102) rfl)) rfl
theorem w1400 : (Jvm.Cond.selects "KinInTheHeapModel" ({ cls := "KinInTheHeapModel", name := "sheet", desc := "(III)I" } : Jvm.MethodName) ({ cls := "KinInTheHeapModel", name := "sheet", desc := "(III)I" } : Jvm.MethodName)) ∈ TB := tbm (tb_6 (List.mem_of_getElem? (i := 103) rfl)) rfl
theorem w1401 : (Jvm.Cond.code ({ cls := "KinInTheHeapModel", name := "sheet", desc := "(III)I" } : Jvm.MethodName) prog_7_method_87_code (5 : Nat) (Option.some Jvm.ClassFile.FieldType.int)) ∈ TB := tbm (tb_6 (List.mem_of_getElem? (i := 104) rfl)) rfl
theorem w1402 : (Jvm.Cond.constantLong "KinInTheHeapModel" (383 : Nat) (2 : Int64)) ∈ TB := tbm (tb_6 (List.mem_of_getElem? (i := 105) rfl)) rfl
theorem w1403 : (Jvm.Cond.methodLink "KinInTheHeapLaw" (102 : Nat) ({ cls := "KinInTheHeapModel", name := "drawn", desc := "(II)I" } : Jvm.MethodName)) ∈ TB := tbm (tb_6 (List.mem_of_getElem? (i := 106) rfl)) rfl
theorem w1404 : (Jvm.Cond.instanceMethod ({ cls := "KinInTheHeapModel", name := "drawn", desc := "(II)I" } : Jvm.MethodName)) ∈ TB := tbm (tb_6 (List.mem_of_getElem? (i := 107) rfl)) rfl
theorem w1405 : (Jvm.Cond.selects "KinInTheHeapModel" ({ cls := "KinInTheHeapModel", name := "drawn", desc := "(II)I" } : Jvm.MethodName) ({ cls := "KinInTheHeapModel", name := "drawn", desc := "(II)I" } : Jvm.MethodName)) ∈ TB := tbm (tb_6 (List.mem_of_getElem? (i := 108) rfl)) rfl
theorem w1406 : (Jvm.Cond.code ({ cls := "KinInTheHeapModel", name := "drawn", desc := "(II)I" } : Jvm.MethodName) prog_7_method_81_code (3 : Nat) (Option.some Jvm.ClassFile.FieldType.int)) ∈ TB := tbm (tb_6 (List.mem_of_getElem? (i := 109) rfl)) rfl
theorem w1407 : (Jvm.Cond.methodLink "KinInTheHeapModel" (367 : Nat) ({ cls := "KinInTheHeapModel", name := "outDrawn", desc := "(II)I" } : Jvm.MethodName)) ∈ TB := tbm (tb_6 (List.mem_of_getElem? (i := 110) rfl)) rfl
theorem w1409 : (Jvm.Cond.instanceMethod ({ cls := "KinInTheHeapModel", name := "outDrawn", desc := "(II)I" } : Jvm.MethodName)) ∈ TB := tbm (tb_6 (List.mem_of_getElem? (i := 112) rfl)) rfl
theorem w1410 : (Jvm.Cond.code ({ cls := "KinInTheHeapModel", name := "outDrawn", desc := "(II)I" } : Jvm.MethodName) prog_7_method_80_code (5 : Nat) (Option.some Jvm.ClassFile.FieldType.int)) ∈ TB := tbm (tb_6 (List.mem_of_getElem? (i := 113) rfl)) rfl
theorem w1411 : (Jvm.Cond.constant "KinInTheHeapModel" (366 : Nat) (1103515245 : Int32)) ∈ TB := tbm (tb_6 (List.mem_of_getElem? (i := 114) rfl)) rfl
theorem w1412 : (Jvm.Cond.methodLink "KinInTheHeapLaw" (107 : Nat) ({ cls := "KinInTheHeapModel", name := "chance", desc := "(IIII)J" } : Jvm.MethodName)) ∈ TB := tbm (tb_6 (List.mem_of_getElem? (i := 115) rfl)) rfl
theorem w1413 : (Jvm.Cond.instanceMethod ({ cls := "KinInTheHeapModel", name := "chance", desc := "(IIII)J" } : Jvm.MethodName)) ∈ TB := tbm (tb_6 (List.mem_of_getElem? (i := 116) rfl)) rfl
theorem w1414 : (Jvm.Cond.selects "KinInTheHeapModel" ({ cls := "KinInTheHeapModel", name := "chance", desc := "(IIII)J" } : Jvm.MethodName) ({ cls := "KinInTheHeapModel", name := "chance", desc := "(IIII)J" } : Jvm.MethodName)) ∈ TB := tbm (tb_6 (List.mem_of_getElem? (i := 117) rfl)) rfl
theorem w1415 : (Jvm.Cond.code ({ cls := "KinInTheHeapModel", name := "chance", desc := "(IIII)J" } : Jvm.MethodName) prog_7_method_82_code (8 : Nat) (Option.some Jvm.ClassFile.FieldType.long)) ∈ TB := tbm (tb_6 (List.mem_of_getElem? (i := 118) rfl)) rfl
theorem w1416 : (Jvm.Cond.constantLong "KinInTheHeapModel" (370 : Nat) (20 : Int64)) ∈ TB := tbm (tb_6 (List.mem_of_getElem? (i := 119) rfl)) rfl
theorem w1417 : (Jvm.Cond.constantLong "KinInTheHeapModel" (372 : Nat) (8 : Int64)) ∈ TB := tbm (tb_6 (List.mem_of_getElem? (i := 120) rfl)) rfl
theorem w1418 : (Jvm.Cond.methodLink "KinInTheHeapLaw" (111 : Nat) ({ cls := "KinInTheHeapModel", name := "image", desc := "()I" } : Jvm.MethodName)) ∈ TB := tbm (tb_6 (List.mem_of_getElem? (i := 121) rfl)) rfl
theorem w1419 : (Jvm.Cond.instanceMethod ({ cls := "KinInTheHeapModel", name := "image", desc := "()I" } : Jvm.MethodName)) ∈ TB := tbm (tb_6 (List.mem_of_getElem? (i := 122) rfl)) rfl
theorem w1420 : (Jvm.Cond.selects "KinInTheHeapModel" ({ cls := "KinInTheHeapModel", name := "image", desc := "()I" } : Jvm.MethodName) ({ cls := "KinInTheHeapModel", name := "image", desc := "()I" } : Jvm.MethodName)) ∈ TB := tbm (tb_6 (List.mem_of_getElem? (i := 123) rfl)) rfl
theorem w1421 : (Jvm.Cond.code ({ cls := "KinInTheHeapModel", name := "image", desc := "()I" } : Jvm.MethodName) prog_7_method_83_code (2 : Nat) (Option.some Jvm.ClassFile.FieldType.int)) ∈ TB := tbm (tb_6 (List.mem_of_getElem? (i := 124) rfl)) rfl
theorem w1422 : (Jvm.Cond.methodLink "KinInTheHeapLaw" (115 : Nat) ({ cls := "KinInTheHeapModel", name := "back", desc := "()I" } : Jvm.MethodName)) ∈ TB := tbm (tb_6 (List.mem_of_getElem? (i := 125) rfl)) rfl
theorem w1423 : (Jvm.Cond.instanceMethod ({ cls := "KinInTheHeapModel", name := "back", desc := "()I" } : Jvm.MethodName)) ∈ TB := tbm (tb_6 (List.mem_of_getElem? (i := 126) rfl)) rfl
theorem w1424 : (Jvm.Cond.selects "KinInTheHeapModel" ({ cls := "KinInTheHeapModel", name := "back", desc := "()I" } : Jvm.MethodName) ({ cls := "KinInTheHeapModel", name := "back", desc := "()I" } : Jvm.MethodName)) ∈ TB := tbm (tb_6 (List.mem_of_getElem? (i := 127) rfl)) rfl
theorem w1425 : (Jvm.Cond.code ({ cls := "KinInTheHeapModel", name := "back", desc := "()I" } : Jvm.MethodName) prog_7_method_84_code (2 : Nat) (Option.some Jvm.ClassFile.FieldType.int)) ∈ TB := tbm (tb_6 (List.mem_of_getElem? (i := 128) rfl)) rfl
theorem w1426 : (Jvm.Cond.methodLink "KinInTheHeapLaw" (119 : Nat) ({ cls := "KinInTheHeapModel", name := "count", desc := "(I)I" } : Jvm.MethodName)) ∈ TB := tbm (tb_6 (List.mem_of_getElem? (i := 129) rfl)) rfl
theorem w1427 : (Jvm.Cond.instanceMethod ({ cls := "KinInTheHeapModel", name := "count", desc := "(I)I" } : Jvm.MethodName)) ∈ TB := tbm (tb_6 (List.mem_of_getElem? (i := 130) rfl)) rfl
theorem w1428 : (Jvm.Cond.selects "KinInTheHeapModel" ({ cls := "KinInTheHeapModel", name := "count", desc := "(I)I" } : Jvm.MethodName) ({ cls := "KinInTheHeapModel", name := "count", desc := "(I)I" } : Jvm.MethodName)) ∈ TB := tbm (tb_6 (List.mem_of_getElem? (i := 131) rfl)) rfl
theorem w1429 : (Jvm.Cond.code ({ cls := "KinInTheHeapModel", name := "count", desc := "(I)I" } : Jvm.MethodName) prog_7_method_85_code (4 : Nat) (Option.some Jvm.ClassFile.FieldType.int)) ∈ TB := tbm (tb_6 (List.mem_of_getElem? (i := 132) rfl)) rfl
theorem w1430 : (Jvm.Cond.methodLink "KinInTheHeapLaw" (123 : Nat) ({ cls := "KinInTheHeapModel", name := "sheet", desc := "(III)I" } : Jvm.MethodName)) ∈ TB := tbm (tb_6 (List.mem_of_getElem? (i := 133) rfl)) rfl
theorem w1431 : (Jvm.Cond.methodLink "KinInTheHeapLaw" (127 : Nat) ({ cls := "KinInTheHeapModel", name := "cell", desc := "(III)I" } : Jvm.MethodName)) ∈ TB := tbm (tb_6 (List.mem_of_getElem? (i := 134) rfl)) rfl
theorem w1432 : (Jvm.Cond.instanceMethod ({ cls := "KinInTheHeapModel", name := "cell", desc := "(III)I" } : Jvm.MethodName)) ∈ TB := tbm (tb_6 (List.mem_of_getElem? (i := 135) rfl)) rfl
theorem w1433 : (Jvm.Cond.selects "KinInTheHeapModel" ({ cls := "KinInTheHeapModel", name := "cell", desc := "(III)I" } : Jvm.MethodName) ({ cls := "KinInTheHeapModel", name := "cell", desc := "(III)I" } : Jvm.MethodName)) ∈ TB := tbm (tb_6 (List.mem_of_getElem? (i := 136) rfl)) rfl
theorem w1434 : (Jvm.Cond.code ({ cls := "KinInTheHeapModel", name := "cell", desc := "(III)I" } : Jvm.MethodName) prog_7_method_88_code (4 : Nat) (Option.some Jvm.ClassFile.FieldType.int)) ∈ TB := tbm (tb_6 (List.mem_of_getElem? (i := 137) rfl)) rfl
theorem w1435 : (Jvm.Cond.methodLink "KinInTheHeapLaw" (132 : Nat) ({ cls := "KinInTheHeapModel", name := "copy", desc := "(IIIII)I" } : Jvm.MethodName)) ∈ TB := tbm (tb_6 (List.mem_of_getElem? (i := 138) rfl)) rfl
theorem w1436 : (Jvm.Cond.instanceMethod ({ cls := "KinInTheHeapModel", name := "copy", desc := "(IIIII)I" } : Jvm.MethodName)) ∈ TB := tbm (tb_6 (List.mem_of_getElem? (i := 139) rfl)) rfl
theorem w1437 : (Jvm.Cond.selects "KinInTheHeapModel" ({ cls := "KinInTheHeapModel", name := "copy", desc := "(IIIII)I" } : Jvm.MethodName) ({ cls := "KinInTheHeapModel", name := "copy", desc := "(IIIII)I" } : Jvm.MethodName)) ∈ TB := tbm (tb_6 (List.mem_of_getElem? (i := 140) rfl)) rfl
theorem w1438 : (Jvm.Cond.code ({ cls := "KinInTheHeapModel", name := "copy", desc := "(IIIII)I" } : Jvm.MethodName) prog_7_method_89_code (9 : Nat) (Option.some Jvm.ClassFile.FieldType.int)) ∈ TB := tbm (tb_6 (List.mem_of_getElem? (i := 141) rfl)) rfl
theorem w1439 : (Jvm.Cond.methodLink "KinInTheHeapLaw" (137 : Nat) ({ cls := "KinInTheHeapModel", name := "heap", desc := "(IIII)I" } : Jvm.MethodName)) ∈ TB := tbm (tb_6 (List.mem_of_getElem? (i := 142) rfl)) rfl
theorem w1440 : (Jvm.Cond.instanceMethod ({ cls := "KinInTheHeapModel", name := "heap", desc := "(IIII)I" } : Jvm.MethodName)) ∈ TB := tbm (tb_6 (List.mem_of_getElem? (i := 143) rfl)) rfl
theorem w1441 : (Jvm.Cond.selects "KinInTheHeapModel" ({ cls := "KinInTheHeapModel", name := "heap", desc := "(IIII)I" } : Jvm.MethodName) ({ cls := "KinInTheHeapModel", name := "heap", desc := "(IIII)I" } : Jvm.MethodName)) ∈ TB := tbm (tb_6 (List.mem_of_getElem? (i := 144) rfl)) rfl
theorem w1442 : (Jvm.Cond.code ({ cls := "KinInTheHeapModel", name := "heap", desc := "(IIII)I" } : Jvm.MethodName) prog_7_method_90_code (8 : Nat) (Option.some Jvm.ClassFile.FieldType.int)) ∈ TB := tbm (tb_6 (List.mem_of_getElem? (i := 145) rfl)) rfl
theorem w1443 : (Jvm.Cond.methodLink "KinInTheHeapModel" (385 : Nat) ({ cls := "KinInTheHeapModel", name := "dust", desc := "(III)I" } : Jvm.MethodName)) ∈ TB := tbm (tb_6 (List.mem_of_getElem? (i := 146) rfl)) rfl
theorem w1444 : (Jvm.Cond.methodLink "KinInTheHeapLaw" (141 : Nat) ({ cls := "KinInTheHeapModel", name := "taken", desc := "(II)I" } : Jvm.MethodName)) ∈ TB := tbm (tb_6 (List.mem_of_getElem? (i := 147) rfl)) rfl
theorem w1445 : (Jvm.Cond.instanceMethod ({ cls := "KinInTheHeapModel", name := "taken", desc := "(II)I" } : Jvm.MethodName)) ∈ TB := tbm (tb_6 (List.mem_of_getElem? (i := 148) rfl)) rfl
theorem w1446 : (Jvm.Cond.selects "KinInTheHeapModel" ({ cls := "KinInTheHeapModel", name := "taken", desc := "(II)I" } : Jvm.MethodName) ({ cls := "KinInTheHeapModel", name := "taken", desc := "(II)I" } : Jvm.MethodName)) ∈ TB := tbm (tb_6 (List.mem_of_getElem? (i := 149) rfl)) rfl
theorem w1447 : (Jvm.Cond.code ({ cls := "KinInTheHeapModel", name := "taken", desc := "(II)I" } : Jvm.MethodName) prog_7_method_92_code (4 : Nat) (Option.some Jvm.ClassFile.FieldType.int)) ∈ TB := tbm (tb_6 (List.mem_of_getElem? (i := 150) rfl)) rfl
theorem w1448 : (Jvm.Cond.methodLink "KinInTheHeapModel" (388 : Nat) ({ cls := "KinInTheHeapModel", name := "over", desc := "(I)I" } : Jvm.MethodName)) ∈ TB := tbm (tb_6 (List.mem_of_getElem? (i := 151) rfl)) rfl
theorem w1449 : (Jvm.Cond.static ({ cls := "KinInTheHeapModel", name := "over", desc := "(I)I" } : Jvm.MethodName)) ∈ TB := tbm (tb_6 (List.mem_of_getElem? (i := 152) rfl)) rfl
theorem w1450 : (Jvm.Cond.code ({ cls := "KinInTheHeapModel", name := "over", desc := "(I)I" } : Jvm.MethodName) prog_7_method_91_code (1 : Nat) (Option.some Jvm.ClassFile.FieldType.int)) ∈ TB := tbm (tb_6 (List.mem_of_getElem? (i := 153) rfl)) rfl
theorem w1451 : (Jvm.Cond.fieldLink "java/lang/String" (9 : Nat) "java/lang/String" "value" "[B") ∈ TB := tbm (tb_6 (List.mem_of_getElem? (i := 154) rfl)) rfl
theorem w1452 : (Jvm.Cond.fieldLink "java/lang/String" (15 : Nat) "java/lang/String" "coder" "B") ∈ TB := tbm (tb_6 (List.mem_of_getElem? (i := 155) rfl)) rfl
end
section
def RX0 : String := "KinInTheHeap$Floor"
def TX0 : u_T := fun k => match k with
  | 0 => ("KinInTheHeap$Floor", "kinds", "[I", true)
  | 1 => ("KinInTheHeap$Floor", "numbers", "[I", true)
  | 2 => ("KinInTheHeap$Floor", "cells", "[I", true)
  | 3 => ("KinInTheHeap$Floor", "cracks", "J", false)
  | 4 => ("KinInTheHeap$Floor", "weeks", "I", false)
  | 5 => ("KinInTheHeap$Floor", "strength", "I", false)
  | 6 => ("KinInTheHeap$Floor", "rule", "I", false)
  | 7 => ("KinInTheHeap$Floor", "dusts", "I", false)
  | 8 => ("KinInTheHeap$Floor", "texts", "[LKinInTheHeap$Text;", true)
  | 9 => ("KinInTheHeap$Floor", "nexts", "[I", true)
  | _ => ("KinInTheHeap$Floor", "facts", "[I", true)
def tyX0 : Nat → FieldType := fun k => match k with
  | 0 => .array .int
  | 1 => .array .int
  | 2 => .array .int
  | 3 => .long
  | 4 => .int
  | 5 => .int
  | 6 => .int
  | 7 => .int
  | 8 => .array (.object "KinInTheHeap$Text")
  | 9 => .array .int
  | _ => .array .int
theorem nmX0 : ∀ a, a < 11 → ∀ b, b < 11 → a ≠ b → (TX0 a).2.1 ≠ (TX0 b).2.1 := by decide +kernel
theorem tyX0_ok : ∀ k, k < 11 → parseFieldDescriptor (TX0 k).2.2.1 = some (tyX0 k) := by decide +kernel
def RX1 : String := "KinInTheHeap$Reader"
def TX1 : u_T := fun k => match k with
  | 0 => ("KinInTheHeap$Reader", "size", "I", false)
  | 1 => ("KinInTheHeap$Reader", "letters", "[I", true)
  | 2 => ("KinInTheHeap$Reader", "tokens", "[I", true)
  | 3 => ("KinInTheHeap$Reader", "starts", "[I", true)
  | 4 => ("KinInTheHeap$Reader", "waiting", "[I", true)
  | 5 => ("KinInTheHeap$Reader", "tokenCount", "I", false)
  | 6 => ("KinInTheHeap$Reader", "at", "I", false)
  | 7 => ("KinInTheHeap$Reader", "waits", "I", false)
  | _ => ("KinInTheHeap$Reader", "open", "I", false)
def tyX1 : Nat → FieldType := fun k => match k with
  | 0 => .int
  | 1 => .array .int
  | 2 => .array .int
  | 3 => .array .int
  | 4 => .array .int
  | 5 => .int
  | 6 => .int
  | 7 => .int
  | _ => .int
theorem nmX1 : ∀ a, a < 9 → ∀ b, b < 9 → a ≠ b → (TX1 a).2.1 ≠ (TX1 b).2.1 := by decide +kernel
theorem tyX1_ok : ∀ k, k < 9 → parseFieldDescriptor (TX1 k).2.2.1 = some (tyX1 k) := by decide +kernel
def RX2 : String := "KinInTheHeap$Sheet"
def TX2 : u_T := fun k => match k with
  | 0 => ("KinInTheHeap$Sheet", "items", "[I", true)
  | 1 => ("KinInTheHeap$Sheet", "sort", "I", false)
  | _ => ("KinInTheHeap$Sheet", "size", "I", false)
def tyX2 : Nat → FieldType := fun k => match k with
  | 0 => .array .int
  | 1 => .int
  | _ => .int
theorem nmX2 : ∀ a, a < 3 → ∀ b, b < 3 → a ≠ b → (TX2 a).2.1 ≠ (TX2 b).2.1 := by decide +kernel
theorem tyX2_ok : ∀ k, k < 3 → parseFieldDescriptor (TX2 k).2.2.1 = some (tyX2 k) := by decide +kernel
def RX3 : String := "KinInTheHeap$Text"
def TX3 : u_T := fun k => match k with
  | 0 => ("KinInTheHeap$Text", "codes", "[I", true)
  | 1 => ("KinInTheHeap$Text", "ends", "[I", true)
  | 2 => ("KinInTheHeap$Text", "stack", "[I", true)
  | 3 => ("KinInTheHeap$Text", "size", "I", false)
  | _ => ("KinInTheHeap$Text", "parts", "I", false)
def tyX3 : Nat → FieldType := fun k => match k with
  | 0 => .array .int
  | 1 => .array .int
  | 2 => .array .int
  | 3 => .int
  | _ => .int
theorem nmX3 : ∀ a, a < 5 → ∀ b, b < 5 → a ≠ b → (TX3 a).2.1 ≠ (TX3 b).2.1 := by decide +kernel
theorem tyX3_ok : ∀ k, k < 5 → parseFieldDescriptor (TX3 k).2.2.1 = some (tyX3 k) := by decide +kernel
def RX4 : String := "KinInTheHeap"
def TX4 : u_T := fun k => match k with
  | 0 => ("KinInTheHeap", "texts", "[LKinInTheHeap$Text;", true)
  | 1 => ("KinInTheHeap", "sheets", "[LKinInTheHeap$Sheet;", true)
  | 2 => ("KinInTheHeap", "reader", "LKinInTheHeap$Reader;", true)
  | 3 => ("KinInTheHeap", "now", "LKinInTheHeap$Floor;", true)
  | 4 => ("KinInTheHeap", "kept", "LKinInTheHeap$Floor;", true)
  | 5 => ("KinInTheHeap", "thought", "LKinInTheHeap$Floor;", true)
  | 6 => ("KinInTheHeap", "further", "LKinInTheHeap$Floor;", true)
  | 7 => ("KinInTheHeap", "textCount", "I", false)
  | _ => ("KinInTheHeap", "imaged", "Z", false)
def tyX4 : Nat → FieldType := fun k => match k with
  | 0 => .array (.object "KinInTheHeap$Text")
  | 1 => .array (.object "KinInTheHeap$Sheet")
  | 2 => .object "KinInTheHeap$Reader"
  | 3 => .object "KinInTheHeap$Floor"
  | 4 => .object "KinInTheHeap$Floor"
  | 5 => .object "KinInTheHeap$Floor"
  | 6 => .object "KinInTheHeap$Floor"
  | 7 => .int
  | _ => .boolean
theorem nmX4 : ∀ a, a < 9 → ∀ b, b < 9 → a ≠ b → (TX4 a).2.1 ≠ (TX4 b).2.1 := by decide +kernel
theorem tyX4_ok : ∀ k, k < 9 → parseFieldDescriptor (TX4 k).2.2.1 = some (tyX4 k) := by decide +kernel
def RX5 : String := "KinInTheHeapModel"
def TX5 : u_T := fun k => match k with
  | 0 => ("KinInTheHeapModel", "thrown", "I", false)
  | 1 => ("KinInTheHeapModel", "texts", "[I", true)
  | 2 => ("KinInTheHeapModel", "textSize", "[I", true)
  | 3 => ("KinInTheHeapModel", "textCount", "I", false)
  | 4 => ("KinInTheHeapModel", "rule", "I", false)
  | 5 => ("KinInTheHeapModel", "tape", "[I", true)
  | 6 => ("KinInTheHeapModel", "taped", "I", false)
  | 7 => ("KinInTheHeapModel", "weekNow", "I", false)
  | 8 => ("KinInTheHeapModel", "forceNow", "I", false)
  | 9 => ("KinInTheHeapModel", "cracks", "[I", true)
  | 10 => ("KinInTheHeapModel", "kinds", "[I", true)
  | 11 => ("KinInTheHeapModel", "numbers", "[I", true)
  | 12 => ("KinInTheHeapModel", "at", "[I", true)
  | 13 => ("KinInTheHeapModel", "many", "I", false)
  | 14 => ("KinInTheHeapModel", "ofForce", "I", false)
  | 15 => ("KinInTheHeapModel", "ofNumber", "I", false)
  | 16 => ("KinInTheHeapModel", "ofRow", "I", false)
  | 17 => ("KinInTheHeapModel", "ofColumn", "I", false)
  | 18 => ("KinInTheHeapModel", "ofKin", "I", false)
  | 19 => ("KinInTheHeapModel", "ofWeek", "I", false)
  | 20 => ("KinInTheHeapModel", "from", "I", false)
  | 21 => ("KinInTheHeapModel", "size", "I", false)
  | 22 => ("KinInTheHeapModel", "here", "I", false)
  | 23 => ("KinInTheHeapModel", "token", "I", false)
  | 24 => ("KinInTheHeapModel", "tokenAt", "I", false)
  | 25 => ("KinInTheHeapModel", "tokenWorth", "J", false)
  | 26 => ("KinInTheHeapModel", "open", "I", false)
  | 27 => ("KinInTheHeapModel", "bad", "Z", false)
  | 28 => ("KinInTheHeapModel", "fault", "I", false)
  | 29 => ("KinInTheHeapModel", "then", "[I", true)
  | 30 => ("KinInTheHeapModel", "was", "[I", true)
  | 31 => ("KinInTheHeapModel", "weekWas", "I", false)
  | 32 => ("KinInTheHeapModel", "cracksKept", "[I", true)
  | 33 => ("KinInTheHeapModel", "numbersKept", "[I", true)
  | 34 => ("KinInTheHeapModel", "atKept", "[I", true)
  | 35 => ("KinInTheHeapModel", "manyKept", "I", false)
  | 36 => ("KinInTheHeapModel", "weekKept", "I", false)
  | 37 => ("KinInTheHeapModel", "forceKept", "I", false)
  | 38 => ("KinInTheHeapModel", "ruleKept", "I", false)
  | 39 => ("KinInTheHeapModel", "isThere", "[Z", true)
  | 40 => ("KinInTheHeapModel", "sorts", "[I", true)
  | 41 => ("KinInTheHeapModel", "sheetSize", "[I", true)
  | _ => ("KinInTheHeapModel", "items", "[I", true)
def tyX5 : Nat → FieldType := fun k => match k with
  | 0 => .int
  | 1 => .array .int
  | 2 => .array .int
  | 3 => .int
  | 4 => .int
  | 5 => .array .int
  | 6 => .int
  | 7 => .int
  | 8 => .int
  | 9 => .array .int
  | 10 => .array .int
  | 11 => .array .int
  | 12 => .array .int
  | 13 => .int
  | 14 => .int
  | 15 => .int
  | 16 => .int
  | 17 => .int
  | 18 => .int
  | 19 => .int
  | 20 => .int
  | 21 => .int
  | 22 => .int
  | 23 => .int
  | 24 => .int
  | 25 => .long
  | 26 => .int
  | 27 => .boolean
  | 28 => .int
  | 29 => .array .int
  | 30 => .array .int
  | 31 => .int
  | 32 => .array .int
  | 33 => .array .int
  | 34 => .array .int
  | 35 => .int
  | 36 => .int
  | 37 => .int
  | 38 => .int
  | 39 => .array .boolean
  | 40 => .array .int
  | 41 => .array .int
  | _ => .array .int
theorem nmX5 : ∀ a, a < 43 → ∀ b, b < 43 → a ≠ b → (TX5 a).2.1 ≠ (TX5 b).2.1 := by decide +kernel
theorem tyX5_ok : ∀ k, k < 43 → parseFieldDescriptor (TX5 k).2.2.1 = some (tyX5 k) := by decide +kernel
abbrev vwCl : List vw_C := [(RX0, TX0, 11), (RX1, TX1, 9), (RX2, TX2, 3), (RX3, TX3, 5), (RX4, TX4, 9), (RX5, TX5, 43)]
theorem inT0 : ∀ w ∈ u_ws RX0 TX0 11, w ∈ TB := by decide +kernel
theorem inT1 : ∀ w ∈ u_ws RX1 TX1 9, w ∈ TB := by decide +kernel
theorem inT2 : ∀ w ∈ u_ws RX2 TX2 3, w ∈ TB := by decide +kernel
theorem inT3 : ∀ w ∈ u_ws RX3 TX3 5, w ∈ TB := by decide +kernel
theorem inT4 : ∀ w ∈ u_ws RX4 TX4 9, w ∈ TB := by decide +kernel
theorem inT5 : ∀ w ∈ u_ws RX5 TX5 43, w ∈ TB := by decide +kernel
end
section
/-! ===== the base: a flat memory over a fixed layout of cells ===== -/
abbrev ShF : Type := Option Nat ⊕ Bool
abbrev Sh : Type := (Nat × List ShF) ⊕ ((ClassId × Nat) × Option (Nat → Option Nat))
abbrev Mem : Type := (Nat → Nat → Int32) × (Nat → Nat → Int64)
def fv (ad : Nat → Nat) (σ : Mem) (j k : Nat) (d : ShF) : Value := match d with
  | .inl (some r) => .ref (ad r)
  | .inl none => .null
  | .inr false => .int (σ.1 j k)
  | .inr true => .long (σ.2 j k)
def fvs (ad : Nat → Nat) (σ : Mem) (j : Nat) : Nat → List ShF → List Value
  | _, [] => []
  | k, d :: ds => fv ad σ j k d :: fvs ad σ j (k + 1) ds
def ce (ad : Nat → Nat) (σ : Mem) (j : Nat) (s : Sh) : va_E := match s with
  | .inl o => .inr (o.1, fvs ad σ j 0 o.2)
  | .inr (a, none) => .inl (a.1, a.2, .inl (σ.1 j))
  | .inr (a, some f) => .inl (a.1, a.2, .inr (.inr (.inr (.inr (fun i => (f i).map ad)))))
def wd (ad : Nat → Nat) (σ : Mem) : Nat → List Sh → va_W
  | _, [] => []
  | j, s :: ss => (ad j, ce ad σ j s) :: wd ad σ (j + 1) ss
def putI (σ : Mem) (j k : Nat) (v : Int32) : Mem := (fun a => if a = j then upd (σ.1 j) k v else σ.1 a, σ.2)
def putL (σ : Mem) (j k : Nat) (v : Int64) : Mem := (σ.1, fun a => if a = j then vp_updL (σ.2 j) k v else σ.2 a)
def putR (σ : Mem) (j : Nat) (f : Nat → Int32) : Mem := (fun a => if a = j then f else σ.1 a, σ.2)
theorem fvs_get {ad : Nat → Nat} {σ : Mem} {j : Nat} {d : ShF} : ∀ {ds : List ShF} {k k0 : Nat}, ds[k]? = some d → (fvs ad σ j k0 ds)[k]? = some (fv ad σ j (k0 + k) d)
  | [], k, k0, h => by simp at h
  | d0 :: ds, 0, k0, h => by
    simp at h
    subst h
    simp [fvs]
  | d0 :: ds, k + 1, k0, h => by
    have h' : ds[k]? = some d := by simpa using h
    have := fvs_get (ad := ad) (σ := σ) (j := j) (k0 := k0 + 1) h'
    simp only [fvs, List.getElem?_cons_succ]
    rw [this]
    congr 2
    omega
theorem fvs_len {ad : Nat → Nat} {σ : Mem} {j : Nat} : ∀ {ds : List ShF} {k0 : Nat}, (fvs ad σ j k0 ds).length = ds.length
  | [], _ => rfl
  | _ :: ds, k0 => by simp [fvs, fvs_len (ds := ds)]
theorem fvs_upd {ad : Nat → Nat} {σ σ' : Mem} {j : Nat} {v : Value} : ∀ {ds : List ShF} {k k0 : Nat} {d : ShF}, ds[k]? = some d → fv ad σ' j (k0 + k) d = v → (∀ i d', i ≠ k → ds[i]? = some d' → fv ad σ j (k0 + i) d' = fv ad σ' j (k0 + i) d') → (fvs ad σ j k0 ds).set k v = fvs ad σ' j k0 ds
  | [], k, k0, d, h, _, _ => by simp at h
  | d0 :: ds, 0, k0, d, h, hv, ho => by
    simp at h
    subst h
    have hr : fvs ad σ j (k0 + 1) ds = fvs ad σ' j (k0 + 1) ds := by
      apply List.ext_getElem?
      intro i
      cases hd : ds[i]? with
      | none =>
        have hl : ds.length ≤ i := List.getElem?_eq_none_iff.mp hd
        rw [List.getElem?_eq_none_iff.mpr (by rw [fvs_len]; exact hl), List.getElem?_eq_none_iff.mpr (by rw [fvs_len]; exact hl)]
      | some d' =>
        rw [fvs_get hd, fvs_get hd]
        have := ho (i + 1) d' (by omega) (by simpa using hd)
        rw [show k0 + 1 + i = k0 + (i + 1) from by omega, this]
    simp only [fvs, List.set_cons_zero, hr]
    rw [← hv]
    rfl
  | d0 :: ds, k + 1, k0, d, h, hv, ho => by
    have h' : ds[k]? = some d := by simpa using h
    have h0 := ho 0 d0 (by omega) (by simp)
    have hr := fvs_upd (ad := ad) (σ := σ) (σ' := σ') (j := j) (v := v) (k0 := k0 + 1) h' (by rw [show k0 + 1 + k = k0 + (k + 1) from by omega]; exact hv) (fun i d' hi hd => by
      have := ho (i + 1) d' (by omega) (by simpa using hd)
      rw [show k0 + 1 + i = k0 + (i + 1) from by omega]
      exact this)
    simp only [fvs, List.set_cons_succ, hr]
    congr 1
theorem wd_get {ad : Nat → Nat} {σ : Mem} {s : Sh} : ∀ {w : List Sh} {j j0 : Nat}, w[j]? = some s → (wd ad σ j0 w)[j]? = some (ad (j0 + j), ce ad σ (j0 + j) s)
  | [], j, j0, h => by simp at h
  | s0 :: w, 0, j0, h => by
    simp at h
    subst h
    simp [wd]
  | s0 :: w, j + 1, j0, h => by
    have h' : w[j]? = some s := by simpa using h
    have := wd_get (ad := ad) (σ := σ) (j0 := j0 + 1) h'
    simp only [wd, List.getElem?_cons_succ]
    rw [this, show j0 + 1 + j = j0 + (j + 1) from by omega]
theorem wd_get0 {ad : Nat → Nat} {σ : Mem} {s : Sh} {w : List Sh} {j : Nat} (h : w[j]? = some s) : (wd ad σ 0 w)[j]? = some (ad j, ce ad σ j s) := by
  have := wd_get (ad := ad) (σ := σ) (j0 := 0) h
  rwa [Nat.zero_add] at this
theorem wd_len {ad : Nat → Nat} {σ : Mem} : ∀ {w : List Sh} {j0 : Nat}, (wd ad σ j0 w).length = w.length
  | [], _ => rfl
  | _ :: w, j0 => by simp [wd, wd_len (w := w)]
theorem wd_none {ad : Nat → Nat} {σ : Mem} {w : List Sh} {j0 j : Nat} (h : w[j]? = none) : (wd ad σ j0 w)[j]? = none := List.getElem?_eq_none_iff.mpr (by rw [wd_len]; exact List.getElem?_eq_none_iff.mp h)
theorem wd_upd {ad : Nat → Nat} {σ σ' : Mem} {s : Sh} {e : va_E} {w : List Sh} {j : Nat} (h : w[j]? = some s) (he : ce ad σ' j s = e) (ho : ∀ i s', i ≠ j → w[i]? = some s' → ce ad σ i s' = ce ad σ' i s') : (wd ad σ 0 w).set j (ad j, e) = wd ad σ' 0 w := by
  apply List.ext_getElem?
  intro i
  by_cases hij : i = j
  · subst hij
    have hl : i < (wd ad σ 0 w).length := by rw [wd_len]; exact (List.getElem?_eq_some_iff.mp h).1
    rw [List.getElem?_set_self hl, wd_get0 h, he]
  · rw [List.getElem?_set_ne (fun q => hij q.symm)]
    cases hw : w[i]? with
    | none => rw [wd_none hw, wd_none hw]
    | some s' => rw [wd_get0 hw, wd_get0 hw, ho i s' hij hw]
theorem fv_ext {ad : Nat → Nat} {σ σ' : Mem} {i k : Nat} (h1 : σ.1 i k = σ'.1 i k) (h2 : σ.2 i k = σ'.2 i k) (d : ShF) : fv ad σ i k d = fv ad σ' i k d := by
  match d with
  | .inl (some _) => rfl
  | .inl none => rfl
  | .inr false => simp [fv, h1]
  | .inr true => simp [fv, h2]
theorem fvs_ext {ad : Nat → Nat} {σ σ' : Mem} {i : Nat} (h1 : σ.1 i = σ'.1 i) (h2 : σ.2 i = σ'.2 i) : ∀ (k : Nat) (ds : List ShF), fvs ad σ i k ds = fvs ad σ' i k ds
  | _, [] => rfl
  | k, d :: ds => by
    simp only [fvs]
    rw [fv_ext (σ := σ) (σ' := σ') (by rw [h1]) (by rw [h2]) d, fvs_ext h1 h2 (k + 1) ds]
theorem ce_ext {ad : Nat → Nat} {σ σ' : Mem} {i : Nat} (h1 : σ.1 i = σ'.1 i) (h2 : σ.2 i = σ'.2 i) (s : Sh) : ce ad σ i s = ce ad σ' i s := by
  match s with
  | .inl o => simp only [ce]; rw [fvs_ext h1 h2]
  | .inr (a, none) => simp only [ce]; rw [h1]
  | .inr (a, some f) => rfl
theorem wd_putI {ad : Nat → Nat} {σ : Mem} {w : List Sh} {j k ci : Nat} {ds : List ShF} {v : Int32} (hj : w[j]? = some (.inl (ci, ds))) (hk : ds[k]? = some (.inr false)) : (wd ad σ 0 w).set j (ad j, .inr (ci, (fvs ad σ j 0 ds).set k (.int v))) = wd ad (putI σ j k v) 0 w := by
  refine wd_upd hj ?_ (fun i s' hi _ => ce_ext (σ := σ) (σ' := putI σ j k v) (by simp [putI, hi]) rfl s')
  have h1 := fvs_upd (ad := ad) (σ := σ) (σ' := putI σ j k v) (j := j) (k0 := 0) (v := .int v) hk (by simp [fv, putI, upd]) (fun i d' hi hd => fv_ext (σ := σ) (σ' := putI σ j k v) (by simp [putI, upd, hi]) rfl d')
  rw [h1]
  rfl
theorem wd_putL {ad : Nat → Nat} {σ : Mem} {w : List Sh} {j k ci : Nat} {ds : List ShF} {v : Int64} (hj : w[j]? = some (.inl (ci, ds))) (hk : ds[k]? = some (.inr true)) : (wd ad σ 0 w).set j (ad j, .inr (ci, (fvs ad σ j 0 ds).set k (.long v))) = wd ad (putL σ j k v) 0 w := by
  refine wd_upd hj ?_ (fun i s' hi _ => ce_ext (σ := σ) (σ' := putL σ j k v) rfl (by simp [putL, hi]) s')
  have h1 := fvs_upd (ad := ad) (σ := σ) (σ' := putL σ j k v) (j := j) (k0 := 0) (v := .long v) hk (by simp [fv, putL, vp_updL]) (fun i d' hi hd => fv_ext (σ := σ) (σ' := putL σ j k v) rfl (by simp [putL, vp_updL, hi]) d')
  rw [h1]
  rfl
theorem wd_putR {ad : Nat → Nat} {σ : Mem} {w : List Sh} {j : Nat} {a : ClassId × Nat} {f : Nat → Int32} (hj : w[j]? = some (.inr (a, none))) : (wd ad σ 0 w).set j (ad j, .inl (a.1, a.2, .inl f)) = wd ad (putR σ j f) 0 w :=
  wd_upd hj (by simp [ce, putR]) (fun i s' hi _ => ce_ext (σ := σ) (σ' := putR σ j f) (by simp [putR, hi]) rfl s')
theorem putR_upd (σ : Mem) (j k : Nat) (v : Int32) : putR σ j (upd (σ.1 j) k v) = putI σ j k v := rfl
/-- the addresses of a world are apart, and of a kind -/
def adOk (A : Nat → Prop) (ad : Nat → Nat) (n : Nat) : Prop := (∀ i j, i < n → j < n → ad i = ad j → i = j) ∧ ∀ i, i < n → A (ad i)
theorem wd_D {A : Nat → Prop} {ad : Nat → Nat} {w : List Sh} (h : adOk A ad w.length) (σ : Mem) : va_D A (wd ad σ 0 w) := by
  have key : ∀ (i : Nat) (p : Nat × va_E), (wd ad σ 0 w)[i]? = some p → i < w.length ∧ p.1 = ad i := by
    intro i p hp
    cases hw : w[i]? with
    | none => rw [wd_none hw] at hp; cases hp
    | some s => rw [wd_get0 hw] at hp; cases hp; exact ⟨(List.getElem?_eq_some_iff.mp hw).1, rfl⟩
  refine ⟨fun i j p q hp hq e => ?_, fun k q hk => ?_⟩
  · obtain ⟨h1, e1⟩ := key i p hp
    obtain ⟨h2, e2⟩ := key j q hq
    exact h.1 i j h1 h2 (by rw [← e1, ← e2, e])
  · obtain ⟨h1, e1⟩ := key k q hk
    rw [e1]
    exact h.2 k h1
def AA (ad : Nat → Nat) (n sz : Nat) : Nat → Prop := fun q => (∃ j, j < n ∧ q = ad j) ∨ sz ≤ q
theorem adOk_self {A : Nat → Prop} {ad : Nat → Nat} {n sz : Nat} (h : adOk A ad n) : adOk (AA ad n sz) ad n := ⟨h.1, fun i hi => Or.inl ⟨i, hi, rfl⟩⟩
/-! ===== locals ===== -/
def lcl (lv : List (Option Value)) (i : Nat) : List (Option Value) := match i with
  | 0 => lv
  | k + 1 => match lv[k]? with
    | some (some v) => if v.category = 2 then lv.set k none else lv
    | _ => lv
def lset (lv : List (Option Value)) (i : Nat) (v : Value) : List (Option Value) := (lcl lv i).set i (some v)
def lset2 (lv : List (Option Value)) (i : Nat) (v : Value) : List (Option Value) := ((lcl lv i).set i (some v)).set (i + 1) none
def LH (ls : Array Slot) (nL : Nat) (lv : List (Option Value)) : Prop := ls.size = nL ∧ lv_wf ls ∧ ∀ (i : Nat) (v : Value), lv[i]? = some (some v) → ls[i]? = some (Slot.val v)
def pz : Nat → List (Option Value) → List (Nat × Value)
  | _, [] => []
  | i, none :: t => pz (i + 1) t
  | i, some v :: t => (i, v) :: pz (i + 1) t
theorem pz_mem : ∀ {lv : List (Option Value)} {i0 i : Nat} {v : Value}, (i, v) ∈ pz i0 lv ↔ ∃ k, i = i0 + k ∧ lv[k]? = some (some v)
  | [], i0, i, v => by simp [pz]
  | none :: t, i0, i, v => by
    simp only [pz]
    rw [pz_mem]
    constructor
    · rintro ⟨k, rfl, h⟩
      exact ⟨k + 1, by omega, by simpa using h⟩
    · rintro ⟨k, rfl, h⟩
      cases k with
      | zero => simp at h
      | succ k => exact ⟨k, by omega, by simpa using h⟩
  | some u :: t, i0, i, v => by
    simp only [pz, List.mem_cons, Prod.mk.injEq]
    rw [pz_mem]
    constructor
    · rintro (⟨rfl, rfl⟩ | ⟨k, rfl, h⟩)
      · exact ⟨0, by omega, by simp⟩
      · exact ⟨k + 1, by omega, by simpa using h⟩
    · rintro ⟨k, rfl, h⟩
      cases k with
      | zero => simp at h; exact Or.inl ⟨by omega, h.symm⟩
      | succ k => exact Or.inr ⟨k, by omega, by simpa using h⟩
theorem LH_has {ls : Array Slot} {nL : Nat} {lv : List (Option Value)} (h : LH ls nL lv) : lv_has ls nL (pz 0 lv) := by
  refine ⟨h.1, h.2.1, fun q hq => ?_⟩
  obtain ⟨i, v⟩ := q
  obtain ⟨k, rfl, hk⟩ := pz_mem.mp hq
  rw [Nat.zero_add]
  exact h.2.2 k v hk
theorem LH_at {ls : Array Slot} {nL : Nat} {lv : List (Option Value)} (h : LH ls nL lv) {i : Nat} {v : Value} (hi : lv[i]? = some (some v)) : ls[i]? = some (Slot.val v) := h.2.2 i v hi
theorem lcl_of {lv : List (Option Value)} {i j : Nat} {u : Value} (h1 : (lcl lv i)[j]? = some (some u)) : lv[j]? = some (some u) := by
  cases i with
  | zero => exact h1
  | succ k =>
    unfold lcl at h1
    simp only at h1
    split at h1
    · rename_i w hk
      split at h1
      · by_cases hjk : j = k
        · subst hjk
          rw [List.getElem?_set_self (List.getElem?_eq_some_iff.mp hk).1] at h1
          cases h1
        · rwa [List.getElem?_set_ne (fun q => hjk q.symm)] at h1
      · exact h1
    · exact h1
theorem lcl_cat {lv : List (Option Value)} {i j : Nat} {u : Value} (h1 : (lcl lv i)[j]? = some (some u)) : (j + 1 == i) = false ∨ (u.category == 2) = false := by
  by_cases hj1 : j + 1 = i
  · right
    subst hj1
    unfold lcl at h1
    simp only at h1
    split at h1
    · rename_i w hk
      split at h1
      · rw [List.getElem?_set_self (List.getElem?_eq_some_iff.mp hk).1] at h1
        cases h1
      · rename_i hc
        rw [hk] at h1
        cases h1
        simpa using hc
    · rename_i hk
      exact absurd h1 (hk u)
  · left
    simpa using hj1
theorem LH_set {ls' : Array Slot} {nL i : Nat} {lv : List (Option Value)} {v : Value} (h : lv_has ls' nL ((i, v) :: (pz 0 lv).filter (fun q => !(q.1 == i) && !(q.1 + 1 == i && q.2.category == 2)))) : LH ls' nL (lset lv i v) := by
  refine ⟨h.1, h.2.1, fun j u hj => ?_⟩
  by_cases hji : j = i
  · subst hji
    have hl : j < (lset lv j v).length := (List.getElem?_eq_some_iff.mp hj).1
    unfold lset at hj hl
    rw [List.getElem?_set_self (by simpa using hl)] at hj
    cases hj
    exact h.2.2 (j, _) List.mem_cons_self
  · have h1 : (lcl lv i)[j]? = some (some u) := by
      unfold lset at hj
      rwa [List.getElem?_set_ne (fun q => hji q.symm)] at hj
    refine h.2.2 (j, u) (List.mem_cons_of_mem _ (List.mem_filter.mpr ⟨?_, ?_⟩))
    · exact pz_mem.mpr ⟨j, by omega, lcl_of h1⟩
    · have e1 : (j == i) = false := by simpa using hji
      simp only [e1, Bool.not_false, Bool.true_and, Bool.not_eq_true', Bool.and_eq_false_iff]
      exact lcl_cat h1
end
section
theorem w_mmax : Cond.code Lib.Math.max.name Lib.Math.max.code 2 (some .int) ∈ TB ∧ Cond.static Lib.Math.max.name ∈ TB ∧ Cond.initialized "java/lang/Math" ∈ TB := ⟨w392, w391, w104⟩
theorem w_mmin : Cond.code Lib.Math.min.name Lib.Math.min.code 2 (some .int) ∈ TB ∧ Cond.static Lib.Math.min.name ∈ TB ∧ Cond.initialized "java/lang/Math" ∈ TB := ⟨w389, w388, w104⟩
theorem w_mabs : Cond.code Lib.Math.abs.name Lib.Math.abs.code 1 (some .int) ∈ TB ∧ Cond.static Lib.Math.abs.name ∈ TB ∧ Cond.initialized "java/lang/Math" ∈ TB := ⟨w724, w723, w104⟩
theorem w_acp : Cond.native arraycopyName ∈ TB ∧ Cond.static arraycopyName ∈ TB ∧ Cond.initialized "java/lang/System" ∈ TB := ⟨w693, w692, w110⟩
/-! ===== the judgement Tr: what an instruction at pc does, told by a pure text (an Option) ===== -/
abbrev GG : Type := va_G × (Nat → ClassId)
abbrev CS : Type := Nat × (Nat → Nat) × (Nat → Nat)
def tysOf (g : GG) : List (ClassId × FieldType) := [(g.2 0, .int), (g.2 1, .boolean), (g.2 2, .object "KinInTheHeap$Text"), (g.2 3, .object "KinInTheHeap$Sheet")]
def NW (U : State) : Prop := va_Nw (.methodLinkNest "KinInTheHeap$Floor" 54 { cls := "KinInTheHeap", name := "within", desc := "(III)Z" } "KinInTheHeap") U ∧ va_Nw (.methodLinkNest "KinInTheHeap$Reader" 124 { cls := "KinInTheHeap", name := "within", desc := "(III)Z" } "KinInTheHeap") U
def aboveV (j : Nat) : Int32 := [(-1 : Int32), 0, 0, 1, 2, 0].getD j 0
def strI (i : Nat) : Nat := [100, 102, 104, 106, 108, 110, 112, 114, 116, 118, 120, 122, 78].getD i 0
def strT (i : Nat) : String := ["goes", "frees", "draws", "or", "and", "not", "force", "number", "row", "column", "kin", "week", "();+-*<="].getD i ""
def strL : List Nat := [4, 5, 5, 2, 3, 3, 5, 6, 3, 6, 3, 4, 8]
def strB : List (List Int32) := [[103, 111, 101, 115], [102, 114, 101, 101, 115], [100, 114, 97, 119, 115], [111, 114], [97, 110, 100], [110, 111, 116], [102, 111, 114, 99, 101], [110, 117, 109, 98, 101, 114], [114, 111, 119], [99, 111, 108, 117, 109, 110], [107, 105, 110], [119, 101, 101, 107], [40, 41, 59, 43, 45, 42, 60, 61]]
def ZS (cs : CS) (A : Nat → Prop) (U : State) (H : Heap) : Prop :=
  va_Z "KinInTheHeap" "ABOVE" "[I" (.ref cs.1) A U H ∧ va_T .int cs.1 6 (fun j => .int (aboveV j)) A U H ∧ va_Z "java/lang/String" "COMPACT_STRINGS" "Z" (.int 1) A U H ∧ (∃ v, va_Z "jdk/internal/util/Preconditions" "SIOOBE_FORMATTER" "Ljava/util/function/BiFunction;" v A U H) ∧ vk_S 13 strL strB cs.2.1 cs.2.2 A U H ∧ ∀ i, i < 13 → vk_R "KinInTheHeap$Reader" (strI i) (strT i) (cs.2.1 i) U
def Ev (g : GG) (cs : CS) (A : Nat → Prop) (U : State) (H : Heap) : Prop := va_K g.1 vwCl (tysOf g) U ∧ NW U ∧ ZS cs A U H
theorem Ev.go {g : GG} {cs : CS} {A B : Nat → Prop} {s U : State} {H : Heap} {locs : List Loc} (h : Ev g cs A s s.heap) (hS : va_S A s.heap H locs) (hU : U.heap = H) (hW : s.WarmedH U.vm) (hAB : ∀ q, B q → A q) : Ev g cs B U U.heap := by
  obtain ⟨h1, h2, z1, z2, z3, ⟨v, z4⟩, z5, z6⟩ := h
  rw [hU]
  refine ⟨va_K.moved hW.alike h1, ⟨va_Nw.warmM hW h2.1, va_Nw.warmM hW h2.2⟩, ?_, ?_, ?_, ⟨v, ?_⟩, ?_, ?_⟩
  · exact ((z1.kept hS.2.1).moved hW.alike).narrow hAB
  · exact ((z2.kept hS.2.1).moved hW.alike).narrow hAB
  · exact ((z3.kept hS.2.1).moved hW.alike).narrow hAB
  · exact ((z4.kept hS.2.1).moved hW.alike).narrow hAB
  · exact ((z5.kept hS.2.1).moved hW.alike).narrow hAB
  · exact fun i hi => vk_R.warm hW (z6 i hi)
theorem Ev.blind {g : GG} {cs : CS} {A : Nat → Prop} {U : State} {f : JFrame} {mk : MethodId} {a : Array Value} (h : Ev g cs A U U.heap) : Ev g cs A (U.calling f mk a) (U.calling f mk a).heap := by
  obtain ⟨h1, h2, z1, z2, z3, ⟨v, z4⟩, z5, z6⟩ := h
  have hal : U.vm.Alike (U.calling f mk a).vm := Vm.Alike.refl U.vm
  exact ⟨va_K.moved hal h1, ⟨va_Nw.same rfl rfl h2.1, va_Nw.same rfl rfl h2.2⟩, va_Z.moved hal z1, va_T.moved hal z2, va_Z.moved hal z3, ⟨v, va_Z.moved hal z4⟩, vk_S.moved hal z5, fun i hi => vk_R.same rfl (z6 i hi)⟩
def PreW (g : GG) (cs : CS) (ad : Nat → Nat) (w : List Sh) (σ : Mem) (sz : Nat) (U : State) : Prop := U.heap.size = sz ∧ va_P g.1 vwCl (wd ad σ 0 w) U.heap ∧ Ev g cs (AA ad w.length sz) U U.heap ∧ adOk (fun _ => True) ad w.length
theorem PreW.blind {g : GG} {cs : CS} {ad : Nat → Nat} {w : List Sh} {σ : Mem} {sz : Nat} (av : List Value) : FrameBlind (va_Pc av (PreW g cs ad w σ sz)) := by
  intro a U f mk q
  obtain ⟨e, q0, q1, q2, q3⟩ := q
  exact ⟨e, q0, q1, q2.blind, q3⟩
def CtI (l : Launch) (g : GG) (cs : CS) (ad : Nat → Nat) (w : List Sh) (y : MethodName) (cd : Cond) (rm : Room) (av : List Value) (σ : Mem) (e : Option (Int32 × Mem)) : Prop :=
  ∀ r, e = some r → ∀ sz, Met l y (cd :: TB) rm (va_Pc av (PreW g cs ad w σ sz)) (va_Qi (fun (r' : Int32) (_ : Unit) => r' = r.1) (fun _ t => va_P g.1 vwCl (wd ad r.2 0 w) t.heap) (AA ad w.length sz)) 0 0 (AA ad w.length sz)
def CtL (l : Launch) (g : GG) (cs : CS) (ad : Nat → Nat) (w : List Sh) (y : MethodName) (cd : Cond) (rm : Room) (av : List Value) (σ : Mem) (e : Option (Int64 × Mem)) : Prop :=
  ∀ r, e = some r → ∀ sz, Met l y (cd :: TB) rm (va_Pc av (PreW g cs ad w σ sz)) (va_Ql (fun (r' : Int64) (_ : Unit) => r' = r.1) (fun _ t => va_P g.1 vwCl (wd ad r.2 0 w) t.heap) (AA ad w.length sz)) 0 0 (AA ad w.length sz)
def CtV (l : Launch) (g : GG) (cs : CS) (ad : Nat → Nat) (w : List Sh) (y : MethodName) (cd : Cond) (rm : Room) (av : List Value) (σ : Mem) (e : Option Mem) : Prop :=
  ∀ r, e = some r → ∀ sz, Met l y (cd :: TB) rm (va_Pc av (PreW g cs ad w σ sz)) (va_Qv (fun (_ : Unit) => True) (fun _ t => va_P g.1 vwCl (wd ad r 0 w) t.heap) (AA ad w.length sz)) 0 0 (AA ad w.length sz)
def Cx (p : Program) (R : Room) (s : State) (m : MethodId) (args : Array Value) (c : Code) (cc : ByteArray) (nL : Nat) (own : String) (g : GG) (cs : CS) (ad : Nat → Nat) (w : List Sh) (A : Nat → Prop) : Prop :=
  CallFix p m c cc nL s args TB own ∧ Ev g cs A s s.heap ∧ adOk A ad w.length ∧ (∀ q, s.heap.size ≤ q → A q) ∧ (1 ≤ R.cells + 1)
def Tr {α : Type} (p : Program) (l : Launch) (e : Env) (R : Room) (s : State) (m : MethodId) (args : Array Value) (below : List Frame) (meth : Method) (c : Code) (g : GG) (ad : Nat → Nat) (w : List Sh) (A : Nat → Prop) (nL : Nat) (Q : α → State → Prop) (ex : Option α) (σ : Mem) (pc : Nat) (lv : List (Option Value)) (st : List Value) : Prop :=
  ∀ r, ex = some r → ∀ (H : Heap) (locs : List Loc) (ls : Array Slot), va_P g.1 vwCl (wd ad σ 0 w) H → va_S A s.heap H locs → LH ls nL lv → W p l e R s m args below meth c H locs 0 0 (Q r) (F0 m pc ls st)
def gd {α : Type} (b : Bool) (x : Option α) : Option α := if b then x else none
def inB (i : Int32) (n : Nat) : Bool := decide (0 ≤ i.toInt) && decide (i.toInt < n)
def isB (v : Int32) : Bool := v == 0 || v == 1
def bnd {α β γ : Type} (o : Option (β × γ)) (k : β → γ → Option α) : Option α := match o with
  | some (b, g) => k b g
  | none => none
def bn1 {α β : Type} (o : Option β) (k : β → Option α) : Option α := match o with
  | some b => k b
  | none => none
def pur {β : Type} (o : Option β) (σ : Mem) : Option (β × Mem) := match o with
  | some b => some (b, σ)
  | none => none
def loopN {V α : Type} (b : (V → Option α) → V → Option α) : Nat → V → Option α
  | 0, _ => none
  | n + 1, v => b (loopN b n) v
theorem gd_some {α : Type} {b : Bool} {x : Option α} {r : α} (h : gd b x = some r) : b = true ∧ x = some r := by
  unfold gd at h
  split at h
  · exact ⟨by assumption, h⟩
  · cases h
theorem inB_iff {i : Int32} {n : Nat} : inB i n = true ↔ vp_in i n := by
  rw [vp_in_iff]
  simp [inB]
def rd (σ : Mem) (j : Nat) (i : Int32) : Int32 := σ.1 j i.toNatClampNeg
def wr (σ : Mem) (j : Nat) (i : Int32) (v : Int32) : Mem := putI σ j i.toNatClampNeg v
theorem lt_of_in {i : Int32} {n : Nat} (h : vp_in i n) : i.toNatClampNeg < n := Nat.not_le.mp fun q => h (Or.inr q)
/-- a method's words of the tables -/
def MWV (y : MethodName) (cd : Cond) (C : String) (n : Nat) : Prop := cd ∈ TB ∧ Cond.instanceMethod y ∈ TB ∧ Cond.selects C y y ∈ TB ∧ Cond.initialized C ∈ TB ∧ Cond.initialized y.cls ∈ TB ∧ (y.cls = C ∧ y.cls ≠ "java/lang/invoke/MethodHandle" ∧ y.cls ≠ "java/lang/invoke/VarHandle" ∧ (parseMethodDescriptor y.desc).map (fun d => d.parameters.length) = some n)
def MWS (y : MethodName) (cd : Cond) (n : Nat) : Prop := cd ∈ TB ∧ Cond.static y ∈ TB ∧ Cond.initialized y.cls ∈ TB ∧ (y.cls ≠ "java/lang/invoke/MethodHandle" ∧ y.cls ≠ "java/lang/invoke/VarHandle" ∧ (parseMethodDescriptor y.desc).map (fun d => d.parameters.length) = some n)
theorem goodTB {cd : Cond} (h : cd ∈ TB) : GoodIn TB (cd :: TB) := fun w hw => by
  rcases List.mem_cons.mp hw with rfl | hw
  · exact ⟨h, tb_good h⟩
  · exact ⟨hw, tb_good hw⟩
def QI (g : GG) (ad : Nat → Nat) (w : List Sh) (A : Nat → Prop) (below : List Frame) (args : Array Value) (s : State) : Int32 × Mem → State → Prop := fun q => MQ below (va_Qi (fun (r' : Int32) (_ : Unit) => r' = q.1) (fun _ t => va_P g.1 vwCl (wd ad q.2 0 w) t.heap) A) args s 0 0 A
def QL (g : GG) (ad : Nat → Nat) (w : List Sh) (A : Nat → Prop) (below : List Frame) (args : Array Value) (s : State) : Int64 × Mem → State → Prop := fun q => MQ below (va_Ql (fun (r' : Int64) (_ : Unit) => r' = q.1) (fun _ t => va_P g.1 vwCl (wd ad q.2 0 w) t.heap) A) args s 0 0 A
def QV (g : GG) (ad : Nat → Nat) (w : List Sh) (A : Nat → Prop) (below : List Frame) (args : Array Value) (s : State) : Mem → State → Prop := fun q => MQ below (va_Qv (fun (_ : Unit) => True) (fun _ t => va_P g.1 vwCl (wd ad q 0 w) t.heap) A) args s 0 0 A
def QP (g : GG) (ad : Nat → Nat) (w : List Sh) (A : Nat → Prop) (below : List Frame) (args : Array Value) (s : State) (σ : Mem) : Int32 → State → Prop := fun q => MQ below (va_Qi (fun (r' : Int32) (_ : Unit) => r' = q) (fun _ t => va_P g.1 vwCl (wd ad σ 0 w) t.heap) A) args s 0 0 A
def QPL (g : GG) (ad : Nat → Nat) (w : List Sh) (A : Nat → Prop) (below : List Frame) (args : Array Value) (s : State) (σ : Mem) : Int64 → State → Prop := fun q => MQ below (va_Ql (fun (r' : Int64) (_ : Unit) => r' = q) (fun _ t => va_P g.1 vwCl (wd ad σ 0 w) t.heap) A) args s 0 0 A
def cpOk (sp dp n : Int32) (n0 n1 : Nat) : Bool := decide (0 ≤ sp.toInt) && (decide (0 ≤ dp.toInt) && (decide (0 ≤ n.toInt) && (decide (sp.toNatClampNeg + n.toNatClampNeg ≤ n0) && decide (dp.toNatClampNeg + n.toNatClampNeg ≤ n1))))
def cpy (σ : Mem) (j0 : Nat) (sp : Int32) (j1 : Nat) (dp n : Int32) : Mem := putR σ j1 (va_cpy (σ.1 j0) (σ.1 j1) sp.toNatClampNeg dp.toNatClampNeg n.toNatClampNeg)
theorem cpOk_of {sp dp n : Int32} {n0 n1 : Nat} (h : cpOk sp dp n n0 n1 = true) : ¬ sp < 0 ∧ ¬ dp < 0 ∧ ¬ n < 0 ∧ sp.toNatClampNeg + n.toNatClampNeg ≤ n0 ∧ dp.toNatClampNeg + n.toNatClampNeg ≤ n1 := by
  simp only [cpOk, Bool.and_eq_true, decide_eq_true_eq] at h
  obtain ⟨h1, h2, h3, h4, h5⟩ := h
  refine ⟨?_, ?_, ?_, h4, h5⟩ <;> (rw [Int32.lt_iff_toInt_lt]; simp; assumption)
theorem isB_nar {v : Int32} (h : isB v = true) : narrow .boolean (.int v) = .int v := by
  simp only [isB, Bool.or_eq_true, beq_iff_eq] at h
  rcases h with rfl | rfl <;> rfl
theorem fits_I (v : Int32) : fits .int (.int v) = true := rfl
theorem fits_L (v : Int64) : fits .long (.long v) = true := rfl
theorem fits_Z (v : Int32) (hn : narrow .boolean (.int v) = .int v) : fits .boolean (.int v) = true := by
  have h2 : v &&& 1 = v := Value.int.inj hn
  show (v == 0 || v == 1) = true
  simp only [Bool.or_eq_true, beq_iff_eq]
  have h3 : v.toBitVec &&& 1#32 = v.toBitVec := congrArg Int32.toBitVec h2
  have h4 : v.toBitVec.toNat % 2 = v.toBitVec.toNat := by
    have := congrArg BitVec.toNat h3
    simpa [BitVec.toNat_and, Nat.and_one_is_mod] using this
  rcases Nat.mod_two_eq_zero_or_one v.toBitVec.toNat with q | q
  · left
    apply Int32.toBitVec_inj.mp
    apply BitVec.eq_of_toNat_eq
    rw [← h4, q]
    rfl
  · right
    apply Int32.toBitVec_inj.mp
    apply BitVec.eq_of_toNat_eq
    rw [← h4, q]
    rfl
theorem LH_set2 {ls' : Array Slot} {nL i : Nat} {lv : List (Option Value)} {v : Value} (h : lv_has ls' nL ((i, v) :: (pz 0 lv).filter (fun q => !(q.1 == i) && (!(q.1 == i + 1) && !(q.1 + 1 == i && q.2.category == 2))))) : LH ls' nL (lset2 lv i v) := by
  have h1 : LH ls' nL (((lset lv i v).set (i + 1) none)) := by
    refine ⟨h.1, h.2.1, fun j u hj => ?_⟩
    by_cases hj2 : j = i + 1
    · subst hj2
      have hl : i + 1 < ((lset lv i v).set (i + 1) none).length := (List.getElem?_eq_some_iff.mp hj).1
      rw [List.getElem?_set_self (by simpa using hl)] at hj
      cases hj
    · rw [List.getElem?_set_ne (fun q => hj2 q.symm)] at hj
      by_cases hji : j = i
      · subst hji
        have hl : j < (lset lv j v).length := (List.getElem?_eq_some_iff.mp hj).1
        unfold lset at hj hl
        rw [List.getElem?_set_self (by simpa using hl)] at hj
        cases hj
        exact h.2.2 (j, _) List.mem_cons_self
      · have h1 : (lcl lv i)[j]? = some (some u) := by
          unfold lset at hj
          rwa [List.getElem?_set_ne (fun q => hji q.symm)] at hj
        refine h.2.2 (j, u) (List.mem_cons_of_mem _ (List.mem_filter.mpr ⟨?_, ?_⟩))
        · refine pz_mem.mpr ⟨j, by omega, ?_⟩
          exact lcl_of h1
        · have e1 : (j == i) = false := by simpa using hji
          have e2 : (j == i + 1) = false := by simpa using hj2
          simp only [e1, e2, Bool.not_false, Bool.true_and, Bool.not_eq_true', Bool.and_eq_false_iff]
          exact lcl_cat h1
  exact h1

section TR
variable {α : Type} {p : Program} {l : Launch} {e : Env} {R : Room} {s : State} {m : MethodId} {args : Array Value} {below : List Frame} {meth : Method} {c : Code} {g : GG} {cs : CS} {ad : Nat → Nat} {w : List Sh} {A : Nat → Prop} {nL : Nat} {Q : α → State → Prop} {ex : Option α} {σ : Mem} {pc : Nat} {lv : List (Option Value)} {st : List Value} {cc : ByteArray} {own : String}

theorem tr_iconst (C : Cx p R s m args c cc nL own g cs ad w A) {n : Int} {v : Int32} (hd : decode cc pc = .ok (.iconst n, 1)) (hv : Int32.ofInt n = v) (kk : Tr p l e R s m args below meth c g ad w A nL Q (ex) (σ) (pc + 1) (lv) (.int v :: st)) : Tr p l e R s m args below meth c g ad w A nL Q (ex) (σ) (pc) (lv) (st) := fun r hr H locs ls hP hS hL => lv_iconst C.1.1 C.1.2.1 hd hv (kk r hr H locs ls hP hS hL)
theorem tr_bipush (C : Cx p R s m args c cc nL own g cs ad w A) {n : Int} {v : Int32} (hd : decode cc pc = .ok (.bipush n, 2)) (hv : (Int8.ofInt n).toInt32 = v) (kk : Tr p l e R s m args below meth c g ad w A nL Q (ex) (σ) (pc + 2) (lv) (.int v :: st)) : Tr p l e R s m args below meth c g ad w A nL Q (ex) (σ) (pc) (lv) (st) := fun r hr H locs ls hP hS hL => lv_bipush C.1.1 C.1.2.1 hd hv (kk r hr H locs ls hP hS hL)
theorem tr_sipush (C : Cx p R s m args c cc nL own g cs ad w A) {n : Int} {v : Int32} (hd : decode cc pc = .ok (.sipush n, 3)) (hv : (Int16.ofInt n).toInt32 = v) (kk : Tr p l e R s m args below meth c g ad w A nL Q (ex) (σ) (pc + 3) (lv) (.int v :: st)) : Tr p l e R s m args below meth c g ad w A nL Q (ex) (σ) (pc) (lv) (st) := fun r hr H locs ls hP hS hL => lv_sipush C.1.1 C.1.2.1 hd hv (kk r hr H locs ls hP hS hL)
theorem tr_lconst (C : Cx p R s m args c cc nL own g cs ad w A) {n : Fin 2} {v : Int64} (hd : decode cc pc = .ok (.lconst n, 1)) (hv : Int64.ofNat (n : Nat) = v) (kk : Tr p l e R s m args below meth c g ad w A nL Q (ex) (σ) (pc + 1) (lv) (.long v :: st)) : Tr p l e R s m args below meth c g ad w A nL Q (ex) (σ) (pc) (lv) (st) := fun r hr H locs ls hP hS hL => lv_lconst C.1.1 C.1.2.1 hd hv (kk r hr H locs ls hP hS hL)
theorem tr_ldc (C : Cx p R s m args c cc nL own g cs ad w A) {i : Nat} {v : Int32} (hw : Cond.constant own i v ∈ TB) (hd : decode cc pc = .ok (.ldc i, 2)) (kk : Tr p l e R s m args below meth c g ad w A nL Q (ex) (σ) (pc + 2) (lv) (.int v :: st)) : Tr p l e R s m args below meth c g ad w A nL Q (ex) (σ) (pc) (lv) (st) := fun r hr H locs ls hP hS hL => lv_ldc C.1.1 C.1.2.1 C.1.2.2.2.1 (C.1.2.2.2.2 _ hw) hd (kk r hr H locs ls hP hS hL)
theorem tr_ldcw (C : Cx p R s m args c cc nL own g cs ad w A) {i : Nat} {v : Int32} (hw : Cond.constant own i v ∈ TB) (hd : decode cc pc = .ok (.ldc_w i, 3)) (kk : Tr p l e R s m args below meth c g ad w A nL Q (ex) (σ) (pc + 3) (lv) (.int v :: st)) : Tr p l e R s m args below meth c g ad w A nL Q (ex) (σ) (pc) (lv) (st) := fun r hr H locs ls hP hS hL => lv_ldcw C.1.1 C.1.2.1 C.1.2.2.2.1 (C.1.2.2.2.2 _ hw) hd (kk r hr H locs ls hP hS hL)
theorem tr_ldc2 (C : Cx p R s m args c cc nL own g cs ad w A) {i : Nat} {v : Int64} (hw : Cond.constantLong own i v ∈ TB) (hd : decode cc pc = .ok (.ldc2_w i, 3)) (kk : Tr p l e R s m args below meth c g ad w A nL Q (ex) (σ) (pc + 3) (lv) (.long v :: st)) : Tr p l e R s m args below meth c g ad w A nL Q (ex) (σ) (pc) (lv) (st) := fun r hr H locs ls hP hS hL => lv_ldc2 C.1.1 C.1.2.1 C.1.2.2.2.1 (C.1.2.2.2.2 _ hw) hd (kk r hr H locs ls hP hS hL)
theorem tr_iload_n (C : Cx p R s m args c cc nL own g cs ad w A) {k : Fin 4} {i : Nat} {x : Int32} (hd : decode cc pc = .ok (.iload_n k, 1)) (hi : (k : Nat) = i) (hl : lv[i]? = some (some (.int x))) (kk : Tr p l e R s m args below meth c g ad w A nL Q (ex) (σ) (pc + 1) (lv) (.int x :: st)) : Tr p l e R s m args below meth c g ad w A nL Q (ex) (σ) (pc) (lv) (st) := fun r hr H locs ls hP hS hL => lv_iload_n C.1.1 C.1.2.1 hd hi (LH_at hL hl) (kk r hr H locs ls hP hS hL)
theorem tr_iload (C : Cx p R s m args c cc nL own g cs ad w A) {i : Nat} {x : Int32} (hd : decode cc pc = .ok (.iload i, 2)) (hl : lv[i]? = some (some (.int x))) (kk : Tr p l e R s m args below meth c g ad w A nL Q (ex) (σ) (pc + 2) (lv) (.int x :: st)) : Tr p l e R s m args below meth c g ad w A nL Q (ex) (σ) (pc) (lv) (st) := fun r hr H locs ls hP hS hL => lv_iload C.1.1 C.1.2.1 hd (LH_at hL hl) (kk r hr H locs ls hP hS hL)
theorem tr_lload_n (C : Cx p R s m args c cc nL own g cs ad w A) {k : Fin 4} {i : Nat} {x : Int64} (hd : decode cc pc = .ok (.lload_n k, 1)) (hi : (k : Nat) = i) (hl : lv[i]? = some (some (.long x))) (kk : Tr p l e R s m args below meth c g ad w A nL Q (ex) (σ) (pc + 1) (lv) (.long x :: st)) : Tr p l e R s m args below meth c g ad w A nL Q (ex) (σ) (pc) (lv) (st) := fun r hr H locs ls hP hS hL => lv_lload_n C.1.1 C.1.2.1 hd hi (LH_at hL hl) (kk r hr H locs ls hP hS hL)
theorem tr_lload (C : Cx p R s m args c cc nL own g cs ad w A) {i : Nat} {x : Int64} (hd : decode cc pc = .ok (.lload i, 2)) (hl : lv[i]? = some (some (.long x))) (kk : Tr p l e R s m args below meth c g ad w A nL Q (ex) (σ) (pc + 2) (lv) (.long x :: st)) : Tr p l e R s m args below meth c g ad w A nL Q (ex) (σ) (pc) (lv) (st) := fun r hr H locs ls hP hS hL => lv_lload C.1.1 C.1.2.1 hd (LH_at hL hl) (kk r hr H locs ls hP hS hL)
theorem tr_aload_n (C : Cx p R s m args c cc nL own g cs ad w A) {k : Fin 4} {i : Nat} {a : Nat} (hd : decode cc pc = .ok (.aload_n k, 1)) (hi : (k : Nat) = i) (hl : lv[i]? = some (some (.ref a))) (kk : Tr p l e R s m args below meth c g ad w A nL Q (ex) (σ) (pc + 1) (lv) (.ref a :: st)) : Tr p l e R s m args below meth c g ad w A nL Q (ex) (σ) (pc) (lv) (st) := fun r hr H locs ls hP hS hL => lv_aload_n C.1.1 C.1.2.1 hd hi (LH_at hL hl) (kk r hr H locs ls hP hS hL)
theorem tr_aload (C : Cx p R s m args c cc nL own g cs ad w A) {i : Nat} {a : Nat} (hd : decode cc pc = .ok (.aload i, 2)) (hl : lv[i]? = some (some (.ref a))) (kk : Tr p l e R s m args below meth c g ad w A nL Q (ex) (σ) (pc + 2) (lv) (.ref a :: st)) : Tr p l e R s m args below meth c g ad w A nL Q (ex) (σ) (pc) (lv) (st) := fun r hr H locs ls hP hS hL => lv_aload C.1.1 C.1.2.1 hd (LH_at hL hl) (kk r hr H locs ls hP hS hL)
theorem tr_istore_n (C : Cx p R s m args c cc nL own g cs ad w A) {k : Fin 4} {i : Nat} {x : Int32} {lv' : List (Option Value)} (hd : decode cc pc = .ok (.istore_n k, 1)) (hi : (k : Nat) = i) (hn : i < nL) (hl : lset lv i (.int x) = lv') (kk : Tr p l e R s m args below meth c g ad w A nL Q (ex) (σ) (pc + 1) (lv') (st)) : Tr p l e R s m args below meth c g ad w A nL Q (ex) (σ) (pc) (lv) (.int x :: st) := fun r hr H locs ls hP hS hL => lv_istore_n C.1.1 C.1.2.1 hd hi (LH_has hL) hn rfl (fun ls' hL' => kk r hr H locs ls' hP hS (hl ▸ LH_set hL'))
theorem tr_istore (C : Cx p R s m args c cc nL own g cs ad w A) {i : Nat} {x : Int32} {lv' : List (Option Value)} (hd : decode cc pc = .ok (.istore i, 2)) (hn : i < nL) (hl : lset lv i (.int x) = lv') (kk : Tr p l e R s m args below meth c g ad w A nL Q (ex) (σ) (pc + 2) (lv') (st)) : Tr p l e R s m args below meth c g ad w A nL Q (ex) (σ) (pc) (lv) (.int x :: st) := fun r hr H locs ls hP hS hL => lv_istore C.1.1 C.1.2.1 hd (LH_has hL) hn rfl (fun ls' hL' => kk r hr H locs ls' hP hS (hl ▸ LH_set hL'))
theorem tr_astore_n (C : Cx p R s m args c cc nL own g cs ad w A) {k : Fin 4} {i : Nat} {x : Nat} {lv' : List (Option Value)} (hd : decode cc pc = .ok (.astore_n k, 1)) (hi : (k : Nat) = i) (hn : i < nL) (hl : lset lv i (.ref x) = lv') (kk : Tr p l e R s m args below meth c g ad w A nL Q (ex) (σ) (pc + 1) (lv') (st)) : Tr p l e R s m args below meth c g ad w A nL Q (ex) (σ) (pc) (lv) (.ref x :: st) := fun r hr H locs ls hP hS hL => lv_astore_n C.1.1 C.1.2.1 hd hi (LH_has hL) hn rfl (fun ls' hL' => kk r hr H locs ls' hP hS (hl ▸ LH_set hL'))
theorem tr_astore (C : Cx p R s m args c cc nL own g cs ad w A) {i : Nat} {x : Nat} {lv' : List (Option Value)} (hd : decode cc pc = .ok (.astore i, 2)) (hn : i < nL) (hl : lset lv i (.ref x) = lv') (kk : Tr p l e R s m args below meth c g ad w A nL Q (ex) (σ) (pc + 2) (lv') (st)) : Tr p l e R s m args below meth c g ad w A nL Q (ex) (σ) (pc) (lv) (.ref x :: st) := fun r hr H locs ls hP hS hL => lv_astore C.1.1 C.1.2.1 hd (LH_has hL) hn rfl (fun ls' hL' => kk r hr H locs ls' hP hS (hl ▸ LH_set hL'))
theorem tr_lstore_n (C : Cx p R s m args c cc nL own g cs ad w A) {k : Fin 4} {i : Nat} {x : Int64} {lv' : List (Option Value)} (hd : decode cc pc = .ok (.lstore_n k, 1)) (hi : (k : Nat) = i) (hn : i + 1 < nL) (hl : lset2 lv i (.long x) = lv') (kk : Tr p l e R s m args below meth c g ad w A nL Q (ex) (σ) (pc + 1) (lv') (st)) : Tr p l e R s m args below meth c g ad w A nL Q (ex) (σ) (pc) (lv) (.long x :: st) := fun r hr H locs ls hP hS hL => lv_lstore_n C.1.1 C.1.2.1 hd hi (LH_has hL) hn rfl (fun ls' hL' => kk r hr H locs ls' hP hS (hl ▸ LH_set2 hL'))
theorem tr_lstore (C : Cx p R s m args c cc nL own g cs ad w A) {i : Nat} {x : Int64} {lv' : List (Option Value)} (hd : decode cc pc = .ok (.lstore i, 2)) (hn : i + 1 < nL) (hl : lset2 lv i (.long x) = lv') (kk : Tr p l e R s m args below meth c g ad w A nL Q (ex) (σ) (pc + 2) (lv') (st)) : Tr p l e R s m args below meth c g ad w A nL Q (ex) (σ) (pc) (lv) (.long x :: st) := fun r hr H locs ls hP hS hL => lv_lstore C.1.1 C.1.2.1 hd (LH_has hL) hn rfl (fun ls' hL' => kk r hr H locs ls' hP hS (hl ▸ LH_set2 hL'))
theorem tr_iinc (C : Cx p R s m args c cc nL own g cs ad w A) {i : Nat} {n : Int} {d x : Int32} {lv' : List (Option Value)} (hd : decode cc pc = .ok (.iinc i n, 3)) (hx : lv[i]? = some (some (.int x))) (hv : Int32.ofInt n = d) (hn : i < nL) (hl : lset lv i (.int (x + d)) = lv') (kk : Tr p l e R s m args below meth c g ad w A nL Q (ex) (σ) (pc + 3) (lv') (st)) : Tr p l e R s m args below meth c g ad w A nL Q (ex) (σ) (pc) (lv) (st) := fun r hr H locs ls hP hS hL => by
  obtain ⟨k, hk⟩ := List.getElem?_of_mem (pz_mem.mpr ⟨i, (Nat.zero_add i).symm, hx⟩ : (i, Value.int x) ∈ pz 0 lv)
  exact lv_iinc (v := x + d) C.1.1 C.1.2.1 hd (LH_has hL) hk (by rw [hv]) hn rfl (fun ls' hL' => kk r hr H locs ls' hP hS (hl ▸ LH_set hL'))
theorem tr_iadd (C : Cx p R s m args c cc nL own g cs ad w A) {x y : Int32} (hd : decode cc pc = .ok (.iadd, 1))  (kk : Tr p l e R s m args below meth c g ad w A nL Q (ex) (σ) (pc + 1) (lv) (.int (x + y) :: st)) : Tr p l e R s m args below meth c g ad w A nL Q (ex) (σ) (pc) (lv) (.int y :: .int x :: st) := fun r hr H locs ls hP hS hL => lv_iadd C.1.1 C.1.2.1 hd  (kk r hr H locs ls hP hS hL)
theorem tr_isub (C : Cx p R s m args c cc nL own g cs ad w A) {x y : Int32} (hd : decode cc pc = .ok (.isub, 1))  (kk : Tr p l e R s m args below meth c g ad w A nL Q (ex) (σ) (pc + 1) (lv) (.int (x - y) :: st)) : Tr p l e R s m args below meth c g ad w A nL Q (ex) (σ) (pc) (lv) (.int y :: .int x :: st) := fun r hr H locs ls hP hS hL => lv_isub C.1.1 C.1.2.1 hd  (kk r hr H locs ls hP hS hL)
theorem tr_imul (C : Cx p R s m args c cc nL own g cs ad w A) {x y : Int32} (hd : decode cc pc = .ok (.imul, 1))  (kk : Tr p l e R s m args below meth c g ad w A nL Q (ex) (σ) (pc + 1) (lv) (.int (x * y) :: st)) : Tr p l e R s m args below meth c g ad w A nL Q (ex) (σ) (pc) (lv) (.int y :: .int x :: st) := fun r hr H locs ls hP hS hL => lv_imul C.1.1 C.1.2.1 hd  (kk r hr H locs ls hP hS hL)
theorem tr_iand (C : Cx p R s m args c cc nL own g cs ad w A) {x y : Int32} (hd : decode cc pc = .ok (.iand, 1))  (kk : Tr p l e R s m args below meth c g ad w A nL Q (ex) (σ) (pc + 1) (lv) (.int (x &&& y) :: st)) : Tr p l e R s m args below meth c g ad w A nL Q (ex) (σ) (pc) (lv) (.int y :: .int x :: st) := fun r hr H locs ls hP hS hL => lv_iand C.1.1 C.1.2.1 hd  (kk r hr H locs ls hP hS hL)
theorem tr_ior (C : Cx p R s m args c cc nL own g cs ad w A) {x y : Int32} (hd : decode cc pc = .ok (.ior, 1))  (kk : Tr p l e R s m args below meth c g ad w A nL Q (ex) (σ) (pc + 1) (lv) (.int (x ||| y) :: st)) : Tr p l e R s m args below meth c g ad w A nL Q (ex) (σ) (pc) (lv) (.int y :: .int x :: st) := fun r hr H locs ls hP hS hL => lv_ior C.1.1 C.1.2.1 hd  (kk r hr H locs ls hP hS hL)
theorem tr_ixor (C : Cx p R s m args c cc nL own g cs ad w A) {x y : Int32} (hd : decode cc pc = .ok (.ixor, 1))  (kk : Tr p l e R s m args below meth c g ad w A nL Q (ex) (σ) (pc + 1) (lv) (.int (x ^^^ y) :: st)) : Tr p l e R s m args below meth c g ad w A nL Q (ex) (σ) (pc) (lv) (.int y :: .int x :: st) := fun r hr H locs ls hP hS hL => lv_ixor C.1.1 C.1.2.1 hd  (kk r hr H locs ls hP hS hL)
theorem tr_ishl (C : Cx p R s m args c cc nL own g cs ad w A) {x y : Int32} (hd : decode cc pc = .ok (.ishl, 1))  (kk : Tr p l e R s m args below meth c g ad w A nL Q (ex) (σ) (pc + 1) (lv) (.int (x <<< (y &&& 31)) :: st)) : Tr p l e R s m args below meth c g ad w A nL Q (ex) (σ) (pc) (lv) (.int y :: .int x :: st) := fun r hr H locs ls hP hS hL => lv_ishl C.1.1 C.1.2.1 hd  (kk r hr H locs ls hP hS hL)
theorem tr_ishr (C : Cx p R s m args c cc nL own g cs ad w A) {x y : Int32} (hd : decode cc pc = .ok (.ishr, 1))  (kk : Tr p l e R s m args below meth c g ad w A nL Q (ex) (σ) (pc + 1) (lv) (.int (x >>> (y &&& 31)) :: st)) : Tr p l e R s m args below meth c g ad w A nL Q (ex) (σ) (pc) (lv) (.int y :: .int x :: st) := fun r hr H locs ls hP hS hL => lv_ishr C.1.1 C.1.2.1 hd  (kk r hr H locs ls hP hS hL)
theorem tr_ladd (C : Cx p R s m args c cc nL own g cs ad w A) {x y : Int64} (hd : decode cc pc = .ok (.ladd, 1))  (kk : Tr p l e R s m args below meth c g ad w A nL Q (ex) (σ) (pc + 1) (lv) (.long (x + y) :: st)) : Tr p l e R s m args below meth c g ad w A nL Q (ex) (σ) (pc) (lv) (.long y :: .long x :: st) := fun r hr H locs ls hP hS hL => lv_ladd C.1.1 C.1.2.1 hd  (kk r hr H locs ls hP hS hL)
theorem tr_lsub (C : Cx p R s m args c cc nL own g cs ad w A) {x y : Int64} (hd : decode cc pc = .ok (.lsub, 1))  (kk : Tr p l e R s m args below meth c g ad w A nL Q (ex) (σ) (pc + 1) (lv) (.long (x - y) :: st)) : Tr p l e R s m args below meth c g ad w A nL Q (ex) (σ) (pc) (lv) (.long y :: .long x :: st) := fun r hr H locs ls hP hS hL => lv_lsub C.1.1 C.1.2.1 hd  (kk r hr H locs ls hP hS hL)
theorem tr_lmul (C : Cx p R s m args c cc nL own g cs ad w A) {x y : Int64} (hd : decode cc pc = .ok (.lmul, 1))  (kk : Tr p l e R s m args below meth c g ad w A nL Q (ex) (σ) (pc + 1) (lv) (.long (x * y) :: st)) : Tr p l e R s m args below meth c g ad w A nL Q (ex) (σ) (pc) (lv) (.long y :: .long x :: st) := fun r hr H locs ls hP hS hL => lv_lmul C.1.1 C.1.2.1 hd  (kk r hr H locs ls hP hS hL)
theorem tr_land (C : Cx p R s m args c cc nL own g cs ad w A) {x y : Int64} (hd : decode cc pc = .ok (.land, 1))  (kk : Tr p l e R s m args below meth c g ad w A nL Q (ex) (σ) (pc + 1) (lv) (.long (x &&& y) :: st)) : Tr p l e R s m args below meth c g ad w A nL Q (ex) (σ) (pc) (lv) (.long y :: .long x :: st) := fun r hr H locs ls hP hS hL => lv_land C.1.1 C.1.2.1 hd  (kk r hr H locs ls hP hS hL)
theorem tr_lor (C : Cx p R s m args c cc nL own g cs ad w A) {x y : Int64} (hd : decode cc pc = .ok (.lor, 1))  (kk : Tr p l e R s m args below meth c g ad w A nL Q (ex) (σ) (pc + 1) (lv) (.long (x ||| y) :: st)) : Tr p l e R s m args below meth c g ad w A nL Q (ex) (σ) (pc) (lv) (.long y :: .long x :: st) := fun r hr H locs ls hP hS hL => lv_lor C.1.1 C.1.2.1 hd  (kk r hr H locs ls hP hS hL)
theorem tr_lxor (C : Cx p R s m args c cc nL own g cs ad w A) {x y : Int64} (hd : decode cc pc = .ok (.lxor, 1))  (kk : Tr p l e R s m args below meth c g ad w A nL Q (ex) (σ) (pc + 1) (lv) (.long (x ^^^ y) :: st)) : Tr p l e R s m args below meth c g ad w A nL Q (ex) (σ) (pc) (lv) (.long y :: .long x :: st) := fun r hr H locs ls hP hS hL => lv_lxor C.1.1 C.1.2.1 hd  (kk r hr H locs ls hP hS hL)
theorem tr_ineg (C : Cx p R s m args c cc nL own g cs ad w A) {x : Int32} (hd : decode cc pc = .ok (.ineg, 1))  (kk : Tr p l e R s m args below meth c g ad w A nL Q (ex) (σ) (pc + 1) (lv) (.int (-x) :: st)) : Tr p l e R s m args below meth c g ad w A nL Q (ex) (σ) (pc) (lv) (.int x :: st) := fun r hr H locs ls hP hS hL => lv_ineg C.1.1 C.1.2.1 hd  (kk r hr H locs ls hP hS hL)
theorem tr_iushr (C : Cx p R s m args c cc nL own g cs ad w A) {x y : Int32} (hd : decode cc pc = .ok (.iushr, 1))  (kk : Tr p l e R s m args below meth c g ad w A nL Q (ex) (σ) (pc + 1) (lv) (.int ((x.toUInt32 >>> (y.toUInt32 &&& Int32.toUInt32 31)).toInt32) :: st)) : Tr p l e R s m args below meth c g ad w A nL Q (ex) (σ) (pc) (lv) (.int y :: .int x :: st) := fun r hr H locs ls hP hS hL => lv_iushr C.1.1 C.1.2.1 hd rfl (kk r hr H locs ls hP hS hL)
theorem tr_lshl (C : Cx p R s m args c cc nL own g cs ad w A) {x : Int64} {y : Int32} (hd : decode cc pc = .ok (.lshl, 1))  (kk : Tr p l e R s m args below meth c g ad w A nL Q (ex) (σ) (pc + 1) (lv) (.long (x <<< (y.toInt64 &&& 63)) :: st)) : Tr p l e R s m args below meth c g ad w A nL Q (ex) (σ) (pc) (lv) (.int y :: .long x :: st) := fun r hr H locs ls hP hS hL => lv_lshl C.1.1 C.1.2.1 hd rfl (kk r hr H locs ls hP hS hL)
theorem tr_lushr (C : Cx p R s m args c cc nL own g cs ad w A) {x : Int64} {y : Int32} (hd : decode cc pc = .ok (.lushr, 1))  (kk : Tr p l e R s m args below meth c g ad w A nL Q (ex) (σ) (pc + 1) (lv) (.long ((x.toUInt64 >>> (y.toInt64.toUInt64 &&& Int64.toUInt64 63)).toInt64) :: st)) : Tr p l e R s m args below meth c g ad w A nL Q (ex) (σ) (pc) (lv) (.int y :: .long x :: st) := fun r hr H locs ls hP hS hL => lv_lushr C.1.1 C.1.2.1 hd rfl (kk r hr H locs ls hP hS hL)
theorem tr_i2b (C : Cx p R s m args c cc nL own g cs ad w A) {x : Int32} (hd : decode cc pc = .ok (.i2b, 1))  (kk : Tr p l e R s m args below meth c g ad w A nL Q (ex) (σ) (pc + 1) (lv) (.int x.toInt8.toInt32 :: st)) : Tr p l e R s m args below meth c g ad w A nL Q (ex) (σ) (pc) (lv) (.int x :: st) := fun r hr H locs ls hP hS hL => lv_i2b C.1.1 C.1.2.1 hd rfl (kk r hr H locs ls hP hS hL)
theorem tr_i2s (C : Cx p R s m args c cc nL own g cs ad w A) {x : Int32} (hd : decode cc pc = .ok (.i2s, 1))  (kk : Tr p l e R s m args below meth c g ad w A nL Q (ex) (σ) (pc + 1) (lv) (.int x.toInt16.toInt32 :: st)) : Tr p l e R s m args below meth c g ad w A nL Q (ex) (σ) (pc) (lv) (.int x :: st) := fun r hr H locs ls hP hS hL => lv_i2s C.1.1 C.1.2.1 hd rfl (kk r hr H locs ls hP hS hL)
theorem tr_i2c (C : Cx p R s m args c cc nL own g cs ad w A) {x : Int32} (hd : decode cc pc = .ok (.i2c, 1))  (kk : Tr p l e R s m args below meth c g ad w A nL Q (ex) (σ) (pc + 1) (lv) (.int ((x.toUInt32 % 65536).toInt32) :: st)) : Tr p l e R s m args below meth c g ad w A nL Q (ex) (σ) (pc) (lv) (.int x :: st) := fun r hr H locs ls hP hS hL => lv_i2c C.1.1 C.1.2.1 hd rfl (kk r hr H locs ls hP hS hL)
theorem tr_i2l (C : Cx p R s m args c cc nL own g cs ad w A) {x : Int32} (hd : decode cc pc = .ok (.i2l, 1))  (kk : Tr p l e R s m args below meth c g ad w A nL Q (ex) (σ) (pc + 1) (lv) (.long x.toInt64 :: st)) : Tr p l e R s m args below meth c g ad w A nL Q (ex) (σ) (pc) (lv) (.int x :: st) := fun r hr H locs ls hP hS hL => lv_i2l C.1.1 C.1.2.1 hd rfl (kk r hr H locs ls hP hS hL)
theorem tr_l2i (C : Cx p R s m args c cc nL own g cs ad w A) {x : Int64} (hd : decode cc pc = .ok (.l2i, 1))  (kk : Tr p l e R s m args below meth c g ad w A nL Q (ex) (σ) (pc + 1) (lv) (.int x.toInt32 :: st)) : Tr p l e R s m args below meth c g ad w A nL Q (ex) (σ) (pc) (lv) (.long x :: st) := fun r hr H locs ls hP hS hL => lv_l2i C.1.1 C.1.2.1 hd rfl (kk r hr H locs ls hP hS hL)
theorem tr_dup (C : Cx p R s m args c cc nL own g cs ad w A) {v : Value} (hd : decode cc pc = .ok (.dup, 1)) (hv : v.category = 1) (kk : Tr p l e R s m args below meth c g ad w A nL Q (ex) (σ) (pc + 1) (lv) (v :: v :: st)) : Tr p l e R s m args below meth c g ad w A nL Q (ex) (σ) (pc) (lv) (v :: st) := fun r hr H locs ls hP hS hL => lv_dup C.1.1 C.1.2.1 hd hv (kk r hr H locs ls hP hS hL)
theorem tr_pop (C : Cx p R s m args c cc nL own g cs ad w A) {v : Value} (hd : decode cc pc = .ok (.pop, 1)) (hv : v.category = 1) (kk : Tr p l e R s m args below meth c g ad w A nL Q (ex) (σ) (pc + 1) (lv) (st)) : Tr p l e R s m args below meth c g ad w A nL Q (ex) (σ) (pc) (lv) (v :: st) := fun r hr H locs ls hP hS hL => lv_pop C.1.1 C.1.2.1 hd hv (kk r hr H locs ls hP hS hL)
theorem tr_lcmp (C : Cx p R s m args c cc nL own g cs ad w A) {x y : Int64} (hd : decode cc pc = .ok (.lcmp, 1)) (kk : Tr p l e R s m args below meth c g ad w A nL Q (ex) (σ) (pc + 1) (lv) (.int (lg_cmp x y) :: st)) : Tr p l e R s m args below meth c g ad w A nL Q (ex) (σ) (pc) (lv) (.long y :: .long x :: st) := fun r hr H locs ls hP hS hL => W.lcmp C.1.1 C.1.2.1 hd (kk r hr H locs ls hP hS hL)
theorem tr_idiv (C : Cx p R s m args c cc nL own g cs ad w A) {x y : Int32} (hd : decode cc pc = .ok (.idiv, 1)) (kk : ¬ y = 0 → Tr p l e R s m args below meth c g ad w A nL Q (ex) (σ) (pc + 1) (lv) (.int (x / y) :: st)) : Tr p l e R s m args below meth c g ad w A nL Q (gd (!(y == 0)) ex) (σ) (pc) (lv) (.int y :: .int x :: st) := fun r hr H locs ls hP hS hL => by
  obtain ⟨h1, h2⟩ := gd_some hr
  have h3 : ¬ y = 0 := by simpa using h1
  exact lv_idiv C.1.1 C.1.2.1 hd h3 (kk h3 r h2 H locs ls hP hS hL)
theorem tr_ldiv (C : Cx p R s m args c cc nL own g cs ad w A) {x y : Int64} (hd : decode cc pc = .ok (.ldiv, 1)) (kk : ¬ y = 0 → Tr p l e R s m args below meth c g ad w A nL Q (ex) (σ) (pc + 1) (lv) (.long (x / y) :: st)) : Tr p l e R s m args below meth c g ad w A nL Q (gd (!(y == 0)) ex) (σ) (pc) (lv) (.long y :: .long x :: st) := fun r hr H locs ls hP hS hL => by
  obtain ⟨h1, h2⟩ := gd_some hr
  have h3 : ¬ y = 0 := by simpa using h1
  exact lv_ldiv C.1.1 C.1.2.1 hd h3 (kk h3 r h2 H locs ls hP hS hL)
theorem tr_irem (C : Cx p R s m args c cc nL own g cs ad w A) {x y : Int32} (hd : decode cc pc = .ok (.irem, 1)) (kk : ¬ y = 0 → Tr p l e R s m args below meth c g ad w A nL Q (ex) (σ) (pc + 1) (lv) (.int (x - x / y * y) :: st)) : Tr p l e R s m args below meth c g ad w A nL Q (gd (!(y == 0)) ex) (σ) (pc) (lv) (.int y :: .int x :: st) := fun r hr H locs ls hP hS hL => by
  obtain ⟨h1, h2⟩ := gd_some hr
  have h3 : ¬ y = 0 := by simpa using h1
  exact lv_irem C.1.1 C.1.2.1 hd h3 (kk h3 r h2 H locs ls hP hS hL)
theorem tr_iremK (C : Cx p R s m args c cc nL own g cs ad w A) {x y : Int32} (hd : decode cc pc = .ok (.irem, 1)) (h3 : ¬ y = 0) (kk : Tr p l e R s m args below meth c g ad w A nL Q (ex) (σ) (pc + 1) (lv) (.int (x - x / y * y) :: st)) : Tr p l e R s m args below meth c g ad w A nL Q (ex) (σ) (pc) (lv) (.int y :: .int x :: st) := fun r hr H locs ls hP hS hL => lv_irem C.1.1 C.1.2.1 hd h3 (kk r hr H locs ls hP hS hL)
theorem tr_lrem (C : Cx p R s m args c cc nL own g cs ad w A) {x y : Int64} (hd : decode cc pc = .ok (.lrem, 1)) (kk : ¬ y = 0 → Tr p l e R s m args below meth c g ad w A nL Q (ex) (σ) (pc + 1) (lv) (.long (x - x / y * y) :: st)) : Tr p l e R s m args below meth c g ad w A nL Q (gd (!(y == 0)) ex) (σ) (pc) (lv) (.long y :: .long x :: st) := fun r hr H locs ls hP hS hL => by
  obtain ⟨h1, h2⟩ := gd_some hr
  have h3 : ¬ y = 0 := by simpa using h1
  exact lv_lrem C.1.1 C.1.2.1 hd h3 (kk h3 r h2 H locs ls hP hS hL)
theorem tr_lremK (C : Cx p R s m args c cc nL own g cs ad w A) {x y : Int64} (hd : decode cc pc = .ok (.lrem, 1)) (h3 : ¬ y = 0) (kk : Tr p l e R s m args below meth c g ad w A nL Q (ex) (σ) (pc + 1) (lv) (.long (x - x / y * y) :: st)) : Tr p l e R s m args below meth c g ad w A nL Q (ex) (σ) (pc) (lv) (.long y :: .long x :: st) := fun r hr H locs ls hP hS hL => lv_lrem C.1.1 C.1.2.1 hd h3 (kk r hr H locs ls hP hS hL)
theorem tr_idivK (C : Cx p R s m args c cc nL own g cs ad w A) {x y : Int32} (hd : decode cc pc = .ok (.idiv, 1)) (h3 : ¬ y = 0) (kk : Tr p l e R s m args below meth c g ad w A nL Q (ex) (σ) (pc + 1) (lv) (.int (x / y) :: st)) : Tr p l e R s m args below meth c g ad w A nL Q (ex) (σ) (pc) (lv) (.int y :: .int x :: st) := fun r hr H locs ls hP hS hL => lv_idiv C.1.1 C.1.2.1 hd h3 (kk r hr H locs ls hP hS hL)
theorem tr_ldivK (C : Cx p R s m args c cc nL own g cs ad w A) {x y : Int64} (hd : decode cc pc = .ok (.ldiv, 1)) (h3 : ¬ y = 0) (kk : Tr p l e R s m args below meth c g ad w A nL Q (ex) (σ) (pc + 1) (lv) (.long (x / y) :: st)) : Tr p l e R s m args below meth c g ad w A nL Q (ex) (σ) (pc) (lv) (.long y :: .long x :: st) := fun r hr H locs ls hP hS hL => lv_ldiv C.1.1 C.1.2.1 hd h3 (kk r hr H locs ls hP hS hL)
theorem tr_if_eq (C : Cx p R s m args c cc nL own g cs ad w A) {x : Int32} {X Y : Option α} {off : Int} {tgt : Nat} (hd : decode cc pc = .ok (.ifCond .eq off, 3)) (ht : (pc : Int) + off = (tgt : Int)) (kx : x = 0 → Tr p l e R s m args below meth c g ad w A nL Q (X) (σ) (tgt) (lv) (st)) (ky : ¬ (x = 0) → Tr p l e R s m args below meth c g ad w A nL Q (Y) (σ) (pc + 3) (lv) (st)) : Tr p l e R s m args below meth c g ad w A nL Q (if x = 0 then X else Y) (σ) (pc) (lv) (.int x :: st) := fun r hr H locs ls hP hS hL => lv_if_eq C.1.1 C.1.2.1 hd ht (fun q => kx q r (by rw [if_pos q] at hr; exact hr) H locs ls hP hS hL) (fun q => ky q r (by rw [if_neg q] at hr; exact hr) H locs ls hP hS hL)
theorem tr_if_ne (C : Cx p R s m args c cc nL own g cs ad w A) {x : Int32} {X Y : Option α} {off : Int} {tgt : Nat} (hd : decode cc pc = .ok (.ifCond .ne off, 3)) (ht : (pc : Int) + off = (tgt : Int)) (kx : x = 0 → Tr p l e R s m args below meth c g ad w A nL Q (X) (σ) (pc + 3) (lv) (st)) (ky : ¬ (x = 0) → Tr p l e R s m args below meth c g ad w A nL Q (Y) (σ) (tgt) (lv) (st)) : Tr p l e R s m args below meth c g ad w A nL Q (if x = 0 then X else Y) (σ) (pc) (lv) (.int x :: st) := fun r hr H locs ls hP hS hL => lv_if_ne C.1.1 C.1.2.1 hd ht (fun q => ky q r (by rw [if_neg q] at hr; exact hr) H locs ls hP hS hL) (fun q => kx q r (by rw [if_pos q] at hr; exact hr) H locs ls hP hS hL)
theorem tr_if_lt (C : Cx p R s m args c cc nL own g cs ad w A) {x : Int32} {X Y : Option α} {off : Int} {tgt : Nat} (hd : decode cc pc = .ok (.ifCond .lt off, 3)) (ht : (pc : Int) + off = (tgt : Int)) (kx : x < 0 → Tr p l e R s m args below meth c g ad w A nL Q (X) (σ) (tgt) (lv) (st)) (ky : ¬ (x < 0) → Tr p l e R s m args below meth c g ad w A nL Q (Y) (σ) (pc + 3) (lv) (st)) : Tr p l e R s m args below meth c g ad w A nL Q (if x < 0 then X else Y) (σ) (pc) (lv) (.int x :: st) := fun r hr H locs ls hP hS hL => lv_if_lt C.1.1 C.1.2.1 hd ht (fun q => kx q r (by rw [if_pos q] at hr; exact hr) H locs ls hP hS hL) (fun q => ky q r (by rw [if_neg q] at hr; exact hr) H locs ls hP hS hL)
theorem tr_if_ge (C : Cx p R s m args c cc nL own g cs ad w A) {x : Int32} {X Y : Option α} {off : Int} {tgt : Nat} (hd : decode cc pc = .ok (.ifCond .ge off, 3)) (ht : (pc : Int) + off = (tgt : Int)) (kx : 0 ≤ x → Tr p l e R s m args below meth c g ad w A nL Q (X) (σ) (tgt) (lv) (st)) (ky : ¬ (0 ≤ x) → Tr p l e R s m args below meth c g ad w A nL Q (Y) (σ) (pc + 3) (lv) (st)) : Tr p l e R s m args below meth c g ad w A nL Q (if 0 ≤ x then X else Y) (σ) (pc) (lv) (.int x :: st) := fun r hr H locs ls hP hS hL => lv_if_ge C.1.1 C.1.2.1 hd ht (fun q => kx q r (by rw [if_pos q] at hr; exact hr) H locs ls hP hS hL) (fun q => ky q r (by rw [if_neg q] at hr; exact hr) H locs ls hP hS hL)
theorem tr_if_gt (C : Cx p R s m args c cc nL own g cs ad w A) {x : Int32} {X Y : Option α} {off : Int} {tgt : Nat} (hd : decode cc pc = .ok (.ifCond .gt off, 3)) (ht : (pc : Int) + off = (tgt : Int)) (kx : 0 < x → Tr p l e R s m args below meth c g ad w A nL Q (X) (σ) (tgt) (lv) (st)) (ky : ¬ (0 < x) → Tr p l e R s m args below meth c g ad w A nL Q (Y) (σ) (pc + 3) (lv) (st)) : Tr p l e R s m args below meth c g ad w A nL Q (if 0 < x then X else Y) (σ) (pc) (lv) (.int x :: st) := fun r hr H locs ls hP hS hL => lv_if_gt C.1.1 C.1.2.1 hd ht (fun q => kx q r (by rw [if_pos q] at hr; exact hr) H locs ls hP hS hL) (fun q => ky q r (by rw [if_neg q] at hr; exact hr) H locs ls hP hS hL)
theorem tr_if_le (C : Cx p R s m args c cc nL own g cs ad w A) {x : Int32} {X Y : Option α} {off : Int} {tgt : Nat} (hd : decode cc pc = .ok (.ifCond .le off, 3)) (ht : (pc : Int) + off = (tgt : Int)) (kx : x ≤ 0 → Tr p l e R s m args below meth c g ad w A nL Q (X) (σ) (tgt) (lv) (st)) (ky : ¬ (x ≤ 0) → Tr p l e R s m args below meth c g ad w A nL Q (Y) (σ) (pc + 3) (lv) (st)) : Tr p l e R s m args below meth c g ad w A nL Q (if x ≤ 0 then X else Y) (σ) (pc) (lv) (.int x :: st) := fun r hr H locs ls hP hS hL => lv_if_le C.1.1 C.1.2.1 hd ht (fun q => kx q r (by rw [if_pos q] at hr; exact hr) H locs ls hP hS hL) (fun q => ky q r (by rw [if_neg q] at hr; exact hr) H locs ls hP hS hL)
theorem tr_icmp_eq (C : Cx p R s m args c cc nL own g cs ad w A) {x y : Int32} {X Y : Option α} {off : Int} {tgt : Nat} (hd : decode cc pc = .ok (.if_icmp .eq off, 3)) (ht : (pc : Int) + off = (tgt : Int)) (kx : x = y → Tr p l e R s m args below meth c g ad w A nL Q (X) (σ) (tgt) (lv) (st)) (ky : ¬ (x = y) → Tr p l e R s m args below meth c g ad w A nL Q (Y) (σ) (pc + 3) (lv) (st)) : Tr p l e R s m args below meth c g ad w A nL Q (if x = y then X else Y) (σ) (pc) (lv) (.int y :: .int x :: st) := fun r hr H locs ls hP hS hL => lv_icmp_eq C.1.1 C.1.2.1 hd ht (fun q => kx q r (by rw [if_pos q] at hr; exact hr) H locs ls hP hS hL) (fun q => ky q r (by rw [if_neg q] at hr; exact hr) H locs ls hP hS hL)
theorem tr_icmp_ne (C : Cx p R s m args c cc nL own g cs ad w A) {x y : Int32} {X Y : Option α} {off : Int} {tgt : Nat} (hd : decode cc pc = .ok (.if_icmp .ne off, 3)) (ht : (pc : Int) + off = (tgt : Int)) (kx : x = y → Tr p l e R s m args below meth c g ad w A nL Q (X) (σ) (pc + 3) (lv) (st)) (ky : ¬ (x = y) → Tr p l e R s m args below meth c g ad w A nL Q (Y) (σ) (tgt) (lv) (st)) : Tr p l e R s m args below meth c g ad w A nL Q (if x = y then X else Y) (σ) (pc) (lv) (.int y :: .int x :: st) := fun r hr H locs ls hP hS hL => lv_icmp_ne C.1.1 C.1.2.1 hd ht (fun q => ky q r (by rw [if_neg q] at hr; exact hr) H locs ls hP hS hL) (fun q => kx q r (by rw [if_pos q] at hr; exact hr) H locs ls hP hS hL)
theorem tr_icmp_lt (C : Cx p R s m args c cc nL own g cs ad w A) {x y : Int32} {X Y : Option α} {off : Int} {tgt : Nat} (hd : decode cc pc = .ok (.if_icmp .lt off, 3)) (ht : (pc : Int) + off = (tgt : Int)) (kx : x < y → Tr p l e R s m args below meth c g ad w A nL Q (X) (σ) (tgt) (lv) (st)) (ky : ¬ (x < y) → Tr p l e R s m args below meth c g ad w A nL Q (Y) (σ) (pc + 3) (lv) (st)) : Tr p l e R s m args below meth c g ad w A nL Q (if x < y then X else Y) (σ) (pc) (lv) (.int y :: .int x :: st) := fun r hr H locs ls hP hS hL => lv_icmp_lt C.1.1 C.1.2.1 hd ht (fun q => kx q r (by rw [if_pos q] at hr; exact hr) H locs ls hP hS hL) (fun q => ky q r (by rw [if_neg q] at hr; exact hr) H locs ls hP hS hL)
theorem tr_icmp_ge (C : Cx p R s m args c cc nL own g cs ad w A) {x y : Int32} {X Y : Option α} {off : Int} {tgt : Nat} (hd : decode cc pc = .ok (.if_icmp .ge off, 3)) (ht : (pc : Int) + off = (tgt : Int)) (kx : y ≤ x → Tr p l e R s m args below meth c g ad w A nL Q (X) (σ) (tgt) (lv) (st)) (ky : ¬ (y ≤ x) → Tr p l e R s m args below meth c g ad w A nL Q (Y) (σ) (pc + 3) (lv) (st)) : Tr p l e R s m args below meth c g ad w A nL Q (if y ≤ x then X else Y) (σ) (pc) (lv) (.int y :: .int x :: st) := fun r hr H locs ls hP hS hL => lv_icmp_ge C.1.1 C.1.2.1 hd ht (fun q => kx q r (by rw [if_pos q] at hr; exact hr) H locs ls hP hS hL) (fun q => ky q r (by rw [if_neg q] at hr; exact hr) H locs ls hP hS hL)
theorem tr_icmp_gt (C : Cx p R s m args c cc nL own g cs ad w A) {x y : Int32} {X Y : Option α} {off : Int} {tgt : Nat} (hd : decode cc pc = .ok (.if_icmp .gt off, 3)) (ht : (pc : Int) + off = (tgt : Int)) (kx : y < x → Tr p l e R s m args below meth c g ad w A nL Q (X) (σ) (tgt) (lv) (st)) (ky : ¬ (y < x) → Tr p l e R s m args below meth c g ad w A nL Q (Y) (σ) (pc + 3) (lv) (st)) : Tr p l e R s m args below meth c g ad w A nL Q (if y < x then X else Y) (σ) (pc) (lv) (.int y :: .int x :: st) := fun r hr H locs ls hP hS hL => lv_icmp_gt C.1.1 C.1.2.1 hd ht (fun q => kx q r (by rw [if_pos q] at hr; exact hr) H locs ls hP hS hL) (fun q => ky q r (by rw [if_neg q] at hr; exact hr) H locs ls hP hS hL)
theorem tr_icmp_le (C : Cx p R s m args c cc nL own g cs ad w A) {x y : Int32} {X Y : Option α} {off : Int} {tgt : Nat} (hd : decode cc pc = .ok (.if_icmp .le off, 3)) (ht : (pc : Int) + off = (tgt : Int)) (kx : x ≤ y → Tr p l e R s m args below meth c g ad w A nL Q (X) (σ) (tgt) (lv) (st)) (ky : ¬ (x ≤ y) → Tr p l e R s m args below meth c g ad w A nL Q (Y) (σ) (pc + 3) (lv) (st)) : Tr p l e R s m args below meth c g ad w A nL Q (if x ≤ y then X else Y) (σ) (pc) (lv) (.int y :: .int x :: st) := fun r hr H locs ls hP hS hL => lv_icmp_le C.1.1 C.1.2.1 hd ht (fun q => kx q r (by rw [if_pos q] at hr; exact hr) H locs ls hP hS hL) (fun q => ky q r (by rw [if_neg q] at hr; exact hr) H locs ls hP hS hL)
theorem tr_goto (C : Cx p R s m args c cc nL own g cs ad w A) {off : Int} {tgt : Nat} (hd : decode cc pc = .ok (.goto off, 3)) (ht : (pc : Int) + off = (tgt : Int)) (kk : Tr p l e R s m args below meth c g ad w A nL Q (ex) (σ) (tgt) (lv) (st)) : Tr p l e R s m args below meth c g ad w A nL Q (ex) (σ) (pc) (lv) (st) := fun r hr H locs ls hP hS hL => lv_goto C.1.1 C.1.2.1 hd ht (kk r hr H locs ls hP hS hL)
theorem tr_getI (C : Cx p R s m args c cc nL own g cs ad w A) {j k ci idx : Nat} {ds : List ShF} {q : vw_C} (hj : w[j]? = some (.inl (ci, ds))) (hk : ds[k]? = some (.inr false)) (hc : vwCl[ci]? = some q) (hin : ∀ w ∈ u_ws q.1 q.2.1 q.2.2, w ∈ TB) (hown : (q.2.1 k).1 = q.1) (hkn : k < q.2.2) (hl : Cond.fieldLink own idx q.1 (q.2.1 k).2.1 (q.2.1 k).2.2.1 ∈ TB) (hd : decode cc pc = .ok (.getfield idx, 3)) (kk : Tr p l e R s m args below meth c g ad w A nL Q (ex) (σ) (pc + 3) (lv) (.int (σ.1 j k) :: st)) : Tr p l e R s m args below meth c g ad w A nL Q (ex) (σ) (pc) (lv) (.ref (ad j) :: st) := fun r hr H locs ls hP hS hL => va_get (D := g.1) (C := q.1) (T := q.2.1) (N := q.2.2) C.1.1 C.1.2.1 C.1.2.2.2.2 hin C.1.2.2.2.1 C.2.1.1 hP j (wd_get0 hj) hc k hkn (C.1.2.2.2.2 _ hl) (fun x h => by rw [hown] at h; exact h) (by have := fvs_get (ad := ad) (σ := σ) (j := j) (k0 := 0) hk; rwa [Nat.zero_add] at this) hd (kk r hr H locs ls hP hS hL)
theorem tr_getL (C : Cx p R s m args c cc nL own g cs ad w A) {j k ci idx : Nat} {ds : List ShF} {q : vw_C} (hj : w[j]? = some (.inl (ci, ds))) (hk : ds[k]? = some (.inr true)) (hc : vwCl[ci]? = some q) (hin : ∀ w ∈ u_ws q.1 q.2.1 q.2.2, w ∈ TB) (hown : (q.2.1 k).1 = q.1) (hkn : k < q.2.2) (hl : Cond.fieldLink own idx q.1 (q.2.1 k).2.1 (q.2.1 k).2.2.1 ∈ TB) (hd : decode cc pc = .ok (.getfield idx, 3)) (kk : Tr p l e R s m args below meth c g ad w A nL Q (ex) (σ) (pc + 3) (lv) (.long (σ.2 j k) :: st)) : Tr p l e R s m args below meth c g ad w A nL Q (ex) (σ) (pc) (lv) (.ref (ad j) :: st) := fun r hr H locs ls hP hS hL => va_get (D := g.1) (C := q.1) (T := q.2.1) (N := q.2.2) C.1.1 C.1.2.1 C.1.2.2.2.2 hin C.1.2.2.2.1 C.2.1.1 hP j (wd_get0 hj) hc k hkn (C.1.2.2.2.2 _ hl) (fun x h => by rw [hown] at h; exact h) (by have := fvs_get (ad := ad) (σ := σ) (j := j) (k0 := 0) hk; rwa [Nat.zero_add] at this) hd (kk r hr H locs ls hP hS hL)
theorem tr_getR (C : Cx p R s m args c cc nL own g cs ad w A) {j k ci idx : Nat} {ds : List ShF} {q : vw_C} {t : Nat} (hj : w[j]? = some (.inl (ci, ds))) (hk : ds[k]? = some (.inl (some t))) (hc : vwCl[ci]? = some q) (hin : ∀ w ∈ u_ws q.1 q.2.1 q.2.2, w ∈ TB) (hown : (q.2.1 k).1 = q.1) (hkn : k < q.2.2) (hl : Cond.fieldLink own idx q.1 (q.2.1 k).2.1 (q.2.1 k).2.2.1 ∈ TB) (hd : decode cc pc = .ok (.getfield idx, 3)) (kk : Tr p l e R s m args below meth c g ad w A nL Q (ex) (σ) (pc + 3) (lv) (.ref (ad t) :: st)) : Tr p l e R s m args below meth c g ad w A nL Q (ex) (σ) (pc) (lv) (.ref (ad j) :: st) := fun r hr H locs ls hP hS hL => va_get (D := g.1) (C := q.1) (T := q.2.1) (N := q.2.2) C.1.1 C.1.2.1 C.1.2.2.2.2 hin C.1.2.2.2.1 C.2.1.1 hP j (wd_get0 hj) hc k hkn (C.1.2.2.2.2 _ hl) (fun x h => by rw [hown] at h; exact h) (by have := fvs_get (ad := ad) (σ := σ) (j := j) (k0 := 0) hk; rwa [Nat.zero_add] at this) hd (kk r hr H locs ls hP hS hL)
theorem tr_putI (C : Cx p R s m args c cc nL own g cs ad w A) {j k ci idx : Nat} {ds : List ShF} {q : vw_C} {v : Int32} {σ' : Mem} (hj : w[j]? = some (.inl (ci, ds))) (hk : ds[k]? = some (.inr false)) (hc : vwCl[ci]? = some q) (hin : ∀ w ∈ u_ws q.1 q.2.1 q.2.2, w ∈ TB) (hown : (q.2.1 k).1 = q.1) (hkn : k < q.2.2) (ty0 : Nat → FieldType) (hty : ∀ k, k < q.2.2 → parseFieldDescriptor (q.2.1 k).2.2.1 = some (ty0 k)) (hnm : ∀ a, a < q.2.2 → ∀ b, b < q.2.2 → a ≠ b → (q.2.1 a).2.1 ≠ (q.2.1 b).2.1) (htk : ty0 k = .int) (hfin : (q.2.1 k).2.2.2 = false)  (hl : Cond.fieldLink own idx q.1 (q.2.1 k).2.1 (q.2.1 k).2.2.1 ∈ TB) (hd : decode cc pc = .ok (.putfield idx, 3)) (hσ : putI σ j k v = σ') (kk : Tr p l e R s m args below meth c g ad w A nL Q (ex) (σ') (pc + 3) (lv) (st)) : Tr p l e R s m args below meth c g ad w A nL Q (ex) (σ) (pc) (lv) (.int v :: .ref (ad j) :: st) := fun r hr H locs ls hP hS hL => va_put (D := g.1) (C := q.1) (T := q.2.1) (N := q.2.2) (ty := .int) C.1.1 C.1.2.1 C.1.2.2.2.2 hin ty0 hty hnm C.1.2.2.2.1 C.2.1.1 hP (wd_D C.2.2.1 σ) hS j (wd_get0 hj) hc k hkn (C.1.2.2.2.2 _ hl) (fun x h => by rw [hown] at h; exact h) hfin (by rw [hty k hkn, htk]) rfl (fits_I v ) (by rw [fvs_len]; exact (List.getElem?_eq_some_iff.mp hk).1) hd (fun H1 locs1 hP1 _ hS1 => kk r hr H1 locs1 ls (by subst hσ; rw [← wd_putI hj hk]; exact hP1) hS1 hL)
theorem tr_putZ (C : Cx p R s m args c cc nL own g cs ad w A) {j k ci idx : Nat} {ds : List ShF} {q : vw_C} {v : Int32} {σ' : Mem} (hj : w[j]? = some (.inl (ci, ds))) (hk : ds[k]? = some (.inr false)) (hc : vwCl[ci]? = some q) (hin : ∀ w ∈ u_ws q.1 q.2.1 q.2.2, w ∈ TB) (hown : (q.2.1 k).1 = q.1) (hkn : k < q.2.2) (ty0 : Nat → FieldType) (hty : ∀ k, k < q.2.2 → parseFieldDescriptor (q.2.1 k).2.2.1 = some (ty0 k)) (hnm : ∀ a, a < q.2.2 → ∀ b, b < q.2.2 → a ≠ b → (q.2.1 a).2.1 ≠ (q.2.1 b).2.1) (htk : ty0 k = .boolean) (hfin : (q.2.1 k).2.2.2 = false) (hn : narrow .boolean (.int v) = .int v) (hl : Cond.fieldLink own idx q.1 (q.2.1 k).2.1 (q.2.1 k).2.2.1 ∈ TB) (hd : decode cc pc = .ok (.putfield idx, 3)) (hσ : putI σ j k v = σ') (kk : Tr p l e R s m args below meth c g ad w A nL Q (ex) (σ') (pc + 3) (lv) (st)) : Tr p l e R s m args below meth c g ad w A nL Q (ex) (σ) (pc) (lv) (.int v :: .ref (ad j) :: st) := fun r hr H locs ls hP hS hL => va_put (D := g.1) (C := q.1) (T := q.2.1) (N := q.2.2) (ty := .boolean) C.1.1 C.1.2.1 C.1.2.2.2.2 hin ty0 hty hnm C.1.2.2.2.1 C.2.1.1 hP (wd_D C.2.2.1 σ) hS j (wd_get0 hj) hc k hkn (C.1.2.2.2.2 _ hl) (fun x h => by rw [hown] at h; exact h) hfin (by rw [hty k hkn, htk]) hn (fits_Z v hn) (by rw [fvs_len]; exact (List.getElem?_eq_some_iff.mp hk).1) hd (fun H1 locs1 hP1 _ hS1 => kk r hr H1 locs1 ls (by subst hσ; rw [← wd_putI hj hk]; exact hP1) hS1 hL)
theorem tr_putL (C : Cx p R s m args c cc nL own g cs ad w A) {j k ci idx : Nat} {ds : List ShF} {q : vw_C} {v : Int64} {σ' : Mem} (hj : w[j]? = some (.inl (ci, ds))) (hk : ds[k]? = some (.inr true)) (hc : vwCl[ci]? = some q) (hin : ∀ w ∈ u_ws q.1 q.2.1 q.2.2, w ∈ TB) (hown : (q.2.1 k).1 = q.1) (hkn : k < q.2.2) (ty0 : Nat → FieldType) (hty : ∀ k, k < q.2.2 → parseFieldDescriptor (q.2.1 k).2.2.1 = some (ty0 k)) (hnm : ∀ a, a < q.2.2 → ∀ b, b < q.2.2 → a ≠ b → (q.2.1 a).2.1 ≠ (q.2.1 b).2.1) (htk : ty0 k = .long) (hfin : (q.2.1 k).2.2.2 = false)  (hl : Cond.fieldLink own idx q.1 (q.2.1 k).2.1 (q.2.1 k).2.2.1 ∈ TB) (hd : decode cc pc = .ok (.putfield idx, 3)) (hσ : putL σ j k v = σ') (kk : Tr p l e R s m args below meth c g ad w A nL Q (ex) (σ') (pc + 3) (lv) (st)) : Tr p l e R s m args below meth c g ad w A nL Q (ex) (σ) (pc) (lv) (.long v :: .ref (ad j) :: st) := fun r hr H locs ls hP hS hL => va_put (D := g.1) (C := q.1) (T := q.2.1) (N := q.2.2) (ty := .long) C.1.1 C.1.2.1 C.1.2.2.2.2 hin ty0 hty hnm C.1.2.2.2.1 C.2.1.1 hP (wd_D C.2.2.1 σ) hS j (wd_get0 hj) hc k hkn (C.1.2.2.2.2 _ hl) (fun x h => by rw [hown] at h; exact h) hfin (by rw [hty k hkn, htk]) rfl (fits_L v ) (by rw [fvs_len]; exact (List.getElem?_eq_some_iff.mp hk).1) hd (fun H1 locs1 hP1 _ hS1 => kk r hr H1 locs1 ls (by subst hσ; rw [← wd_putL hj hk]; exact hP1) hS1 hL)
theorem tr_iald (C : Cx p R s m args c cc nL own g cs ad w A) {j n : Nat} {i : Int32} (hj : w[j]? = some (.inr ((g.2 0, n), none))) (hd : decode cc pc = .ok (.iaload, 1)) (kk : vp_in i n → Tr p l e R s m args below meth c g ad w A nL Q (ex) (σ) (pc + 1) (lv) (.int (rd σ j i) :: st)) : Tr p l e R s m args below meth c g ad w A nL Q (gd (inB i n) ex) (σ) (pc) (lv) (.int i :: .ref (ad j) :: st) := fun r hr H locs ls hP hS hL => by
  obtain ⟨h1, h2⟩ := gd_some hr
  have h3 := inB_iff.mp h1
  exact va_iald (D := g.1) (tys := tysOf g) C.1.1 C.1.2.1 C.2.1.1 hP j 0 (f := σ.1 j) (n := n) (wd_get0 hj) rfl h3 hd (kk h3 r h2 H locs ls hP hS hL)
theorem tr_iast (C : Cx p R s m args c cc nL own g cs ad w A) {j n : Nat} {i v : Int32} {σ' : Mem} (hj : w[j]? = some (.inr ((g.2 0, n), none))) (hd : decode cc pc = .ok (.iastore, 1)) (hσ : wr σ j i (v) = σ') (kk : vp_in i n → Tr p l e R s m args below meth c g ad w A nL Q (ex) (σ') (pc + 1) (lv) (st)) : Tr p l e R s m args below meth c g ad w A nL Q (gd (inB i n) ex) (σ) (pc) (lv) (.int v :: .int i :: .ref (ad j) :: st) := fun r hr H locs ls hP hS hL => by
  obtain ⟨h1, h2⟩ := gd_some hr
  have h3 := inB_iff.mp h1
  refine va_iast (D := g.1) (tys := tysOf g) C.1.1 C.1.2.1 C.2.1.1 hP (wd_D C.2.2.1 σ) hS j 0 (f := σ.1 j) (n := n) (wd_get0 hj) rfl h3 hd (fun H1 locs1 hP1 _ hS1 => kk h3 r h2 H1 locs1 ls ?_ hS1 hL)
  subst hσ
  unfold wr
  rw [← putR_upd, ← wd_putR hj]
  exact hP1
theorem tr_zald (C : Cx p R s m args c cc nL own g cs ad w A) {j n : Nat} {i : Int32} (hj : w[j]? = some (.inr ((g.2 1, n), none))) (hd : decode cc pc = .ok (.baload, 1)) (kk : vp_in i n → Tr p l e R s m args below meth c g ad w A nL Q (ex) (σ) (pc + 1) (lv) (.int (rd σ j i) :: st)) : Tr p l e R s m args below meth c g ad w A nL Q (gd (inB i n) ex) (σ) (pc) (lv) (.int i :: .ref (ad j) :: st) := fun r hr H locs ls hP hS hL => by
  obtain ⟨h1, h2⟩ := gd_some hr
  have h3 := inB_iff.mp h1
  exact va_zald (D := g.1) (tys := tysOf g) C.1.1 C.1.2.1 C.2.1.1 hP j 1 (f := σ.1 j) (n := n) (wd_get0 hj) rfl h3 hd (kk h3 r h2 H locs ls hP hS hL)
theorem tr_zast (C : Cx p R s m args c cc nL own g cs ad w A) {j n : Nat} {i v : Int32} {σ' : Mem} (hj : w[j]? = some (.inr ((g.2 1, n), none))) (hd : decode cc pc = .ok (.bastore, 1)) (hσ : wr σ j i (vp_nar .boolean v) = σ') (kk : vp_in i n → Tr p l e R s m args below meth c g ad w A nL Q (ex) (σ') (pc + 1) (lv) (st)) : Tr p l e R s m args below meth c g ad w A nL Q (gd (inB i n) ex) (σ) (pc) (lv) (.int v :: .int i :: .ref (ad j) :: st) := fun r hr H locs ls hP hS hL => by
  obtain ⟨h1, h2⟩ := gd_some hr
  have h3 := inB_iff.mp h1
  refine va_zast (D := g.1) (tys := tysOf g) C.1.1 C.1.2.1 C.2.1.1 hP (wd_D C.2.2.1 σ) hS j 1 (f := σ.1 j) (n := n) (wd_get0 hj) rfl h3 hd (fun H1 locs1 hP1 _ hS1 => kk h3 r h2 H1 locs1 ls ?_ hS1 hL)
  subst hσ
  unfold wr
  rw [← putR_upd, ← wd_putR hj]
  exact hP1
theorem tr_aald (C : Cx p R s m args c cc nL own g cs ad w A) {j n t0 t : Nat} {i : Int32} {f : Nat → Option Nat} {cA : ClassId} {CC : String} (hj : w[j]? = some (.inr ((cA, n), some f))) (ht : (tysOf g)[t0]? = some (cA, .object CC)) (hd : decode cc pc = .ok (.aaload, 1)) (hf : f i.toNatClampNeg = some t) (kk : vp_in i n → Tr p l e R s m args below meth c g ad w A nL Q (ex) (σ) (pc + 1) (lv) (.ref (ad t) :: st)) : Tr p l e R s m args below meth c g ad w A nL Q (gd (inB i n) ex) (σ) (pc) (lv) (.int i :: .ref (ad j) :: st) := fun r hr H locs ls hP hS hL => by
  obtain ⟨h1, h2⟩ := gd_some hr
  have h3 := inB_iff.mp h1
  refine va_aldq (D := g.1) (tys := tysOf g) C.1.1 C.1.2.1 C.2.1.1 hP j t0 (n := n) (wd_get0 hj) ht h3 hd ?_
  rw [hf]
  exact kk h3 r h2 H locs ls hP hS hL
theorem tr_alen (C : Cx p R s m args c cc nL own g cs ad w A) {j n : Nat} {v : Int32} (hj : w[j]? = some (.inr ((g.2 0, n), none))) (hv : Int32.ofNat n = v) (hd : decode cc pc = .ok (.arraylength, 1)) (kk : Tr p l e R s m args below meth c g ad w A nL Q (ex) (σ) (pc + 1) (lv) (.int v :: st)) : Tr p l e R s m args below meth c g ad w A nL Q (ex) (σ) (pc) (lv) (.ref (ad j) :: st) := fun r hr H locs ls hP hS hL => va_alen (D := g.1) (tys := tysOf g) C.1.1 C.1.2.1 C.2.1.1 hP j 0 (wd_get0 hj) rfl hv hd (kk r hr H locs ls hP hS hL)
theorem tr_mmax (C : Cx p R s m args c cc nL own g cs ad w A) {x y : Int32} {idx : Nat} (h1 : Cond.methodLink own idx Lib.Math.max.name ∈ TB) (hfr : 1 ≤ R.frames) (hlo : (st.map fun v => v.category).sum + 13 ≤ R.locals) (hd : decode cc pc = .ok (.invokestatic idx, 3)) (kk : Tr p l e R s m args below meth c g ad w A nL Q (ex) (σ) (pc + 3) (lv) (.int (if x < y then y else x) :: st)) : Tr p l e R s m args below meth c g ad w A nL Q (ex) (σ) (pc) (lv) (.int y :: .int x :: st) := fun r hr H locs ls hP hS hL => va_mmax C.1.1 C.1.2.1 (by rw [C.1.2.2.1, hL.1]) C.1.2.2.2.1 (C.1.2.2.2.2 _ h1) (C.1.2.2.2.2 _ w_mmax.2.1) (C.1.2.2.2.2 _ w_mmax.2.2) (C.1.2.2.2.2 _ w_mmax.1) hfr hlo (Nat.zero_le _) (Nat.zero_le _) hd (kk r hr H locs ls hP hS hL)
theorem tr_mmin (C : Cx p R s m args c cc nL own g cs ad w A) {x y : Int32} {idx : Nat} (h1 : Cond.methodLink own idx Lib.Math.min.name ∈ TB) (hfr : 1 ≤ R.frames) (hlo : (st.map fun v => v.category).sum + 13 ≤ R.locals) (hd : decode cc pc = .ok (.invokestatic idx, 3)) (kk : Tr p l e R s m args below meth c g ad w A nL Q (ex) (σ) (pc + 3) (lv) (.int (if y < x then y else x) :: st)) : Tr p l e R s m args below meth c g ad w A nL Q (ex) (σ) (pc) (lv) (.int y :: .int x :: st) := fun r hr H locs ls hP hS hL => va_mmin C.1.1 C.1.2.1 (by rw [C.1.2.2.1, hL.1]) C.1.2.2.2.1 (C.1.2.2.2.2 _ h1) (C.1.2.2.2.2 _ w_mmin.2.1) (C.1.2.2.2.2 _ w_mmin.2.2) (C.1.2.2.2.2 _ w_mmin.1) hfr hlo (Nat.zero_le _) (Nat.zero_le _) hd (kk r hr H locs ls hP hS hL)
theorem tr_mabs (C : Cx p R s m args c cc nL own g cs ad w A) {x : Int32} {idx : Nat} (h1 : Cond.methodLink own idx Lib.Math.abs.name ∈ TB) (hfr : 1 ≤ R.frames) (hlo : (st.map fun v => v.category).sum + 13 ≤ R.locals) (hd : decode cc pc = .ok (.invokestatic idx, 3)) (kk : Tr p l e R s m args below meth c g ad w A nL Q (ex) (σ) (pc + 3) (lv) (.int (if 0 ≤ x then x else 0 - x) :: st)) : Tr p l e R s m args below meth c g ad w A nL Q (ex) (σ) (pc) (lv) (.int x :: st) := fun r hr H locs ls hP hS hL => va_mabs C.1.1 C.1.2.1 (by rw [C.1.2.2.1, hL.1]) C.1.2.2.2.1 (C.1.2.2.2.2 _ h1) (C.1.2.2.2.2 _ w_mabs.2.1) (C.1.2.2.2.2 _ w_mabs.2.2) (C.1.2.2.2.2 _ w_mabs.1) hfr hlo (Nat.zero_le _) (Nat.zero_le _) hd (kk r hr H locs ls hP hS hL)
theorem tr_iret (C : Cx p R s m args c cc nL own g cs ad w A) (hr : meth.sig.returnType = some .int) (hlk : meth.locks = false) {v : Int32} (hd : decode cc pc = .ok (.ireturn, 1)) : Tr p l e R s m args below meth c g ad w A nL (QI g ad w A below args s) (some (v, σ)) σ pc lv ([.int v]) := fun r h H locs ls hP hS hL => by
  cases h
  exact W.iret C.1.1 C.1.2.1 hr (fun t ht hW => ⟨⟨v, (), rfl, rfl, by have h9 := hP; rw [← ht] at h9; exact h9⟩, hS.F ht⟩) hS.2.2 hd hlk
theorem tr_zret (C : Cx p R s m args c cc nL own g cs ad w A) (hr : meth.sig.returnType = some .boolean) (hlk : meth.locks = false) {v : Int32} (hn : narrow .boolean (.int v) = .int v) (hd : decode cc pc = .ok (.ireturn, 1)) : Tr p l e R s m args below meth c g ad w A nL (QI g ad w A below args s) (some (v, σ)) σ pc lv ([.int v]) := fun r h H locs ls hP hS hL => by
  cases h
  exact W.zret C.1.1 C.1.2.1 hr hn (fun t ht hW => ⟨⟨v, (), rfl, rfl, by have h9 := hP; rw [← ht] at h9; exact h9⟩, hS.F ht⟩) hS.2.2 hd hlk
theorem tr_lret (C : Cx p R s m args c cc nL own g cs ad w A) (hr : meth.sig.returnType = some .long) (hlk : meth.locks = false) {v : Int64} (hd : decode cc pc = .ok (.lreturn, 1)) : Tr p l e R s m args below meth c g ad w A nL (QL g ad w A below args s) (some (v, σ)) σ pc lv ([.long v]) := fun r h H locs ls hP hS hL => by
  cases h
  exact W.lret C.1.1 C.1.2.1 hr (fun t ht hW => ⟨⟨v, (), rfl, rfl, by have h9 := hP; rw [← ht] at h9; exact h9⟩, hS.F ht⟩) hS.2.2 hd hlk
theorem tr_vret (C : Cx p R s m args c cc nL own g cs ad w A) (hr : meth.sig.returnType = none) (hlk : meth.locks = false)  (hd : decode cc pc = .ok (.return_, 1)) : Tr p l e R s m args below meth c g ad w A nL (QV g ad w A below args s) (some σ) σ pc lv ([]) := fun r h H locs ls hP hS hL => by
  cases h
  exact W.vret C.1.1 C.1.2.1 hr (fun t ht hW => ⟨⟨(), rfl, trivial, by have h9 := hP; rw [← ht] at h9; exact h9⟩, hS.F ht⟩) hS.2.2 hd hlk
theorem tr_iretP (C : Cx p R s m args c cc nL own g cs ad w A) (hr : meth.sig.returnType = some .int) (hlk : meth.locks = false) {v : Int32} (hd : decode cc pc = .ok (.ireturn, 1)) : Tr p l e R s m args below meth c g ad w A nL (QP g ad w A below args s σ) (some v) σ pc lv ([.int v]) := fun r h H locs ls hP hS hL => by
  cases h
  exact W.iret C.1.1 C.1.2.1 hr (fun t ht hW => ⟨⟨v, (), rfl, rfl, by have h9 := hP; rw [← ht] at h9; exact h9⟩, hS.F ht⟩) hS.2.2 hd hlk
theorem tr_zretP (C : Cx p R s m args c cc nL own g cs ad w A) (hr : meth.sig.returnType = some .boolean) (hlk : meth.locks = false) {v : Int32} (hn : narrow .boolean (.int v) = .int v) (hd : decode cc pc = .ok (.ireturn, 1)) : Tr p l e R s m args below meth c g ad w A nL (QP g ad w A below args s σ) (some v) σ pc lv ([.int v]) := fun r h H locs ls hP hS hL => by
  cases h
  exact W.zret C.1.1 C.1.2.1 hr hn (fun t ht hW => ⟨⟨v, (), rfl, rfl, by have h9 := hP; rw [← ht] at h9; exact h9⟩, hS.F ht⟩) hS.2.2 hd hlk
theorem tr_lretP (C : Cx p R s m args c cc nL own g cs ad w A) (hr : meth.sig.returnType = some .long) (hlk : meth.locks = false) {v : Int64} (hd : decode cc pc = .ok (.lreturn, 1)) : Tr p l e R s m args below meth c g ad w A nL (QPL g ad w A below args s σ) (some v) σ pc lv ([.long v]) := fun r h H locs ls hP hS hL => by
  cases h
  exact W.lret C.1.1 C.1.2.1 hr (fun t ht hW => ⟨⟨v, (), rfl, rfl, by have h9 := hP; rw [← ht] at h9; exact h9⟩, hS.F ht⟩) hS.2.2 hd hlk
theorem tr_zretG (C : Cx p R s m args c cc nL own g cs ad w A) (hr : meth.sig.returnType = some .boolean) (hlk : meth.locks = false) {v : Int32} (hd : decode cc pc = .ok (.ireturn, 1)) : Tr p l e R s m args below meth c g ad w A nL (QI g ad w A below args s) (gd (isB v) (some (v, σ))) σ pc lv ([.int v]) := fun r h H locs ls hP hS hL => by
  obtain ⟨h1, h2⟩ := gd_some h
  have hn := isB_nar h1
  cases h2
  exact W.zret C.1.1 C.1.2.1 hr hn (fun t ht hW => ⟨⟨v, (), rfl, rfl, by have h9 := hP; rw [← ht] at h9; exact h9⟩, hS.F ht⟩) hS.2.2 hd hlk
theorem tr_zretPG (C : Cx p R s m args c cc nL own g cs ad w A) (hr : meth.sig.returnType = some .boolean) (hlk : meth.locks = false) {v : Int32} (hd : decode cc pc = .ok (.ireturn, 1)) : Tr p l e R s m args below meth c g ad w A nL (QP g ad w A below args s σ) (gd (isB v) (some v)) σ pc lv ([.int v]) := fun r h H locs ls hP hS hL => by
  obtain ⟨h1, h2⟩ := gd_some h
  have hn := isB_nar h1
  cases h2
  exact W.zret C.1.1 C.1.2.1 hr hn (fun t ht hW => ⟨⟨v, (), rfl, rfl, by have h9 := hP; rw [← ht] at h9; exact h9⟩, hS.F ht⟩) hS.2.2 hd hlk
theorem tr_none  : Tr p l e R s m args below meth c g ad w A nL Q (none) (σ) (pc) (lv) (st) := fun r h => by cases h
theorem tr_loop {V : Type} {b : (V → Option α) → V → Option α} {sg : V → Mem} {lw : V → List (Option Value)} {sw : V → List Value} (hb : ∀ ih : V → Option α, (∀ v, Tr p l e R s m args below meth c g ad w A nL Q (ih v) (sg v) pc (lw v) (sw v)) → ∀ v, Tr p l e R s m args below meth c g ad w A nL Q (b ih v) (sg v) pc (lw v) (sw v)) : ∀ (n : Nat) (v : V), Tr p l e R s m args below meth c g ad w A nL Q (loopN b n v) (sg v) pc (lw v) (sw v)
  | 0, _ => fun r h => by cases h
  | n + 1, v => hb _ (fun v => tr_loop hb n v) v
theorem tr_gd {b : Bool} (kk : b = true → Tr p l e R s m args below meth c g ad w A nL Q (ex) (σ) (pc) (lv) (st)) : Tr p l e R s m args below meth c g ad w A nL Q (gd b ex) (σ) (pc) (lv) (st) := fun r hr => by
  obtain ⟨h1, h2⟩ := gd_some hr
  exact kk h1 r h2
theorem tr_eq {ex2 : Option α} (h : ex = ex2) (kk : Tr p l e R s m args below meth c g ad w A nL Q (ex2) (σ) (pc) (lv) (st)) : Tr p l e R s m args below meth c g ad w A nL Q (ex) (σ) (pc) (lv) (st) := by rw [h]; exact kk
theorem tr_mask {lv' : List (Option Value)} (mk : List Bool) (h : List.zipWith (fun (b : Bool) (v : Option Value) => if b then v else none) mk lv = lv') (kk : Tr p l e R s m args below meth c g ad w A nL Q ex σ pc lv' st) : Tr p l e R s m args below meth c g ad w A nL Q ex σ pc lv st := by
  subst h
  refine fun r hr H locs ls hP hS hL => kk r hr H locs ls hP hS ⟨hL.1, hL.2.1, fun i v hv => hL.2.2 i v ?_⟩
  rw [List.getElem?_zipWith] at hv
  cases h1 : mk[i]? with
  | none => rw [h1] at hv; simp at hv
  | some b =>
    cases h2 : lv[i]? with
    | none => rw [h1, h2] at hv; simp at hv
    | some u =>
      rw [h1, h2] at hv
      cases b
      · simp at hv
      · simpa using hv
theorem tr_acopy (C : Cx p R s m args c cc nL own g cs ad w A) {j0 j1 n0 n1 idx : Nat} {sp dp n : Int32} {σ' : Mem} (hj0 : w[j0]? = some (.inr ((g.2 0, n0), none))) (hj1 : w[j1]? = some (.inr ((g.2 0, n1), none))) (h1 : Cond.methodLink own idx arraycopyName ∈ TB) (hfr : 1 ≤ R.frames) (hlo : (st.map fun v => v.category).sum + (nativeFrameWords "java/lang/System" "arraycopy" 5 + 11) ≤ R.locals) (hd : decode cc pc = .ok (.invokestatic idx, 3)) (hσ : cpy σ j0 sp j1 dp n = σ') (kk : Tr p l e R s m args below meth c g ad w A nL Q (ex) (σ') (pc + 3) (lv) (st)) : Tr p l e R s m args below meth c g ad w A nL Q (gd (cpOk sp dp n n0 n1) ex) (σ) (pc) (lv) (.int n :: .int dp :: .ref (ad j1) :: .int sp :: .ref (ad j0) :: st) := fun r hr H locs ls hP hS hL => by
  obtain ⟨q1, q2⟩ := gd_some hr
  obtain ⟨a1, a2, a3, a4, a5⟩ := cpOk_of q1
  refine va_copyi (D := g.1) (tys := tysOf g) (f := σ.1 j0) (g := σ.1 j1) (n0 := n0) (n1 := n1) (ty := .int) C.1.1 C.1.2.1 (by rw [C.1.2.2.1, hL.1]) C.1.2.2.2.1 (C.1.2.2.2.2 _ h1) (C.1.2.2.2.2 _ w_acp.1) (C.1.2.2.2.2 _ w_acp.2.1) (C.1.2.2.2.2 _ w_acp.2.2) C.2.1.1 hP (wd_D C.2.2.1 σ) hS j0 j1 0 0 (wd_get0 hj0) (wd_get0 hj1) rfl rfl rfl a1 a2 a3 a4 a5 (fun _ _ => rfl) hfr hlo hd (fun H1 locs1 hP1 _ hS1 => kk r q2 H1 locs1 ls ?_ hS1 hL)
  subst hσ
  unfold cpy
  rw [← wd_putR hj1]
  exact hP1
end TR
end
section
/-! ===== calls, ends, layouts ===== -/
theorem neI {x : Int32} {k : Int32} (n : Int) (h : ¬ x = k) (e : k.toInt = n) : x.toInt ≠ n := fun q => h (Int32.toInt_inj.mp (q.trans e.symm))
section TC
variable {α : Type} {p : Program} {l : Launch} {e : Env} {R : Room} {s : State} {m : MethodId} {args : Array Value} {below : List Frame} {meth : Method} {c : Code} {g : GG} {cs : CS} {ad : Nat → Nat} {w : List Sh} {A : Nat → Prop} {nL : Nat} {Q : α → State → Prop} {ex : Option α} {σ : Mem} {pc : Nat} {lv : List (Option Value)} {st st0 : List Value} {cc : ByteArray} {own : String}
theorem AA_sub {H : Heap} {locs : List Loc} (C : Cx p R s m args c cc nL own g cs ad w A) (hS : va_S A s.heap H locs) : ∀ q, AA ad w.length H.size q → A q := by
  intro q h
  rcases h with ⟨j, hj, rfl⟩ | h
  · exact C.2.2.1.2 j hj
  · exact C.2.2.2.1 q (Nat.le_trans hS.1 h)
theorem preW_of {H : Heap} {locs : List Loc} {U : State} (C : Cx p R s m args c cc nL own g cs ad w A) (hP : va_P g.1 vwCl (wd ad σ 0 w) H) (hS : va_S A s.heap H locs) (hU : U.heap = H) (hW : s.WarmedH U.vm) : PreW g cs ad w σ H.size U :=
  ⟨by rw [hU], by rw [hU]; exact hP, C.2.1.go hS hU hW (AA_sub C hS), C.2.2.1.1, fun _ _ => trivial⟩
theorem gwV {idx : Nat} {y : MethodName} {cd : Cond} {CC : String} {n : Nat} (hw : MWV y cd CC n) (hl : Cond.methodLink own idx y ∈ TB) : GoodIn TB (wsV own idx CC y (cd :: TB)) := by
  intro w h
  rcases List.mem_append.mp h with h | h
  · simp only [List.mem_cons, List.not_mem_nil, or_false] at h
    rcases h with rfl | rfl | rfl | rfl
    · exact ⟨hl, tb_good hl⟩
    · exact ⟨hw.2.1, tb_good hw.2.1⟩
    · exact ⟨hw.2.2.1, tb_good hw.2.2.1⟩
    · exact ⟨hw.2.2.2.1, tb_good hw.2.2.2.1⟩
  · exact goodTB hw.1 w h
theorem gwS {idx : Nat} {y : MethodName} {cd : Cond} {n : Nat} (hw : MWS y cd n) (hl : Cond.methodLink own idx y ∈ TB) : GoodIn TB (va_wsS own idx y (cd :: TB)) := by
  intro w h
  rcases List.mem_append.mp h with h | h
  · simp only [List.mem_cons, List.not_mem_nil, or_false] at h
    rcases h with rfl | rfl | rfl
    · exact ⟨hl, tb_good hl⟩
    · exact ⟨hw.2.1, tb_good hw.2.1⟩
    · exact ⟨hw.2.2.1, tb_good hw.2.2.1⟩
  · exact goodTB hw.1 w h
theorem tr_ite {cnd : Prop} [Decidable cnd] {X Y : Option α} (kx : cnd → Tr p l e R s m args below meth c g ad w A nL Q X σ pc lv st) (ky : ¬ cnd → Tr p l e R s m args below meth c g ad w A nL Q Y σ pc lv st) : Tr p l e R s m args below meth c g ad w A nL Q (if cnd then X else Y) σ pc lv st := by
  by_cases q : cnd
  · rw [if_pos q]; exact kx q
  · rw [if_neg q]; exact ky q
theorem tr_tin (C : Cx p R s m args c cc nL own g cs ad w A) {dflt lo hi : Int} {offs : Array Int} {len : Nat} {x k : Int32} {off : Int} {tgt : Nat} (hd : decode cc pc = .ok (.tableswitch dflt lo hi offs, len)) (hx : x = k) (h1 : ¬ k.toInt < lo) (h2 : ¬ hi < k.toInt) (ho : offs[(k.toInt - lo).toNat]? = some off) (ht : (pc : Int) + off = (tgt : Int)) (kk : Tr p l e R s m args below meth c g ad w A nL Q ex σ tgt lv st) : Tr p l e R s m args below meth c g ad w A nL Q ex σ pc lv (.int x :: st) := by
  subst hx
  exact fun r hr H locs ls hP hS hL => lv_tableIn C.1.1 C.1.2.1 hd h1 h2 ho ht (kk r hr H locs ls hP hS hL)
theorem tr_tout (C : Cx p R s m args c cc nL own g cs ad w A) {dflt lo hi : Int} {offs : Array Int} {len : Nat} {x : Int32} {tgt : Nat} (hd : decode cc pc = .ok (.tableswitch dflt lo hi offs, len)) (h : x.toInt < lo ∨ hi < x.toInt) (ht : (pc : Int) + dflt = (tgt : Int)) (kk : Tr p l e R s m args below meth c g ad w A nL Q ex σ tgt lv st) : Tr p l e R s m args below meth c g ad w A nL Q ex σ pc lv (.int x :: st) :=
  fun r hr H locs ls hP hS hL => lv_tableOut C.1.1 C.1.2.1 hd h ht (kk r hr H locs ls hP hS hL)
theorem tr_look (C : Cx p R s m args c cc nL own g cs ad w A) {dflt : Int} {ps : Array (Int × Int)} {len : Nat} {x : Int32} {off : Int} {tgt : Nat} (hd : decode cc pc = .ok (.lookupswitch dflt ps, len)) (hp : (ps.toList.zip (ps.toList.drop 1)).all (fun (a, next) => a.1 < next.1) = true) (ho : Op.lookupswitch.offset ps.toList dflt x.toInt = off) (ht : (pc : Int) + off = (tgt : Int)) (kk : Tr p l e R s m args below meth c g ad w A nL Q ex σ tgt lv st) : Tr p l e R s m args below meth c g ad w A nL Q ex σ pc lv (.int x :: st) :=
  fun r hr H locs ls hP hS hL => lv_lookup C.1.1 C.1.2.1 hd hp ho ht (kk r hr H locs ls hP hS hL)
theorem tr_st {σ' : Mem} {lv' : List (Option Value)} {st' : List Value} (h1 : σ = σ') (h2 : lv = lv') (h3 : st = st') (kk : Tr p l e R s m args below meth c g ad w A nL Q ex σ' pc lv' st') : Tr p l e R s m args below meth c g ad w A nL Q ex σ pc lv st := by
  subst h1; subst h2; subst h3; exact kk
theorem tr_sub {lv' : List (Option Value)} (h : ∀ (i : Nat) (v : Value), lv'[i]? = some (some v) → lv[i]? = some (some v)) (kk : Tr p l e R s m args below meth c g ad w A nL Q ex σ pc lv' st) : Tr p l e R s m args below meth c g ad w A nL Q ex σ pc lv st :=
  fun r hr H locs ls hP hS hL => kk r hr H locs ls hP hS ⟨hL.1, hL.2.1, fun i v hv => hL.2.2 i v (h i v hv)⟩
theorem tr_cVI (C : Cx p R s m args c cc nL own g cs ad w A) {y : MethodName} {bytes : ByteArray} {maxL idx n : Nat} {ret : Option FieldType} {rm : Room} {av : List Value} {jb ci : Nat} {ds : List ShF} {q : vw_C} {f : Option (Int32 × Mem)} {kont : Int32 → Mem → Option α} (hM : CtI l g cs ad w y (.code y bytes maxL ret) rm (.ref (ad jb) :: av) σ f) (hw : MWV y (.code y bytes maxL ret) q.1 n) (hl : Cond.methodLink own idx y ∈ TB) (hj : w[jb]? = some (.inl (ci, ds))) (hc : vwCl[ci]? = some q) (hrm : rm.cells = 0 ∧ rm.slots = 0) (hR : rm.frames + 1 ≤ R.frames ∧ 8 + (maxL + 11) + rm.locals ≤ R.locals) (hn : av.length = n) (hst : st0 = av.reverse ++ .ref (ad jb) :: st) (hcat : (st.map fun v => v.category).sum ≤ 8) (hd : decode cc pc = .ok (.invokevirtual idx, 3)) (kk : ∀ r σ1, f = some (r, σ1) → Tr p l e R s m args below meth c g ad w A nL Q (kont r σ1) (σ1) (pc + 3) (lv) (.int r :: st)) : Tr p l e R s m args below meth c g ad w A nL Q (bnd f kont) (σ) (pc) (lv) (st0) := by
  intro z hz H locs ls hP hS hL
  cases hf : f with
  | none => rw [hf] at hz; cases hz
  | some q1 =>
    rw [hf] at hz
    refine va_calli (va_runV (As := av) (rest := st) C.1 (hM _ hf H.size) (cwV n C.1.2.2.2.2 (gwV hw hl) rfl hrm.1 hrm.2 hw.2.2.2.2.2 hR) ⟨PreW.blind _, va_recv C.2.1.1 hP hc (wd_get0 hj), fun U hU hW => ⟨rfl, preW_of C hP hS hU hW⟩⟩ rfl hn hL.1 hst (lv_room hcat) hd ⟨Nat.zero_le _, Nat.zero_le _⟩) hS (fun q _ h => AA_sub C hS q h) (AA_sub C hS) (fun r1 u t H1 locs1 ht hvm hw1 hB hz1 hk1 hS1 => ?_)
    subst hw1
    exact kk q1.1 q1.2 hf z hz H1 locs1 ls (by rw [← ht]; exact hB) hS1 hL
theorem tr_cSI (C : Cx p R s m args c cc nL own g cs ad w A) {y : MethodName} {bytes : ByteArray} {maxL idx n : Nat} {ret : Option FieldType} {rm : Room} {av : List Value} {f : Option (Int32 × Mem)} {kont : Int32 → Mem → Option α} (hM : CtI l g cs ad w y (.code y bytes maxL ret) rm (av) σ f) (hw : MWS y (.code y bytes maxL ret) n) (hl : Cond.methodLink own idx y ∈ TB) (hrm : rm.cells = 0 ∧ rm.slots = 0) (hR : rm.frames + 1 ≤ R.frames ∧ 8 + (maxL + 11) + rm.locals ≤ R.locals) (hn : av.length = n) (hst : st0 = av.reverse ++ st) (hcat : (st.map fun v => v.category).sum ≤ 8) (hd : decode cc pc = .ok (.invokestatic idx, 3)) (kk : ∀ r σ1, f = some (r, σ1) → Tr p l e R s m args below meth c g ad w A nL Q (kont r σ1) (σ1) (pc + 3) (lv) (.int r :: st)) : Tr p l e R s m args below meth c g ad w A nL Q (bnd f kont) (σ) (pc) (lv) (st0) := by
  intro z hz H locs ls hP hS hL
  cases hf : f with
  | none => rw [hf] at hz; cases hz
  | some q1 =>
    rw [hf] at hz
    refine va_calli (va_runS (As := av) (rest := st) C.1 (hM _ hf H.size) (va_cwS n C.1.2.2.2.2 (gwS hw hl) rfl hrm.1 hrm.2 hw.2.2.2 hR) ⟨PreW.blind _, fun U hU hW => ⟨rfl, preW_of C hP hS hU hW⟩⟩ rfl hn hL.1 hst (lv_room hcat) hd ⟨Nat.zero_le _, Nat.zero_le _⟩) hS (fun q _ h => AA_sub C hS q h) (AA_sub C hS) (fun r1 u t H1 locs1 ht hvm hw1 hB hz1 hk1 hS1 => ?_)
    subst hw1
    exact kk q1.1 q1.2 hf z hz H1 locs1 ls (by rw [← ht]; exact hB) hS1 hL
theorem tr_cVIP (C : Cx p R s m args c cc nL own g cs ad w A) {y : MethodName} {bytes : ByteArray} {maxL idx n : Nat} {ret : Option FieldType} {rm : Room} {av : List Value} {jb ci : Nat} {ds : List ShF} {q : vw_C} {f : Option Int32} {kont : Int32 → Option α} (hM : CtI l g cs ad w y (.code y bytes maxL ret) rm (.ref (ad jb) :: av) σ (pur f σ)) (hw : MWV y (.code y bytes maxL ret) q.1 n) (hl : Cond.methodLink own idx y ∈ TB) (hj : w[jb]? = some (.inl (ci, ds))) (hc : vwCl[ci]? = some q) (hrm : rm.cells = 0 ∧ rm.slots = 0) (hR : rm.frames + 1 ≤ R.frames ∧ 8 + (maxL + 11) + rm.locals ≤ R.locals) (hn : av.length = n) (hst : st0 = av.reverse ++ .ref (ad jb) :: st) (hcat : (st.map fun v => v.category).sum ≤ 8) (hd : decode cc pc = .ok (.invokevirtual idx, 3)) (kk : ∀ r, f = some r → Tr p l e R s m args below meth c g ad w A nL Q (kont r) (σ) (pc + 3) (lv) (.int r :: st)) : Tr p l e R s m args below meth c g ad w A nL Q (bn1 f kont) (σ) (pc) (lv) (st0) := by
  intro z hz H locs ls hP hS hL
  cases hf : f with
  | none => rw [hf] at hz; cases hz
  | some q1 =>
    rw [hf] at hz
    refine va_calli (va_runV (As := av) (rest := st) C.1 (hM _ (by rw [hf]; rfl) H.size) (cwV n C.1.2.2.2.2 (gwV hw hl) rfl hrm.1 hrm.2 hw.2.2.2.2.2 hR) ⟨PreW.blind _, va_recv C.2.1.1 hP hc (wd_get0 hj), fun U hU hW => ⟨rfl, preW_of C hP hS hU hW⟩⟩ rfl hn hL.1 hst (lv_room hcat) hd ⟨Nat.zero_le _, Nat.zero_le _⟩) hS (fun q _ h => AA_sub C hS q h) (AA_sub C hS) (fun r1 u t H1 locs1 ht hvm hw1 hB hz1 hk1 hS1 => ?_)
    have e9 : r1 = q1 := hw1
    rw [e9]
    exact kk q1 hf z hz H1 locs1 ls (by rw [← ht]; exact hB) hS1 hL
theorem tr_cSIP (C : Cx p R s m args c cc nL own g cs ad w A) {y : MethodName} {bytes : ByteArray} {maxL idx n : Nat} {ret : Option FieldType} {rm : Room} {av : List Value} {f : Option Int32} {kont : Int32 → Option α} (hM : CtI l g cs ad w y (.code y bytes maxL ret) rm (av) σ (pur f σ)) (hw : MWS y (.code y bytes maxL ret) n) (hl : Cond.methodLink own idx y ∈ TB) (hrm : rm.cells = 0 ∧ rm.slots = 0) (hR : rm.frames + 1 ≤ R.frames ∧ 8 + (maxL + 11) + rm.locals ≤ R.locals) (hn : av.length = n) (hst : st0 = av.reverse ++ st) (hcat : (st.map fun v => v.category).sum ≤ 8) (hd : decode cc pc = .ok (.invokestatic idx, 3)) (kk : ∀ r, f = some r → Tr p l e R s m args below meth c g ad w A nL Q (kont r) (σ) (pc + 3) (lv) (.int r :: st)) : Tr p l e R s m args below meth c g ad w A nL Q (bn1 f kont) (σ) (pc) (lv) (st0) := by
  intro z hz H locs ls hP hS hL
  cases hf : f with
  | none => rw [hf] at hz; cases hz
  | some q1 =>
    rw [hf] at hz
    refine va_calli (va_runS (As := av) (rest := st) C.1 (hM _ (by rw [hf]; rfl) H.size) (va_cwS n C.1.2.2.2.2 (gwS hw hl) rfl hrm.1 hrm.2 hw.2.2.2 hR) ⟨PreW.blind _, fun U hU hW => ⟨rfl, preW_of C hP hS hU hW⟩⟩ rfl hn hL.1 hst (lv_room hcat) hd ⟨Nat.zero_le _, Nat.zero_le _⟩) hS (fun q _ h => AA_sub C hS q h) (AA_sub C hS) (fun r1 u t H1 locs1 ht hvm hw1 hB hz1 hk1 hS1 => ?_)
    have e9 : r1 = q1 := hw1
    rw [e9]
    exact kk q1 hf z hz H1 locs1 ls (by rw [← ht]; exact hB) hS1 hL
theorem tr_cNIP (C : Cx p R s m args c cc nL own g cs ad w A) {y : MethodName} {bytes : ByteArray} {maxL idx n : Nat} {ret : Option FieldType} {rm : Room} {av : List Value} {host : String} {f : Option Int32} {kont : Int32 → Option α} (hM : CtI l g cs ad w y (.code y bytes maxL ret) rm (av) σ (pur f σ)) (hw : MWS y (.code y bytes maxL ret) n) (hl : va_Nw (.methodLinkNest own idx y host) s) (hrm : rm.cells = 0 ∧ rm.slots = 0) (hR : rm.frames + 1 ≤ R.frames ∧ 8 + (maxL + 11) + rm.locals ≤ R.locals) (hn : av.length = n) (hst : st0 = av.reverse ++ st) (hcat : (st.map fun v => v.category).sum ≤ 8) (hd : decode cc pc = .ok (.invokestatic idx, 3)) (kk : ∀ r, f = some r → Tr p l e R s m args below meth c g ad w A nL Q (kont r) (σ) (pc + 3) (lv) (.int r :: st)) : Tr p l e R s m args below meth c g ad w A nL Q (bn1 f kont) (σ) (pc) (lv) (st0) := by
  intro z hz H locs ls hP hS hL
  cases hf : f with
  | none => rw [hf] at hz; cases hz
  | some q1 =>
    rw [hf] at hz
    refine va_calli (va_runSN (As := av) (rest := st) C.1 (hM _ (by rw [hf]; rfl) H.size) ⟨va_cnB n C.1.2.2.2.2 (goodTB hw.1) rfl hrm.1 hrm.2 hl (C.1.2.2.2.2 _ hw.2.2.1) hw.2.2.2 hR, C.1.2.2.2.2 _ hw.2.1, trivial⟩ ⟨PreW.blind _, fun U hU hW => ⟨rfl, preW_of C hP hS hU hW⟩⟩ rfl hn hL.1 hst (lv_room hcat) hd ⟨Nat.zero_le _, Nat.zero_le _⟩) hS (fun q _ h => AA_sub C hS q h) (AA_sub C hS) (fun r1 u t H1 locs1 ht hvm hw1 hB hz1 hk1 hS1 => ?_)
    have e9 : r1 = q1 := hw1
    rw [e9]
    exact kk q1 hf z hz H1 locs1 ls (by rw [← ht]; exact hB) hS1 hL
theorem tr_cVL (C : Cx p R s m args c cc nL own g cs ad w A) {y : MethodName} {bytes : ByteArray} {maxL idx n : Nat} {ret : Option FieldType} {rm : Room} {av : List Value} {jb ci : Nat} {ds : List ShF} {q : vw_C} {f : Option (Int64 × Mem)} {kont : Int64 → Mem → Option α} (hM : CtL l g cs ad w y (.code y bytes maxL ret) rm (.ref (ad jb) :: av) σ f) (hw : MWV y (.code y bytes maxL ret) q.1 n) (hl : Cond.methodLink own idx y ∈ TB) (hj : w[jb]? = some (.inl (ci, ds))) (hc : vwCl[ci]? = some q) (hrm : rm.cells = 0 ∧ rm.slots = 0) (hR : rm.frames + 1 ≤ R.frames ∧ 8 + (maxL + 11) + rm.locals ≤ R.locals) (hn : av.length = n) (hst : st0 = av.reverse ++ .ref (ad jb) :: st) (hcat : (st.map fun v => v.category).sum ≤ 8) (hd : decode cc pc = .ok (.invokevirtual idx, 3)) (kk : ∀ r σ1, f = some (r, σ1) → Tr p l e R s m args below meth c g ad w A nL Q (kont r σ1) (σ1) (pc + 3) (lv) (.long r :: st)) : Tr p l e R s m args below meth c g ad w A nL Q (bnd f kont) (σ) (pc) (lv) (st0) := by
  intro z hz H locs ls hP hS hL
  cases hf : f with
  | none => rw [hf] at hz; cases hz
  | some q1 =>
    rw [hf] at hz
    refine va_calll (va_runV (As := av) (rest := st) C.1 (hM _ hf H.size) (cwV n C.1.2.2.2.2 (gwV hw hl) rfl hrm.1 hrm.2 hw.2.2.2.2.2 hR) ⟨PreW.blind _, va_recv C.2.1.1 hP hc (wd_get0 hj), fun U hU hW => ⟨rfl, preW_of C hP hS hU hW⟩⟩ rfl hn hL.1 hst (lv_room hcat) hd ⟨Nat.zero_le _, Nat.zero_le _⟩) hS (fun q _ h => AA_sub C hS q h) (AA_sub C hS) (fun r1 u t H1 locs1 ht hvm hw1 hB hz1 hk1 hS1 => ?_)
    subst hw1
    exact kk q1.1 q1.2 hf z hz H1 locs1 ls (by rw [← ht]; exact hB) hS1 hL
theorem tr_cSL (C : Cx p R s m args c cc nL own g cs ad w A) {y : MethodName} {bytes : ByteArray} {maxL idx n : Nat} {ret : Option FieldType} {rm : Room} {av : List Value} {f : Option (Int64 × Mem)} {kont : Int64 → Mem → Option α} (hM : CtL l g cs ad w y (.code y bytes maxL ret) rm (av) σ f) (hw : MWS y (.code y bytes maxL ret) n) (hl : Cond.methodLink own idx y ∈ TB) (hrm : rm.cells = 0 ∧ rm.slots = 0) (hR : rm.frames + 1 ≤ R.frames ∧ 8 + (maxL + 11) + rm.locals ≤ R.locals) (hn : av.length = n) (hst : st0 = av.reverse ++ st) (hcat : (st.map fun v => v.category).sum ≤ 8) (hd : decode cc pc = .ok (.invokestatic idx, 3)) (kk : ∀ r σ1, f = some (r, σ1) → Tr p l e R s m args below meth c g ad w A nL Q (kont r σ1) (σ1) (pc + 3) (lv) (.long r :: st)) : Tr p l e R s m args below meth c g ad w A nL Q (bnd f kont) (σ) (pc) (lv) (st0) := by
  intro z hz H locs ls hP hS hL
  cases hf : f with
  | none => rw [hf] at hz; cases hz
  | some q1 =>
    rw [hf] at hz
    refine va_calll (va_runS (As := av) (rest := st) C.1 (hM _ hf H.size) (va_cwS n C.1.2.2.2.2 (gwS hw hl) rfl hrm.1 hrm.2 hw.2.2.2 hR) ⟨PreW.blind _, fun U hU hW => ⟨rfl, preW_of C hP hS hU hW⟩⟩ rfl hn hL.1 hst (lv_room hcat) hd ⟨Nat.zero_le _, Nat.zero_le _⟩) hS (fun q _ h => AA_sub C hS q h) (AA_sub C hS) (fun r1 u t H1 locs1 ht hvm hw1 hB hz1 hk1 hS1 => ?_)
    subst hw1
    exact kk q1.1 q1.2 hf z hz H1 locs1 ls (by rw [← ht]; exact hB) hS1 hL
theorem tr_cVLP (C : Cx p R s m args c cc nL own g cs ad w A) {y : MethodName} {bytes : ByteArray} {maxL idx n : Nat} {ret : Option FieldType} {rm : Room} {av : List Value} {jb ci : Nat} {ds : List ShF} {q : vw_C} {f : Option Int64} {kont : Int64 → Option α} (hM : CtL l g cs ad w y (.code y bytes maxL ret) rm (.ref (ad jb) :: av) σ (pur f σ)) (hw : MWV y (.code y bytes maxL ret) q.1 n) (hl : Cond.methodLink own idx y ∈ TB) (hj : w[jb]? = some (.inl (ci, ds))) (hc : vwCl[ci]? = some q) (hrm : rm.cells = 0 ∧ rm.slots = 0) (hR : rm.frames + 1 ≤ R.frames ∧ 8 + (maxL + 11) + rm.locals ≤ R.locals) (hn : av.length = n) (hst : st0 = av.reverse ++ .ref (ad jb) :: st) (hcat : (st.map fun v => v.category).sum ≤ 8) (hd : decode cc pc = .ok (.invokevirtual idx, 3)) (kk : ∀ r, f = some r → Tr p l e R s m args below meth c g ad w A nL Q (kont r) (σ) (pc + 3) (lv) (.long r :: st)) : Tr p l e R s m args below meth c g ad w A nL Q (bn1 f kont) (σ) (pc) (lv) (st0) := by
  intro z hz H locs ls hP hS hL
  cases hf : f with
  | none => rw [hf] at hz; cases hz
  | some q1 =>
    rw [hf] at hz
    refine va_calll (va_runV (As := av) (rest := st) C.1 (hM _ (by rw [hf]; rfl) H.size) (cwV n C.1.2.2.2.2 (gwV hw hl) rfl hrm.1 hrm.2 hw.2.2.2.2.2 hR) ⟨PreW.blind _, va_recv C.2.1.1 hP hc (wd_get0 hj), fun U hU hW => ⟨rfl, preW_of C hP hS hU hW⟩⟩ rfl hn hL.1 hst (lv_room hcat) hd ⟨Nat.zero_le _, Nat.zero_le _⟩) hS (fun q _ h => AA_sub C hS q h) (AA_sub C hS) (fun r1 u t H1 locs1 ht hvm hw1 hB hz1 hk1 hS1 => ?_)
    have e9 : r1 = q1 := hw1
    rw [e9]
    exact kk q1 hf z hz H1 locs1 ls (by rw [← ht]; exact hB) hS1 hL
theorem tr_cSLP (C : Cx p R s m args c cc nL own g cs ad w A) {y : MethodName} {bytes : ByteArray} {maxL idx n : Nat} {ret : Option FieldType} {rm : Room} {av : List Value} {f : Option Int64} {kont : Int64 → Option α} (hM : CtL l g cs ad w y (.code y bytes maxL ret) rm (av) σ (pur f σ)) (hw : MWS y (.code y bytes maxL ret) n) (hl : Cond.methodLink own idx y ∈ TB) (hrm : rm.cells = 0 ∧ rm.slots = 0) (hR : rm.frames + 1 ≤ R.frames ∧ 8 + (maxL + 11) + rm.locals ≤ R.locals) (hn : av.length = n) (hst : st0 = av.reverse ++ st) (hcat : (st.map fun v => v.category).sum ≤ 8) (hd : decode cc pc = .ok (.invokestatic idx, 3)) (kk : ∀ r, f = some r → Tr p l e R s m args below meth c g ad w A nL Q (kont r) (σ) (pc + 3) (lv) (.long r :: st)) : Tr p l e R s m args below meth c g ad w A nL Q (bn1 f kont) (σ) (pc) (lv) (st0) := by
  intro z hz H locs ls hP hS hL
  cases hf : f with
  | none => rw [hf] at hz; cases hz
  | some q1 =>
    rw [hf] at hz
    refine va_calll (va_runS (As := av) (rest := st) C.1 (hM _ (by rw [hf]; rfl) H.size) (va_cwS n C.1.2.2.2.2 (gwS hw hl) rfl hrm.1 hrm.2 hw.2.2.2 hR) ⟨PreW.blind _, fun U hU hW => ⟨rfl, preW_of C hP hS hU hW⟩⟩ rfl hn hL.1 hst (lv_room hcat) hd ⟨Nat.zero_le _, Nat.zero_le _⟩) hS (fun q _ h => AA_sub C hS q h) (AA_sub C hS) (fun r1 u t H1 locs1 ht hvm hw1 hB hz1 hk1 hS1 => ?_)
    have e9 : r1 = q1 := hw1
    rw [e9]
    exact kk q1 hf z hz H1 locs1 ls (by rw [← ht]; exact hB) hS1 hL
theorem tr_cVV (C : Cx p R s m args c cc nL own g cs ad w A) {y : MethodName} {bytes : ByteArray} {maxL idx n : Nat} {ret : Option FieldType} {rm : Room} {av : List Value} {jb ci : Nat} {ds : List ShF} {q : vw_C} {f : Option Mem} {kont : Mem → Option α} (hM : CtV l g cs ad w y (.code y bytes maxL ret) rm (.ref (ad jb) :: av) σ f) (hw : MWV y (.code y bytes maxL ret) q.1 n) (hl : Cond.methodLink own idx y ∈ TB) (hj : w[jb]? = some (.inl (ci, ds))) (hc : vwCl[ci]? = some q) (hrm : rm.cells = 0 ∧ rm.slots = 0) (hR : rm.frames + 1 ≤ R.frames ∧ 8 + (maxL + 11) + rm.locals ≤ R.locals) (hn : av.length = n) (hst : st0 = av.reverse ++ .ref (ad jb) :: st) (hcat : (st.map fun v => v.category).sum ≤ 8) (hd : decode cc pc = .ok (.invokevirtual idx, 3)) (kk : ∀ σ1, f = some σ1 → Tr p l e R s m args below meth c g ad w A nL Q (kont σ1) (σ1) (pc + 3) (lv) (st)) : Tr p l e R s m args below meth c g ad w A nL Q (bn1 f kont) (σ) (pc) (lv) (st0) := by
  intro z hz H locs ls hP hS hL
  cases hf : f with
  | none => rw [hf] at hz; cases hz
  | some q1 =>
    rw [hf] at hz
    refine va_callv (va_runV (As := av) (rest := st) C.1 (hM _ hf H.size) (cwV n C.1.2.2.2.2 (gwV hw hl) rfl hrm.1 hrm.2 hw.2.2.2.2.2 hR) ⟨PreW.blind _, va_recv C.2.1.1 hP hc (wd_get0 hj), fun U hU hW => ⟨rfl, preW_of C hP hS hU hW⟩⟩ rfl hn hL.1 hst (lv_room hcat) hd ⟨Nat.zero_le _, Nat.zero_le _⟩) hS (fun q _ h => AA_sub C hS q h) (AA_sub C hS) (fun u t H1 locs1 ht hvm hw1 hB hz1 hk1 hS1 => ?_)
    exact kk q1 hf z hz H1 locs1 ls (by rw [← ht]; exact hB) hS1 hL
theorem tr_cSV (C : Cx p R s m args c cc nL own g cs ad w A) {y : MethodName} {bytes : ByteArray} {maxL idx n : Nat} {ret : Option FieldType} {rm : Room} {av : List Value} {f : Option Mem} {kont : Mem → Option α} (hM : CtV l g cs ad w y (.code y bytes maxL ret) rm (av) σ f) (hw : MWS y (.code y bytes maxL ret) n) (hl : Cond.methodLink own idx y ∈ TB) (hrm : rm.cells = 0 ∧ rm.slots = 0) (hR : rm.frames + 1 ≤ R.frames ∧ 8 + (maxL + 11) + rm.locals ≤ R.locals) (hn : av.length = n) (hst : st0 = av.reverse ++ st) (hcat : (st.map fun v => v.category).sum ≤ 8) (hd : decode cc pc = .ok (.invokestatic idx, 3)) (kk : ∀ σ1, f = some σ1 → Tr p l e R s m args below meth c g ad w A nL Q (kont σ1) (σ1) (pc + 3) (lv) (st)) : Tr p l e R s m args below meth c g ad w A nL Q (bn1 f kont) (σ) (pc) (lv) (st0) := by
  intro z hz H locs ls hP hS hL
  cases hf : f with
  | none => rw [hf] at hz; cases hz
  | some q1 =>
    rw [hf] at hz
    refine va_callv (va_runS (As := av) (rest := st) C.1 (hM _ hf H.size) (va_cwS n C.1.2.2.2.2 (gwS hw hl) rfl hrm.1 hrm.2 hw.2.2.2 hR) ⟨PreW.blind _, fun U hU hW => ⟨rfl, preW_of C hP hS hU hW⟩⟩ rfl hn hL.1 hst (lv_room hcat) hd ⟨Nat.zero_le _, Nat.zero_le _⟩) hS (fun q _ h => AA_sub C hS q h) (AA_sub C hS) (fun u t H1 locs1 ht hvm hw1 hB hz1 hk1 hS1 => ?_)
    exact kk q1 hf z hz H1 locs1 ls (by rw [← ht]; exact hB) hS1 hL
end TC
theorem ctI_intro {l : Launch} {g : GG} {cs : CS} {ad : Nat → Nat} {w : List Sh} {y : MethodName} {cc : ByteArray} {maxL : Nat} {ret : Option FieldType} {rm : Room} {av : List Value} {σ : Mem} {ex : Option (Int32 × Mem)} {own : String} (hy : plainName y.cls = true) (hcls : y.cls = own) (lv0 : List (Option Value)) (hlen : (lg_sl av).length ≤ maxL) (hlv : pz 0 lv0 = lv_args 0 av) (body : ∀ (p : Program) (e : Env) (s : State) (m : MethodId) (args : Array Value) (below : List Frame) (meth : Method) (c : Code) (A : Nat → Prop), Cx p rm s m args c cc maxL own g cs ad w A → meth.sig.returnType = ret → meth.locks = false → Tr p l e rm s m args below meth c g ad w A maxL (QI g ad w A below args s) ex σ 0 lv0 []) : CtI l g cs ad w y (.code y cc maxL ret) rm av σ ex := by
  intro r hr0 sz
  refine Met.ofW (cc := cc) (maxL := maxL) (ret := ret) hy rfl ?_
  intro p e s m args below meth c s₁ B hml hv
  obtain ⟨rfl, hsz, hP, hE, hI⟩ := hv
  have hts : ∀ w ∈ TB, w.before av.toArray s = true := fun w hw => atoms_spec (ws := Cond.code y cc maxL ret :: TB) B.pre w (List.mem_cons_of_mem _ hw)
  have hown : s.vm.findClass y.cls = some m.cls := findClass_of_methodNamed B.named
  rw [hcls] at hown
  subst hsz
  have hl := lv_entry av (n := maxL) hlen
  rw [lg_entry_eq]
  generalize (lg_sl av ++ List.replicate (maxL - (lg_sl av).length) Slot.unset).toArray = ls at hl ⊢
  have hL : LH ls maxL lv0 := ⟨hl.1, hl.2.1, fun i v hi => by
    have h1 : (i, v) ∈ pz 0 lv0 := pz_mem.mpr ⟨i, (Nat.zero_add i).symm, hi⟩
    rw [hlv] at h1
    exact hl.2.2 (i, v) h1⟩
  exact body p e s m av.toArray below meth c (AA ad w.length s.heap.size) ⟨⟨B.exec, B.bytes, hml, hown, hts⟩, hE, adOk_self hI, fun q h => Or.inr h, Nat.le_add_left 1 _⟩ B.returns B.notSynchronized r hr0 s.heap [] ls hP va_S.rf hL
theorem ctL_intro {l : Launch} {g : GG} {cs : CS} {ad : Nat → Nat} {w : List Sh} {y : MethodName} {cc : ByteArray} {maxL : Nat} {ret : Option FieldType} {rm : Room} {av : List Value} {σ : Mem} {ex : Option (Int64 × Mem)} {own : String} (hy : plainName y.cls = true) (hcls : y.cls = own) (lv0 : List (Option Value)) (hlen : (lg_sl av).length ≤ maxL) (hlv : pz 0 lv0 = lv_args 0 av) (body : ∀ (p : Program) (e : Env) (s : State) (m : MethodId) (args : Array Value) (below : List Frame) (meth : Method) (c : Code) (A : Nat → Prop), Cx p rm s m args c cc maxL own g cs ad w A → meth.sig.returnType = ret → meth.locks = false → Tr p l e rm s m args below meth c g ad w A maxL (QL g ad w A below args s) ex σ 0 lv0 []) : CtL l g cs ad w y (.code y cc maxL ret) rm av σ ex := by
  intro r hr0 sz
  refine Met.ofW (cc := cc) (maxL := maxL) (ret := ret) hy rfl ?_
  intro p e s m args below meth c s₁ B hml hv
  obtain ⟨rfl, hsz, hP, hE, hI⟩ := hv
  have hts : ∀ w ∈ TB, w.before av.toArray s = true := fun w hw => atoms_spec (ws := Cond.code y cc maxL ret :: TB) B.pre w (List.mem_cons_of_mem _ hw)
  have hown : s.vm.findClass y.cls = some m.cls := findClass_of_methodNamed B.named
  rw [hcls] at hown
  subst hsz
  have hl := lv_entry av (n := maxL) hlen
  rw [lg_entry_eq]
  generalize (lg_sl av ++ List.replicate (maxL - (lg_sl av).length) Slot.unset).toArray = ls at hl ⊢
  have hL : LH ls maxL lv0 := ⟨hl.1, hl.2.1, fun i v hi => by
    have h1 : (i, v) ∈ pz 0 lv0 := pz_mem.mpr ⟨i, (Nat.zero_add i).symm, hi⟩
    rw [hlv] at h1
    exact hl.2.2 (i, v) h1⟩
  exact body p e s m av.toArray below meth c (AA ad w.length s.heap.size) ⟨⟨B.exec, B.bytes, hml, hown, hts⟩, hE, adOk_self hI, fun q h => Or.inr h, Nat.le_add_left 1 _⟩ B.returns B.notSynchronized r hr0 s.heap [] ls hP va_S.rf hL
theorem ctV_intro {l : Launch} {g : GG} {cs : CS} {ad : Nat → Nat} {w : List Sh} {y : MethodName} {cc : ByteArray} {maxL : Nat} {ret : Option FieldType} {rm : Room} {av : List Value} {σ : Mem} {ex : Option (Mem)} {own : String} (hy : plainName y.cls = true) (hcls : y.cls = own) (lv0 : List (Option Value)) (hlen : (lg_sl av).length ≤ maxL) (hlv : pz 0 lv0 = lv_args 0 av) (body : ∀ (p : Program) (e : Env) (s : State) (m : MethodId) (args : Array Value) (below : List Frame) (meth : Method) (c : Code) (A : Nat → Prop), Cx p rm s m args c cc maxL own g cs ad w A → meth.sig.returnType = ret → meth.locks = false → Tr p l e rm s m args below meth c g ad w A maxL (QV g ad w A below args s) ex σ 0 lv0 []) : CtV l g cs ad w y (.code y cc maxL ret) rm av σ ex := by
  intro r hr0 sz
  refine Met.ofW (cc := cc) (maxL := maxL) (ret := ret) hy rfl ?_
  intro p e s m args below meth c s₁ B hml hv
  obtain ⟨rfl, hsz, hP, hE, hI⟩ := hv
  have hts : ∀ w ∈ TB, w.before av.toArray s = true := fun w hw => atoms_spec (ws := Cond.code y cc maxL ret :: TB) B.pre w (List.mem_cons_of_mem _ hw)
  have hown : s.vm.findClass y.cls = some m.cls := findClass_of_methodNamed B.named
  rw [hcls] at hown
  subst hsz
  have hl := lv_entry av (n := maxL) hlen
  rw [lg_entry_eq]
  generalize (lg_sl av ++ List.replicate (maxL - (lg_sl av).length) Slot.unset).toArray = ls at hl ⊢
  have hL : LH ls maxL lv0 := ⟨hl.1, hl.2.1, fun i v hi => by
    have h1 : (i, v) ∈ pz 0 lv0 := pz_mem.mpr ⟨i, (Nat.zero_add i).symm, hi⟩
    rw [hlv] at h1
    exact hl.2.2 (i, v) h1⟩
  exact body p e s m av.toArray below meth c (AA ad w.length s.heap.size) ⟨⟨B.exec, B.bytes, hml, hown, hts⟩, hE, adOk_self hI, fun q h => Or.inr h, Nat.le_add_left 1 _⟩ B.returns B.notSynchronized r hr0 s.heap [] ls hP va_S.rf hL
theorem ctIP_intro {l : Launch} {g : GG} {cs : CS} {ad : Nat → Nat} {w : List Sh} {y : MethodName} {cc : ByteArray} {maxL : Nat} {ret : Option FieldType} {rm : Room} {av : List Value} {σ : Mem} {ex : Option (Int32)} {own : String} (hy : plainName y.cls = true) (hcls : y.cls = own) (lv0 : List (Option Value)) (hlen : (lg_sl av).length ≤ maxL) (hlv : pz 0 lv0 = lv_args 0 av) (body : ∀ (p : Program) (e : Env) (s : State) (m : MethodId) (args : Array Value) (below : List Frame) (meth : Method) (c : Code) (A : Nat → Prop), Cx p rm s m args c cc maxL own g cs ad w A → meth.sig.returnType = ret → meth.locks = false → Tr p l e rm s m args below meth c g ad w A maxL (QP g ad w A below args s σ) ex σ 0 lv0 []) : CtI l g cs ad w y (.code y cc maxL ret) rm av σ (pur ex σ) := by
  intro r hr0 sz
  refine Met.ofW (cc := cc) (maxL := maxL) (ret := ret) hy rfl ?_
  intro p e s m args below meth c s₁ B hml hv
  obtain ⟨rfl, hsz, hP, hE, hI⟩ := hv
  have hts : ∀ w ∈ TB, w.before av.toArray s = true := fun w hw => atoms_spec (ws := Cond.code y cc maxL ret :: TB) B.pre w (List.mem_cons_of_mem _ hw)
  have hown : s.vm.findClass y.cls = some m.cls := findClass_of_methodNamed B.named
  rw [hcls] at hown
  subst hsz
  have hl := lv_entry av (n := maxL) hlen
  rw [lg_entry_eq]
  generalize (lg_sl av ++ List.replicate (maxL - (lg_sl av).length) Slot.unset).toArray = ls at hl ⊢
  have hL : LH ls maxL lv0 := ⟨hl.1, hl.2.1, fun i v hi => by
    have h1 : (i, v) ∈ pz 0 lv0 := pz_mem.mpr ⟨i, (Nat.zero_add i).symm, hi⟩
    rw [hlv] at h1
    exact hl.2.2 (i, v) h1⟩
  cases hex : ex with
  | none => rw [hex] at hr0; cases hr0
  | some r0 =>
    rw [hex] at hr0
    cases hr0
    exact body p e s m av.toArray below meth c (AA ad w.length s.heap.size) ⟨⟨B.exec, B.bytes, hml, hown, hts⟩, hE, adOk_self hI, fun q h => Or.inr h, Nat.le_add_left 1 _⟩ B.returns B.notSynchronized r0 hex s.heap [] ls hP va_S.rf hL
theorem ctLP_intro {l : Launch} {g : GG} {cs : CS} {ad : Nat → Nat} {w : List Sh} {y : MethodName} {cc : ByteArray} {maxL : Nat} {ret : Option FieldType} {rm : Room} {av : List Value} {σ : Mem} {ex : Option (Int64)} {own : String} (hy : plainName y.cls = true) (hcls : y.cls = own) (lv0 : List (Option Value)) (hlen : (lg_sl av).length ≤ maxL) (hlv : pz 0 lv0 = lv_args 0 av) (body : ∀ (p : Program) (e : Env) (s : State) (m : MethodId) (args : Array Value) (below : List Frame) (meth : Method) (c : Code) (A : Nat → Prop), Cx p rm s m args c cc maxL own g cs ad w A → meth.sig.returnType = ret → meth.locks = false → Tr p l e rm s m args below meth c g ad w A maxL (QPL g ad w A below args s σ) ex σ 0 lv0 []) : CtL l g cs ad w y (.code y cc maxL ret) rm av σ (pur ex σ) := by
  intro r hr0 sz
  refine Met.ofW (cc := cc) (maxL := maxL) (ret := ret) hy rfl ?_
  intro p e s m args below meth c s₁ B hml hv
  obtain ⟨rfl, hsz, hP, hE, hI⟩ := hv
  have hts : ∀ w ∈ TB, w.before av.toArray s = true := fun w hw => atoms_spec (ws := Cond.code y cc maxL ret :: TB) B.pre w (List.mem_cons_of_mem _ hw)
  have hown : s.vm.findClass y.cls = some m.cls := findClass_of_methodNamed B.named
  rw [hcls] at hown
  subst hsz
  have hl := lv_entry av (n := maxL) hlen
  rw [lg_entry_eq]
  generalize (lg_sl av ++ List.replicate (maxL - (lg_sl av).length) Slot.unset).toArray = ls at hl ⊢
  have hL : LH ls maxL lv0 := ⟨hl.1, hl.2.1, fun i v hi => by
    have h1 : (i, v) ∈ pz 0 lv0 := pz_mem.mpr ⟨i, (Nat.zero_add i).symm, hi⟩
    rw [hlv] at h1
    exact hl.2.2 (i, v) h1⟩
  cases hex : ex with
  | none => rw [hex] at hr0; cases hr0
  | some r0 =>
    rw [hex] at hr0
    cases hr0
    exact body p e s m av.toArray below meth c (AA ad w.length s.heap.size) ⟨⟨B.exec, B.bytes, hml, hown, hts⟩, hE, adOk_self hI, fun q h => Or.inr h, Nat.le_add_left 1 _⟩ B.returns B.notSynchronized r0 hex s.heap [] ls hP va_S.rf hL
def flD (b : Nat) : List ShF := [.inl (some (b + 1)), .inl (some (b + 2)), .inl (some (b + 3)), .inr true, .inr false, .inr false, .inr false, .inr false, .inl (some (1)), .inl (some (b + 4)), .inl (some (b + 5))]
def rdD : List ShF := [.inr false, .inl (some (36)), .inl (some (37)), .inl (some (38)), .inl (some (39)), .inr false, .inr false, .inr false, .inr false]
def shD (b : Nat) : List ShF := [.inl (some (b + 1)), .inr false, .inr false]
def txD (b : Nat) : List ShF := [.inl (some (b + 1)), .inl (some (b + 2)), .inl (some (b + 3)), .inr false, .inr false]
def mnD : List ShF := [.inl (some (1)), .inl (some (2)), .inl (some (35)), .inl (some (40)), .inl (some (46)), .inl (some (52)), .inl (some (58)), .inr false, .inr false]
def shC (g : GG) : List Sh := [.inl (4, mnD), .inr ((g.2 2, 6), some (fun i => some (3 + 4 * i))), .inr ((g.2 3, 4), some (fun i => some (27 + 2 * i))), .inl (3, txD 3), .inr ((g.2 0, 160), none), .inr ((g.2 0, 3), none), .inr ((g.2 0, 161), none), .inl (3, txD 7), .inr ((g.2 0, 160), none), .inr ((g.2 0, 3), none), .inr ((g.2 0, 161), none), .inl (3, txD 11), .inr ((g.2 0, 160), none), .inr ((g.2 0, 3), none), .inr ((g.2 0, 161), none), .inl (3, txD 15), .inr ((g.2 0, 160), none), .inr ((g.2 0, 3), none), .inr ((g.2 0, 161), none), .inl (3, txD 19), .inr ((g.2 0, 160), none), .inr ((g.2 0, 3), none), .inr ((g.2 0, 161), none), .inl (3, txD 23), .inr ((g.2 0, 160), none), .inr ((g.2 0, 3), none), .inr ((g.2 0, 161), none), .inl (2, shD 27), .inr ((g.2 0, 40), none), .inl (2, shD 29), .inr ((g.2 0, 40), none), .inl (2, shD 31), .inr ((g.2 0, 40), none), .inl (2, shD 33), .inr ((g.2 0, 40), none), .inl (1, rdD), .inr ((g.2 0, 160), none), .inr ((g.2 0, 161), none), .inr ((g.2 0, 161), none), .inr ((g.2 0, 160), none), .inl (0, flD 40), .inr ((g.2 0, 8), none), .inr ((g.2 0, 8), none), .inr ((g.2 0, 8), none), .inr ((g.2 0, 8), none), .inr ((g.2 0, 6), none), .inl (0, flD 46), .inr ((g.2 0, 8), none), .inr ((g.2 0, 8), none), .inr ((g.2 0, 8), none), .inr ((g.2 0, 8), none), .inr ((g.2 0, 6), none), .inl (0, flD 52), .inr ((g.2 0, 8), none), .inr ((g.2 0, 8), none), .inr ((g.2 0, 8), none), .inr ((g.2 0, 8), none), .inr ((g.2 0, 6), none), .inl (0, flD 58), .inr ((g.2 0, 8), none), .inr ((g.2 0, 8), none), .inr ((g.2 0, 8), none), .inr ((g.2 0, 8), none), .inr ((g.2 0, 6), none)]
def moD : List ShF := [.inr false, .inl (some (1)), .inl (some (2)), .inr false, .inr false, .inl (some (3)), .inr false, .inr false, .inr false, .inl (some (4)), .inl (some (5)), .inl (some (6)), .inl (some (7)), .inr false, .inr false, .inr false, .inr false, .inr false, .inr false, .inr false, .inr false, .inr false, .inr false, .inr false, .inr false, .inr true, .inr false, .inr false, .inr false, .inl (some (8)), .inl (some (9)), .inr false, .inl (some (10)), .inl (some (11)), .inl (some (12)), .inr false, .inr false, .inr false, .inr false, .inl (some (13)), .inl (some (14)), .inl (some (15)), .inl (some (16))]
def shM (g : GG) : List Sh := [.inl (5, moD), .inr ((g.2 0, 960), none), .inr ((g.2 0, 6), none), .inr ((g.2 0, 160), none), .inr ((g.2 0, 36), none), .inr ((g.2 0, 8), none), .inr ((g.2 0, 8), none), .inr ((g.2 0, 8), none), .inr ((g.2 0, 8), none), .inr ((g.2 0, 8), none), .inr ((g.2 0, 36), none), .inr ((g.2 0, 8), none), .inr ((g.2 0, 8), none), .inr ((g.2 1, 4), none), .inr ((g.2 0, 4), none), .inr ((g.2 0, 4), none), .inr ((g.2 0, 160), none)]
def isFl (b : Nat) : Prop := b = 40 ∨ b = 46 ∨ b = 52 ∨ b = 58
def isTx (b : Nat) : Prop := ∃ k, k < 6 ∧ b = 3 + 4 * k
def isSt (b : Nat) : Prop := ∃ k, k < 4 ∧ b = 27 + 2 * k
def isFa (b : Nat) : Prop := ∃ k, isFl k ∧ b = k + 5
theorem fl40 : isFl 40 := Or.inl rfl
theorem fl46 : isFl 46 := Or.inr (Or.inl rfl)
theorem fl52 : isFl 52 := Or.inr (Or.inr (Or.inl rfl))
theorem fl58 : isFl 58 := Or.inr (Or.inr (Or.inr rfl))
theorem isTx_of {k : Nat} (h : k < 6) : isTx (3 + 4 * k) := ⟨k, h, rfl⟩
theorem isSt_of {k : Nat} (h : k < 4) : isSt (27 + 2 * k) := ⟨k, h, rfl⟩
theorem isFa_of {k : Nat} (h : isFl k) : isFa (k + 5) := ⟨k, h, rfl⟩
theorem fl_0 {g : GG} {b : Nat} (h : isFl b) : (shC g)[b]? = some (.inl (0, flD b)) := by rcases h with rfl | rfl | rfl | rfl <;> rfl
theorem fl_1 {g : GG} {b : Nat} (h : isFl b) : (shC g)[b + 1]? = some (.inr ((g.2 0, 8), none)) := by rcases h with rfl | rfl | rfl | rfl <;> rfl
theorem fl_2 {g : GG} {b : Nat} (h : isFl b) : (shC g)[b + 2]? = some (.inr ((g.2 0, 8), none)) := by rcases h with rfl | rfl | rfl | rfl <;> rfl
theorem fl_3 {g : GG} {b : Nat} (h : isFl b) : (shC g)[b + 3]? = some (.inr ((g.2 0, 8), none)) := by rcases h with rfl | rfl | rfl | rfl <;> rfl
theorem fl_4 {g : GG} {b : Nat} (h : isFl b) : (shC g)[b + 4]? = some (.inr ((g.2 0, 8), none)) := by rcases h with rfl | rfl | rfl | rfl <;> rfl
theorem fl_5 {g : GG} {b : Nat} (h : isFl b) : (shC g)[b + 5]? = some (.inr ((g.2 0, 6), none)) := by rcases h with rfl | rfl | rfl | rfl <;> rfl
theorem fa_0 {g : GG} {b : Nat} (h : isFa b) : (shC g)[b]? = some (.inr ((g.2 0, 6), none)) := by
  obtain ⟨k, hk, rfl⟩ := h
  exact fl_5 hk
theorem k6 {P : Nat → Prop} (h0 : P 0) (h1 : P 1) (h2 : P 2) (h3 : P 3) (h4 : P 4) (h5 : P 5) (k : Nat) (h : k < 6) : P k := by
  match k, h with
  | 0, _ => exact h0
  | 1, _ => exact h1
  | 2, _ => exact h2
  | 3, _ => exact h3
  | 4, _ => exact h4
  | 5, _ => exact h5
theorem k4 {P : Nat → Prop} (h0 : P 0) (h1 : P 1) (h2 : P 2) (h3 : P 3) (k : Nat) (h : k < 4) : P k := by
  match k, h with
  | 0, _ => exact h0
  | 1, _ => exact h1
  | 2, _ => exact h2
  | 3, _ => exact h3
theorem tx_0 {g : GG} {b : Nat} (h : isTx b) : (shC g)[b]? = some (.inl (3, txD b)) := by
  obtain ⟨k, hk, rfl⟩ := h
  exact k6 (P := fun k => (shC g)[3 + 4 * k]? = some (.inl (3, txD (3 + 4 * k)))) rfl rfl rfl rfl rfl rfl k hk
theorem tx_1 {g : GG} {b : Nat} (h : isTx b) : (shC g)[b + 1]? = some (.inr ((g.2 0, 160), none)) := by
  obtain ⟨k, hk, rfl⟩ := h
  exact k6 (P := fun k => (shC g)[3 + 4 * k + 1]? = some (.inr ((g.2 0, 160), none))) rfl rfl rfl rfl rfl rfl k hk
theorem tx_2 {g : GG} {b : Nat} (h : isTx b) : (shC g)[b + 2]? = some (.inr ((g.2 0, 3), none)) := by
  obtain ⟨k, hk, rfl⟩ := h
  exact k6 (P := fun k => (shC g)[3 + 4 * k + 2]? = some (.inr ((g.2 0, 3), none))) rfl rfl rfl rfl rfl rfl k hk
theorem tx_3 {g : GG} {b : Nat} (h : isTx b) : (shC g)[b + 3]? = some (.inr ((g.2 0, 161), none)) := by
  obtain ⟨k, hk, rfl⟩ := h
  exact k6 (P := fun k => (shC g)[3 + 4 * k + 3]? = some (.inr ((g.2 0, 161), none))) rfl rfl rfl rfl rfl rfl k hk
theorem st_0 {g : GG} {b : Nat} (h : isSt b) : (shC g)[b]? = some (.inl (2, shD b)) := by
  obtain ⟨k, hk, rfl⟩ := h
  exact k4 (P := fun k => (shC g)[27 + 2 * k]? = some (.inl (2, shD (27 + 2 * k)))) rfl rfl rfl rfl k hk
theorem st_1 {g : GG} {b : Nat} (h : isSt b) : (shC g)[b + 1]? = some (.inr ((g.2 0, 40), none)) := by
  obtain ⟨k, hk, rfl⟩ := h
  exact k4 (P := fun k => (shC g)[27 + 2 * k + 1]? = some (.inr ((g.2 0, 40), none))) rfl rfl rfl rfl k hk
end
